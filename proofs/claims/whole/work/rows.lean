section
-- ===== PART A: goes FIRST, ahead of the names: the tables' words, and 'selects' of the private methods out of them =====
/-- a private method of a class that the tables say can be made, by its rows of tables_1 -/
def lw_okq (q : MethodName × Nat) : Prop := (q.1.cls ≠ "java/lang/invoke/MethodHandle" ∧ q.1.cls ≠ "java/lang/invoke/VarHandle") ∧ Cond.instantiable q.1.cls q.2 ∈ tables_1 ∧ Cond.privateMethod q.1 ∈ tables_1 ∧ Cond.instanceMethod q.1 ∈ tables_1
theorem lw_p0 : lw_okq (⟨"CombinationRows$Space", "sortRows", "()V"⟩, 7) := ⟨⟨by decide +kernel, by decide +kernel⟩, List.mem_of_getElem? (i := 21) (by decide +kernel), List.mem_of_getElem? (i := 51) (by decide +kernel), List.mem_of_getElem? (i := 52) (by decide +kernel)⟩
theorem lw_p1 : lw_okq (⟨"CombinationRows$Space", "wordWith", "(III)J"⟩, 7) := ⟨⟨by decide +kernel, by decide +kernel⟩, List.mem_of_getElem? (i := 21) (by decide +kernel), List.mem_of_getElem? (i := 55) (by decide +kernel), List.mem_of_getElem? (i := 56) (by decide +kernel)⟩
theorem lw_p2 : lw_okq (⟨"CombinationRows$Generation", "countGoalsOf", "(I)I"⟩, 8) := ⟨⟨by decide +kernel, by decide +kernel⟩, List.mem_of_getElem? (i := 129) (by decide +kernel), List.mem_of_getElem? (i := 326) (by decide +kernel), List.mem_of_getElem? (i := 327) (by decide +kernel)⟩
theorem lw_p3 : lw_okq (⟨"CombinationRows$Generation", "isGoal", "(II)Z"⟩, 8) := ⟨⟨by decide +kernel, by decide +kernel⟩, List.mem_of_getElem? (i := 129) (by decide +kernel), List.mem_of_getElem? (i := 331) (by decide +kernel), List.mem_of_getElem? (i := 332) (by decide +kernel)⟩
theorem lw_p4 : lw_okq (⟨"CombinationRows$Generation", "setsCoveredBy", "(I)J"⟩, 8) := ⟨⟨by decide +kernel, by decide +kernel⟩, List.mem_of_getElem? (i := 129) (by decide +kernel), List.mem_of_getElem? (i := 352) (by decide +kernel), List.mem_of_getElem? (i := 353) (by decide +kernel)⟩
theorem lw_p5 : lw_okq (⟨"CombinationRows", "takeSeeds", "()V"⟩, 7) := ⟨⟨by decide +kernel, by decide +kernel⟩, List.mem_of_getElem? (i := 13) (by decide +kernel), List.mem_of_getElem? (i := 371) (by decide +kernel), List.mem_of_getElem? (i := 372) (by decide +kernel)⟩
theorem lw_p6 : lw_okq (⟨"CombinationRows$Space", "hasAllValues", "(I)Z"⟩, 7) := ⟨⟨by decide +kernel, by decide +kernel⟩, List.mem_of_getElem? (i := 21) (by decide +kernel), List.mem_of_getElem? (i := 379) (by decide +kernel), List.mem_of_getElem? (i := 380) (by decide +kernel)⟩
theorem lw_p7 : lw_okq (⟨"CombinationRows$Generation", "cover", "(II)Z"⟩, 8) := ⟨⟨by decide +kernel, by decide +kernel⟩, List.mem_of_getElem? (i := 129) (by decide +kernel), List.mem_of_getElem? (i := 388) (by decide +kernel), List.mem_of_getElem? (i := 389) (by decide +kernel)⟩
theorem lw_p8 : lw_okq (⟨"CombinationRows$Generation", "lowerGains", "(IILCombinationRows$NumberSet;)V"⟩, 8) := ⟨⟨by decide +kernel, by decide +kernel⟩, List.mem_of_getElem? (i := 129) (by decide +kernel), List.mem_of_getElem? (i := 396) (by decide +kernel), List.mem_of_getElem? (i := 397) (by decide +kernel)⟩
theorem lw_p9 : lw_okq (⟨"CombinationRows$Generation", "bestOf", "(LCombinationRows$NumberSet;)I"⟩, 8) := ⟨⟨by decide +kernel, by decide +kernel⟩, List.mem_of_getElem? (i := 129) (by decide +kernel), List.mem_of_getElem? (i := 408) (by decide +kernel), List.mem_of_getElem? (i := 409) (by decide +kernel)⟩
theorem lw_p10 : lw_okq (⟨"CombinationRows", "isTaken", "(I)Z"⟩, 7) := ⟨⟨by decide +kernel, by decide +kernel⟩, List.mem_of_getElem? (i := 13) (by decide +kernel), List.mem_of_getElem? (i := 428) (by decide +kernel), List.mem_of_getElem? (i := 429) (by decide +kernel)⟩
theorem lw_p11 : lw_okq (⟨"CombinationRows$Space", "isMinimalForbidden", "(II)Z"⟩, 7) := ⟨⟨by decide +kernel, by decide +kernel⟩, List.mem_of_getElem? (i := 21) (by decide +kernel), List.mem_of_getElem? (i := 463) (by decide +kernel), List.mem_of_getElem? (i := 464) (by decide +kernel)⟩
theorem lw_p12 : lw_okq (⟨"CombinationRowsModel", "noValue", "(II)Z"⟩, 29) := ⟨⟨by decide +kernel, by decide +kernel⟩, List.mem_of_getElem? (i := 470) (by decide +kernel), List.mem_of_getElem? (i := 575) (by decide +kernel), List.mem_of_getElem? (i := 576) (by decide +kernel)⟩
theorem lw_p13 : lw_okq (⟨"CombinationRowsModel", "size", "(I)I"⟩, 29) := ⟨⟨by decide +kernel, by decide +kernel⟩, List.mem_of_getElem? (i := 470) (by decide +kernel), List.mem_of_getElem? (i := 583) (by decide +kernel), List.mem_of_getElem? (i := 584) (by decide +kernel)⟩
theorem lw_p14 : lw_okq (⟨"CombinationRowsModel", "push", "(IIII)Z"⟩, 29) := ⟨⟨by decide +kernel, by decide +kernel⟩, List.mem_of_getElem? (i := 470) (by decide +kernel), List.mem_of_getElem? (i := 591) (by decide +kernel), List.mem_of_getElem? (i := 592) (by decide +kernel)⟩
theorem lw_p15 : lw_okq (⟨"CombinationRowsModel", "look", "()V"⟩, 29) := ⟨⟨by decide +kernel, by decide +kernel⟩, List.mem_of_getElem? (i := 470) (by decide +kernel), List.mem_of_getElem? (i := 615) (by decide +kernel), List.mem_of_getElem? (i := 616) (by decide +kernel)⟩
def lw_privs_1 : List (MethodName × Nat) := [(⟨"CombinationRows$Space", "sortRows", "()V"⟩, 7), (⟨"CombinationRows$Space", "wordWith", "(III)J"⟩, 7), (⟨"CombinationRows$Generation", "countGoalsOf", "(I)I"⟩, 8), (⟨"CombinationRows$Generation", "isGoal", "(II)Z"⟩, 8), (⟨"CombinationRows$Generation", "setsCoveredBy", "(I)J"⟩, 8), (⟨"CombinationRows", "takeSeeds", "()V"⟩, 7), (⟨"CombinationRows$Space", "hasAllValues", "(I)Z"⟩, 7), (⟨"CombinationRows$Generation", "cover", "(II)Z"⟩, 8), (⟨"CombinationRows$Generation", "lowerGains", "(IILCombinationRows$NumberSet;)V"⟩, 8), (⟨"CombinationRows$Generation", "bestOf", "(LCombinationRows$NumberSet;)I"⟩, 8), (⟨"CombinationRows", "isTaken", "(I)Z"⟩, 7), (⟨"CombinationRows$Space", "isMinimalForbidden", "(II)Z"⟩, 7), (⟨"CombinationRowsModel", "noValue", "(II)Z"⟩, 29), (⟨"CombinationRowsModel", "size", "(I)I"⟩, 29), (⟨"CombinationRowsModel", "push", "(IIII)Z"⟩, 29), (⟨"CombinationRowsModel", "look", "()V"⟩, 29)]
theorem lw_r1 : ∀ q ∈ lw_privs_1, lw_okq q := List.forall_mem_cons.mpr ⟨lw_p0, List.forall_mem_cons.mpr ⟨lw_p1, List.forall_mem_cons.mpr ⟨lw_p2, List.forall_mem_cons.mpr ⟨lw_p3, List.forall_mem_cons.mpr ⟨lw_p4, List.forall_mem_cons.mpr ⟨lw_p5, List.forall_mem_cons.mpr ⟨lw_p6, List.forall_mem_cons.mpr ⟨lw_p7, List.forall_mem_cons.mpr ⟨lw_p8, List.forall_mem_cons.mpr ⟨lw_p9, List.forall_mem_cons.mpr ⟨lw_p10, List.forall_mem_cons.mpr ⟨lw_p11, List.forall_mem_cons.mpr ⟨lw_p12, List.forall_mem_cons.mpr ⟨lw_p13, List.forall_mem_cons.mpr ⟨lw_p14, List.forall_mem_cons.mpr ⟨lw_p15, fun _ h => absurd h List.not_mem_nil⟩⟩⟩⟩⟩⟩⟩⟩⟩⟩⟩⟩⟩⟩⟩⟩
theorem lw_p16 : lw_okq (⟨"CombinationRowsModel", "judge", "(I)I"⟩, 29) := ⟨⟨by decide +kernel, by decide +kernel⟩, List.mem_of_getElem? (i := 470) (by decide +kernel), List.mem_of_getElem? (i := 619) (by decide +kernel), List.mem_of_getElem? (i := 620) (by decide +kernel)⟩
theorem lw_p17 : lw_okq (⟨"CombinationRowsModel", "meets", "(I)Z"⟩, 29) := ⟨⟨by decide +kernel, by decide +kernel⟩, List.mem_of_getElem? (i := 470) (by decide +kernel), List.mem_of_getElem? (i := 623) (by decide +kernel), List.mem_of_getElem? (i := 624) (by decide +kernel)⟩
theorem lw_p18 : lw_okq (⟨"CombinationRowsModel", "place", "(II)I"⟩, 29) := ⟨⟨by decide +kernel, by decide +kernel⟩, List.mem_of_getElem? (i := 470) (by decide +kernel), List.mem_of_getElem? (i := 627) (by decide +kernel), List.mem_of_getElem? (i := 628) (by decide +kernel)⟩
theorem lw_p19 : lw_okq (⟨"CombinationRowsModel", "asked", "(I)Z"⟩, 29) := ⟨⟨by decide +kernel, by decide +kernel⟩, List.mem_of_getElem? (i := 470) (by decide +kernel), List.mem_of_getElem? (i := 631) (by decide +kernel), List.mem_of_getElem? (i := 632) (by decide +kernel)⟩
theorem lw_p20 : lw_okq (⟨"CombinationRowsModel", "wrong", "(I)I"⟩, 29) := ⟨⟨by decide +kernel, by decide +kernel⟩, List.mem_of_getElem? (i := 470) (by decide +kernel), List.mem_of_getElem? (i := 635) (by decide +kernel), List.mem_of_getElem? (i := 636) (by decide +kernel)⟩
theorem lw_p21 : lw_okq (⟨"CombinationRowsModel", "take", "(I)V"⟩, 29) := ⟨⟨by decide +kernel, by decide +kernel⟩, List.mem_of_getElem? (i := 470) (by decide +kernel), List.mem_of_getElem? (i := 639) (by decide +kernel), List.mem_of_getElem? (i := 640) (by decide +kernel)⟩
theorem lw_p22 : lw_okq (⟨"CombinationRowsModel", "count", "(IZ)I"⟩, 29) := ⟨⟨by decide +kernel, by decide +kernel⟩, List.mem_of_getElem? (i := 470) (by decide +kernel), List.mem_of_getElem? (i := 643) (by decide +kernel), List.mem_of_getElem? (i := 644) (by decide +kernel)⟩
theorem lw_p23 : lw_okq (⟨"CombinationRowsModel", "noRow", "(I)Z"⟩, 29) := ⟨⟨by decide +kernel, by decide +kernel⟩, List.mem_of_getElem? (i := 470) (by decide +kernel), List.mem_of_getElem? (i := 663) (by decide +kernel), List.mem_of_getElem? (i := 664) (by decide +kernel)⟩
theorem lw_p24 : lw_okq (⟨"CombinationRowsModel", "least", "(I)Z"⟩, 29) := ⟨⟨by decide +kernel, by decide +kernel⟩, List.mem_of_getElem? (i := 470) (by decide +kernel), List.mem_of_getElem? (i := 691) (by decide +kernel), List.mem_of_getElem? (i := 692) (by decide +kernel)⟩
def lw_privs_2 : List (MethodName × Nat) := [(⟨"CombinationRowsModel", "judge", "(I)I"⟩, 29), (⟨"CombinationRowsModel", "meets", "(I)Z"⟩, 29), (⟨"CombinationRowsModel", "place", "(II)I"⟩, 29), (⟨"CombinationRowsModel", "asked", "(I)Z"⟩, 29), (⟨"CombinationRowsModel", "wrong", "(I)I"⟩, 29), (⟨"CombinationRowsModel", "take", "(I)V"⟩, 29), (⟨"CombinationRowsModel", "count", "(IZ)I"⟩, 29), (⟨"CombinationRowsModel", "noRow", "(I)Z"⟩, 29), (⟨"CombinationRowsModel", "least", "(I)Z"⟩, 29)]
theorem lw_r2 : ∀ q ∈ lw_privs_2, lw_okq q := List.forall_mem_cons.mpr ⟨lw_p16, List.forall_mem_cons.mpr ⟨lw_p17, List.forall_mem_cons.mpr ⟨lw_p18, List.forall_mem_cons.mpr ⟨lw_p19, List.forall_mem_cons.mpr ⟨lw_p20, List.forall_mem_cons.mpr ⟨lw_p21, List.forall_mem_cons.mpr ⟨lw_p22, List.forall_mem_cons.mpr ⟨lw_p23, List.forall_mem_cons.mpr ⟨lw_p24, fun _ h => absurd h List.not_mem_nil⟩⟩⟩⟩⟩⟩⟩⟩⟩
def lw_privs : List (MethodName × Nat) := lw_privs_1 ++ (lw_privs_2)
def lw_tbl : List Cond := k2_sels lw_privs ++ tables_1
theorem lw_privs_ok : ∀ q ∈ lw_privs, lw_okq q := by
  show ∀ q ∈ lw_privs_1 ++ (lw_privs_2), lw_okq q
  exact List.forall_mem_append.mpr ⟨lw_r1, lw_r2⟩
end
section
def R_NS : String := "CombinationRows$NumberSet"
def F_NS : u_T := fun k => match k with
  | _ => ("CombinationRows$NumberSet", "words", "[J", true)
def t_NS : Nat → FieldType := fun k => match k with
  | _ => .array .long
theorem n_NS : ∀ a, a < 1 → ∀ b, b < 1 → a ≠ b → (F_NS a).2.1 ≠ (F_NS b).2.1 := by decide +kernel
theorem t_NS_ok : ∀ k, k < 1 → parseFieldDescriptor (F_NS k).2.2.1 = some (t_NS k) := by decide +kernel
def R_Re : String := "CombinationRows$Relations"
def F_Re : u_T := fun k => match k with
  | 0 => ("CombinationRows$Relations", "asked", "J", false)
  | _ => ("CombinationRows$Relations", "count", "I", false)
def t_Re : Nat → FieldType := fun k => match k with
  | 0 => .long
  | _ => .int
theorem n_Re : ∀ a, a < 2 → ∀ b, b < 2 → a ≠ b → (F_Re a).2.1 ≠ (F_Re b).2.1 := by decide +kernel
theorem t_Re_ok : ∀ k, k < 2 → parseFieldDescriptor (F_Re k).2.2.1 = some (t_Re k) := by decide +kernel
def R_Sp : String := "CombinationRows$Space"
def F_Sp : u_T := fun k => match k with
  | 0 => ("CombinationRows$Space", "values", "[I", true)
  | 1 => ("CombinationRows$Space", "invalidValues", "[I", true)
  | 2 => ("CombinationRows$Space", "meetingRules", "LCombinationRows$NumberSet;", true)
  | 3 => ("CombinationRows$Space", "valid", "LCombinationRows$NumberSet;", true)
  | 4 => ("CombinationRows$Space", "negative", "LCombinationRows$NumberSet;", true)
  | 5 => ("CombinationRows$Space", "parameters", "I", false)
  | _ => ("CombinationRows$Space", "rules", "I", false)
def t_Sp : Nat → FieldType := fun k => match k with
  | 0 => .array .int
  | 1 => .array .int
  | 2 => .object "CombinationRows$NumberSet"
  | 3 => .object "CombinationRows$NumberSet"
  | 4 => .object "CombinationRows$NumberSet"
  | 5 => .int
  | _ => .int
theorem n_Sp : ∀ a, a < 7 → ∀ b, b < 7 → a ≠ b → (F_Sp a).2.1 ≠ (F_Sp b).2.1 := by decide +kernel
theorem t_Sp_ok : ∀ k, k < 7 → parseFieldDescriptor (F_Sp k).2.2.1 = some (t_Sp k) := by decide +kernel
def R_Te : String := "CombinationRows$Terms"
def F_Te : u_T := fun k => match k with
  | 0 => ("CombinationRows$Terms", "meeting", "[LCombinationRows$NumberSet;", true)
  | 1 => ("CombinationRows$Terms", "depths", "[I", true)
  | _ => ("CombinationRows$Terms", "count", "I", false)
def t_Te : Nat → FieldType := fun k => match k with
  | 0 => .array (.object "CombinationRows$NumberSet")
  | 1 => .array .int
  | _ => .int
theorem n_Te : ∀ a, a < 3 → ∀ b, b < 3 → a ≠ b → (F_Te a).2.1 ≠ (F_Te b).2.1 := by decide +kernel
theorem t_Te_ok : ∀ k, k < 3 → parseFieldDescriptor (F_Te k).2.2.1 = some (t_Te k) := by decide +kernel
def R_Ge : String := "CombinationRows$Generation"
def F_Ge : u_T := fun k => match k with
  | 0 => ("CombinationRows$Generation", "space", "LCombinationRows$Space;", true)
  | 1 => ("CombinationRows$Generation", "relations", "LCombinationRows$Relations;", true)
  | 2 => ("CombinationRows$Generation", "covered", "[J", true)
  | 3 => ("CombinationRows$Generation", "gains", "[I", true)
  | 4 => ("CombinationRows$Generation", "numbers", "[I", true)
  | 5 => ("CombinationRows$Generation", "gainsTaken", "[I", true)
  | 6 => ("CombinationRows$Generation", "taken", "I", false)
  | _ => ("CombinationRows$Generation", "goalsLeft", "I", false)
def t_Ge : Nat → FieldType := fun k => match k with
  | 0 => .object "CombinationRows$Space"
  | 1 => .object "CombinationRows$Relations"
  | 2 => .array .long
  | 3 => .array .int
  | 4 => .array .int
  | 5 => .array .int
  | 6 => .int
  | _ => .int
theorem n_Ge : ∀ a, a < 8 → ∀ b, b < 8 → a ≠ b → (F_Ge a).2.1 ≠ (F_Ge b).2.1 := by decide +kernel
theorem t_Ge_ok : ∀ k, k < 8 → parseFieldDescriptor (F_Ge k).2.2.1 = some (t_Ge k) := by decide +kernel
def R_CR : String := "CombinationRows"
def F_CR : u_T := fun k => match k with
  | 0 => ("CombinationRows", "space", "LCombinationRows$Space;", true)
  | 1 => ("CombinationRows", "relations", "LCombinationRows$Relations;", true)
  | 2 => ("CombinationRows", "terms", "LCombinationRows$Terms;", true)
  | 3 => ("CombinationRows", "seeds", "[I", true)
  | 4 => ("CombinationRows", "generation", "LCombinationRows$Generation;", true)
  | 5 => ("CombinationRows", "seedCount", "I", false)
  | _ => ("CombinationRows", "underWay", "Z", false)
def t_CR : Nat → FieldType := fun k => match k with
  | 0 => .object "CombinationRows$Space"
  | 1 => .object "CombinationRows$Relations"
  | 2 => .object "CombinationRows$Terms"
  | 3 => .array .int
  | 4 => .object "CombinationRows$Generation"
  | 5 => .int
  | _ => .boolean
theorem n_CR : ∀ a, a < 7 → ∀ b, b < 7 → a ≠ b → (F_CR a).2.1 ≠ (F_CR b).2.1 := by decide +kernel
theorem t_CR_ok : ∀ k, k < 7 → parseFieldDescriptor (F_CR k).2.2.1 = some (t_CR k) := by decide +kernel
def R_Mo : String := "CombinationRowsModel"
def F_Mo : u_T := fun k => match k with
  | 0 => ("CombinationRowsModel", "params", "I", false)
  | 1 => ("CombinationRowsModel", "values", "[I", false)
  | 2 => ("CombinationRowsModel", "bad", "[Z", false)
  | 3 => ("CombinationRowsModel", "relations", "I", false)
  | 4 => ("CombinationRowsModel", "relSet", "[I", false)
  | 5 => ("CombinationRowsModel", "relStrength", "[I", false)
  | 6 => ("CombinationRowsModel", "terms", "I", false)
  | 7 => ("CombinationRowsModel", "termOp", "[B", false)
  | 8 => ("CombinationRowsModel", "termA", "[S", false)
  | 9 => ("CombinationRowsModel", "termB", "[S", false)
  | 10 => ("CombinationRowsModel", "termDepth", "[B", false)
  | 11 => ("CombinationRowsModel", "truth", "[Z", false)
  | 12 => ("CombinationRowsModel", "stacked", "I", false)
  | 13 => ("CombinationRowsModel", "stack", "[I", false)
  | 14 => ("CombinationRowsModel", "rules", "I", false)
  | 15 => ("CombinationRowsModel", "rule", "[I", false)
  | 16 => ("CombinationRowsModel", "seeds", "I", false)
  | 17 => ("CombinationRowsModel", "seed", "[I", false)
  | 18 => ("CombinationRowsModel", "fresh", "Z", false)
  | 19 => ("CombinationRowsModel", "kinds", "[B", false)
  | 20 => ("CombinationRowsModel", "inValid", "[Z", false)
  | 21 => ("CombinationRowsModel", "inNegative", "[Z", false)
  | 22 => ("CombinationRowsModel", "on", "Z", false)
  | 23 => ("CombinationRowsModel", "open", "[Z", false)
  | 24 => ("CombinationRowsModel", "openPlain", "I", false)
  | 25 => ("CombinationRowsModel", "openAll", "I", false)
  | 26 => ("CombinationRowsModel", "taken", "I", false)
  | 27 => ("CombinationRowsModel", "rows", "[S", false)
  | _ => ("CombinationRowsModel", "gains", "[S", false)
def t_Mo : Nat → FieldType := fun k => match k with
  | 0 => .int
  | 1 => .array .int
  | 2 => .array .boolean
  | 3 => .int
  | 4 => .array .int
  | 5 => .array .int
  | 6 => .int
  | 7 => .array .byte
  | 8 => .array .short
  | 9 => .array .short
  | 10 => .array .byte
  | 11 => .array .boolean
  | 12 => .int
  | 13 => .array .int
  | 14 => .int
  | 15 => .array .int
  | 16 => .int
  | 17 => .array .int
  | 18 => .boolean
  | 19 => .array .byte
  | 20 => .array .boolean
  | 21 => .array .boolean
  | 22 => .boolean
  | 23 => .array .boolean
  | 24 => .int
  | 25 => .int
  | 26 => .int
  | 27 => .array .short
  | _ => .array .short
theorem n_Mo : ∀ a, a < 29 → ∀ b, b < 29 → a ≠ b → (F_Mo a).2.1 ≠ (F_Mo b).2.1 := by decide +kernel
theorem t_Mo_ok : ∀ k, k < 29 → parseFieldDescriptor (F_Mo k).2.2.1 = some (t_Mo k) := by decide +kernel
def R_JI : String := "java/lang/Integer"
def R_JL : String := "java/lang/Long"
def R_JM : String := "java/lang/Math"
def R_JA : String := "java/util/Arrays"
def R_La : String := "CombinationRowsLaw"
abbrev classes : List vw_C := [(R_NS, F_NS, 1), (R_Re, F_Re, 2), (R_Sp, F_Sp, 7), (R_Te, F_Te, 3), (R_Ge, F_Ge, 8), (R_CR, F_CR, 7), (R_Mo, F_Mo, 29)]
abbrev b_CR_init : ByteArray := prog_1_method_1_code
def y_CR_init : MethodName := ⟨R_CR, "<init>", "()V"⟩
abbrev cw_CR_init : Cond := .code y_CR_init b_CR_init 1 none
abbrev b_Sp_init : ByteArray := prog_5_method_1_code
def y_Sp_init : MethodName := ⟨R_Sp, "<init>", "()V"⟩
abbrev cw_Sp_init : Cond := .code y_Sp_init b_Sp_init 1 none
abbrev b_NS_init : ByteArray := prog_3_method_1_code
def y_NS_init : MethodName := ⟨R_NS, "<init>", "()V"⟩
abbrev cw_NS_init : Cond := .code y_NS_init b_NS_init 1 none
abbrev b_JA_fillI : ByteArray := prog_12_method_103_code
def y_JA_fillI : MethodName := ⟨R_JA, "fill", "([II)V"⟩
abbrev cw_JA_fillI : Cond := .code y_JA_fillI b_JA_fillI 4 none
abbrev b_NS_becomeAll : ByteArray := prog_3_method_8_code
def y_NS_becomeAll : MethodName := ⟨R_NS, "becomeAll", "()V"⟩
abbrev cw_NS_becomeAll : Cond := .code y_NS_becomeAll b_NS_becomeAll 1 none
abbrev b_JA_fillL : ByteArray := prog_12_method_101_code
def y_JA_fillL : MethodName := ⟨R_JA, "fill", "([JJ)V"⟩
abbrev cw_JA_fillL : Cond := .code y_JA_fillL b_JA_fillL 5 none
abbrev b_Sp_sortRows : ByteArray := prog_5_method_5_code
def y_Sp_sortRows : MethodName := ⟨R_Sp, "sortRows", "()V"⟩
abbrev cw_Sp_sortRows : Cond := .code y_Sp_sortRows b_Sp_sortRows 11 none
abbrev b_Sp_wordWith : ByteArray := prog_5_method_6_code
def y_Sp_wordWith : MethodName := ⟨R_Sp, "wordWith", "(III)J"⟩
abbrev cw_Sp_wordWith : Cond := .code y_Sp_wordWith b_Sp_wordWith 7 (some .long)
abbrev b_NS_wordOf : ByteArray := prog_3_method_6_code
def y_NS_wordOf : MethodName := ⟨R_NS, "wordOf", "(III)J"⟩
abbrev cw_NS_wordOf : Cond := .code y_NS_wordOf b_NS_wordOf 3 (some .long)
abbrev b_CR_valueOf : ByteArray := prog_1_method_24_code
def y_CR_valueOf : MethodName := ⟨R_CR, "valueOf", "(II)I"⟩
abbrev cw_CR_valueOf : Cond := .code y_CR_valueOf b_CR_valueOf 2 (some .int)
abbrev b_Re_init : ByteArray := prog_4_method_1_code
def y_Re_init : MethodName := ⟨R_Re, "<init>", "()V"⟩
abbrev cw_Re_init : Cond := .code y_Re_init b_Re_init 1 none
abbrev b_Te_init : ByteArray := prog_6_method_1_code
def y_Te_init : MethodName := ⟨R_Te, "<init>", "()V"⟩
abbrev cw_Te_init : Cond := .code y_Te_init b_Te_init 2 none
abbrev b_Ge_init : ByteArray := prog_2_method_1_code
def y_Ge_init : MethodName := ⟨R_Ge, "<init>", "(LCombinationRows$Space;LCombinationRows$Relations;)V"⟩
abbrev cw_Ge_init : Cond := .code y_Ge_init b_Ge_init 3 none
abbrev b_CR_parameter : ByteArray := prog_1_method_2_code
def y_CR_parameter : MethodName := ⟨R_CR, "parameter", "(I)I"⟩
abbrev cw_CR_parameter : Cond := .code y_CR_parameter b_CR_parameter 2 (some .int)
abbrev b_Sp_addParameter : ByteArray := prog_5_method_2_code
def y_Sp_addParameter : MethodName := ⟨R_Sp, "addParameter", "(I)V"⟩
abbrev cw_Sp_addParameter : Cond := .code y_Sp_addParameter b_Sp_addParameter 2 none
abbrev b_CR_invalid : ByteArray := prog_1_method_3_code
def y_CR_invalid : MethodName := ⟨R_CR, "invalid", "(II)Z"⟩
abbrev cw_CR_invalid : Cond := .code y_CR_invalid b_CR_invalid 3 (some .boolean)
abbrev b_Sp_hasValue : ByteArray := prog_5_method_7_code
def y_Sp_hasValue : MethodName := ⟨R_Sp, "hasValue", "(II)Z"⟩
abbrev cw_Sp_hasValue : Cond := .code y_Sp_hasValue b_Sp_hasValue 3 (some .boolean)
abbrev b_Sp_isInvalid : ByteArray := prog_5_method_8_code
def y_Sp_isInvalid : MethodName := ⟨R_Sp, "isInvalid", "(II)Z"⟩
abbrev cw_Sp_isInvalid : Cond := .code y_Sp_isInvalid b_Sp_isInvalid 3 (some .boolean)
abbrev b_Sp_makeInvalid : ByteArray := prog_5_method_3_code
def y_Sp_makeInvalid : MethodName := ⟨R_Sp, "makeInvalid", "(II)V"⟩
abbrev cw_Sp_makeInvalid : Cond := .code y_Sp_makeInvalid b_Sp_makeInvalid 3 none
abbrev b_CR_relation : ByteArray := prog_1_method_4_code
def y_CR_relation : MethodName := ⟨R_CR, "relation", "(II)I"⟩
abbrev cw_CR_relation : Cond := .code y_CR_relation b_CR_relation 3 (some .int)
abbrev b_Sp_isSet : ByteArray := prog_5_method_11_code
def y_Sp_isSet : MethodName := ⟨R_Sp, "isSet", "(I)Z"⟩
abbrev cw_Sp_isSet : Cond := .code y_Sp_isSet b_Sp_isSet 2 (some .boolean)
abbrev b_JI_bitCount : ByteArray := prog_9_method_49_code
def y_JI_bitCount : MethodName := ⟨R_JI, "bitCount", "(I)I"⟩
abbrev cw_JI_bitCount : Cond := .code y_JI_bitCount b_JI_bitCount 1 (some .int)
abbrev b_Re_add : ByteArray := prog_4_method_2_code
def y_Re_add : MethodName := ⟨R_Re, "add", "(II)V"⟩
abbrev cw_Re_add : Cond := .code y_Re_add b_Re_add 4 none
abbrev b_CR_is : ByteArray := prog_1_method_5_code
def y_CR_is : MethodName := ⟨R_CR, "is", "(II)Z"⟩
abbrev cw_CR_is : Cond := .code y_CR_is b_CR_is 3 (some .boolean)
abbrev b_Te_push : ByteArray := prog_6_method_2_code
def y_Te_push : MethodName := ⟨R_Te, "push", "(II)Z"⟩
abbrev cw_Te_push : Cond := .code y_Te_push b_Te_push 3 (some .boolean)
abbrev b_NS_becomeIs : ByteArray := prog_3_method_7_code
def y_NS_becomeIs : MethodName := ⟨R_NS, "becomeIs", "(II)V"⟩
abbrev cw_NS_becomeIs : Cond := .code y_NS_becomeIs b_NS_becomeIs 4 none
abbrev b_CR_not : ByteArray := prog_1_method_6_code
def y_CR_not : MethodName := ⟨R_CR, "not", "()Z"⟩
abbrev cw_CR_not : Cond := .code y_CR_not b_CR_not 1 (some .boolean)
abbrev b_Te_negate : ByteArray := prog_6_method_3_code
def y_Te_negate : MethodName := ⟨R_Te, "negate", "()Z"⟩
abbrev cw_Te_negate : Cond := .code y_Te_negate b_Te_negate 1 (some .boolean)
abbrev b_NS_becomeNot : ByteArray := prog_3_method_9_code
def y_NS_becomeNot : MethodName := ⟨R_NS, "becomeNot", "()V"⟩
abbrev cw_NS_becomeNot : Cond := .code y_NS_becomeNot b_NS_becomeNot 2 none
abbrev b_CR_join : ByteArray := prog_1_method_7_code
def y_CR_join : MethodName := ⟨R_CR, "join", "(I)Z"⟩
abbrev cw_CR_join : Cond := .code y_CR_join b_CR_join 2 (some .boolean)
abbrev b_Te_combine : ByteArray := prog_6_method_4_code
def y_Te_combine : MethodName := ⟨R_Te, "combine", "(I)Z"⟩
abbrev cw_Te_combine : Cond := .code y_Te_combine b_Te_combine 3 (some .boolean)
abbrev b_JM_max : ByteArray := prog_11_method_65_code
def y_JM_max : MethodName := ⟨R_JM, "max", "(II)I"⟩
abbrev cw_JM_max : Cond := .code y_JM_max b_JM_max 2 (some .int)
abbrev b_Te_combineSets : ByteArray := prog_6_method_5_code
def y_Te_combineSets : MethodName := ⟨R_Te, "combineSets", "(ILCombinationRows$NumberSet;LCombinationRows$NumberSet;)V"⟩
abbrev cw_Te_combineSets : Cond := .code y_Te_combineSets b_Te_combineSets 3 none
abbrev b_NS_becomeAnd : ByteArray := prog_3_method_10_code
def y_NS_becomeAnd : MethodName := ⟨R_NS, "becomeAnd", "(LCombinationRows$NumberSet;)V"⟩
abbrev cw_NS_becomeAnd : Cond := .code y_NS_becomeAnd b_NS_becomeAnd 3 none
abbrev b_NS_becomeOr : ByteArray := prog_3_method_11_code
def y_NS_becomeOr : MethodName := ⟨R_NS, "becomeOr", "(LCombinationRows$NumberSet;)V"⟩
abbrev cw_NS_becomeOr : Cond := .code y_NS_becomeOr b_NS_becomeOr 3 none
abbrev b_CR_require : ByteArray := prog_1_method_8_code
def y_CR_require : MethodName := ⟨R_CR, "require", "()I"⟩
abbrev cw_CR_require : Cond := .code y_CR_require b_CR_require 1 (some .int)
abbrev b_Te_pop : ByteArray := prog_6_method_6_code
def y_Te_pop : MethodName := ⟨R_Te, "pop", "()LCombinationRows$NumberSet;"⟩
abbrev cw_Te_pop : Cond := .code y_Te_pop b_Te_pop 1 (some (.object "CombinationRows$NumberSet"))
abbrev b_Sp_addRule : ByteArray := prog_5_method_4_code
def y_Sp_addRule : MethodName := ⟨R_Sp, "addRule", "(LCombinationRows$NumberSet;)V"⟩
abbrev cw_Sp_addRule : Cond := .code y_Sp_addRule b_Sp_addRule 2 none
abbrev b_CR_seed : ByteArray := prog_1_method_9_code
def y_CR_seed : MethodName := ⟨R_CR, "seed", "(I)I"⟩
abbrev cw_CR_seed : Cond := .code y_CR_seed b_CR_seed 2 (some .int)
abbrev b_CR_begin : ByteArray := prog_1_method_10_code
def y_CR_begin : MethodName := ⟨R_CR, "begin", "()I"⟩
abbrev cw_CR_begin : Cond := .code y_CR_begin b_CR_begin 2 (some .int)
abbrev b_NS_isEmpty : ByteArray := prog_3_method_3_code
def y_NS_isEmpty : MethodName := ⟨R_NS, "isEmpty", "()Z"⟩
abbrev cw_NS_isEmpty : Cond := .code y_NS_isEmpty b_NS_isEmpty 1 (some .boolean)
abbrev b_NS_hasRowWith : ByteArray := prog_3_method_4_code
def y_NS_hasRowWith : MethodName := ⟨R_NS, "hasRowWith", "(II)Z"⟩
abbrev cw_NS_hasRowWith : Cond := .code y_NS_hasRowWith b_NS_hasRowWith 10 (some .boolean)
abbrev b_NS_inWordWith : ByteArray := prog_3_method_5_code
def y_NS_inWordWith : MethodName := ⟨R_NS, "inWordWith", "(II)J"⟩
abbrev cw_NS_inWordWith : Cond := .code y_NS_inWordWith b_NS_inWordWith 5 (some .long)
abbrev b_CR_nextWithin : ByteArray := prog_1_method_25_code
def y_CR_nextWithin : MethodName := ⟨R_CR, "nextWithin", "(II)I"⟩
abbrev cw_CR_nextWithin : Cond := .code y_CR_nextWithin b_CR_nextWithin 2 (some .int)
abbrev b_Ge_countGoals : ByteArray := prog_2_method_3_code
def y_Ge_countGoals : MethodName := ⟨R_Ge, "countGoals", "()I"⟩
abbrev cw_Ge_countGoals : Cond := .code y_Ge_countGoals b_Ge_countGoals 5 (some .int)
abbrev b_Re_askedWith : ByteArray := prog_4_method_3_code
def y_Re_askedWith : MethodName := ⟨R_Re, "askedWith", "(I)J"⟩
abbrev cw_Re_askedWith : Cond := .code y_Re_askedWith b_Re_askedWith 5 (some .long)
abbrev b_CR_fieldsOf : ByteArray := prog_1_method_23_code
def y_CR_fieldsOf : MethodName := ⟨R_CR, "fieldsOf", "(I)I"⟩
abbrev cw_CR_fieldsOf : Cond := .code y_CR_fieldsOf b_CR_fieldsOf 3 (some .int)
abbrev b_Ge_countGoalsOf : ByteArray := prog_2_method_4_code
def y_Ge_countGoalsOf : MethodName := ⟨R_Ge, "countGoalsOf", "(I)I"⟩
abbrev cw_Ge_countGoalsOf : Cond := .code y_Ge_countGoalsOf b_Ge_countGoalsOf 6 (some .int)
abbrev b_Ge_isGoal : ByteArray := prog_2_method_5_code
def y_Ge_isGoal : MethodName := ⟨R_Ge, "isGoal", "(II)Z"⟩
abbrev cw_Ge_isGoal : Cond := .code y_Ge_isGoal b_Ge_isGoal 4 (some .boolean)
abbrev b_Sp_invalidIn : ByteArray := prog_5_method_14_code
def y_Sp_invalidIn : MethodName := ⟨R_Sp, "invalidIn", "(II)I"⟩
abbrev cw_Sp_invalidIn : Cond := .code y_Sp_invalidIn b_Sp_invalidIn 5 (some .int)
abbrev b_Ge_start : ByteArray := prog_2_method_2_code
def y_Ge_start : MethodName := ⟨R_Ge, "start", "(I)V"⟩
abbrev cw_Ge_start : Cond := .code y_Ge_start b_Ge_start 4 none
abbrev b_Sp_numberLimit : ByteArray := prog_5_method_9_code
def y_Sp_numberLimit : MethodName := ⟨R_Sp, "numberLimit", "()I"⟩
abbrev cw_Sp_numberLimit : Cond := .code y_Sp_numberLimit b_Sp_numberLimit 1 (some .int)
abbrev b_Ge_setsCoveredBy : ByteArray := prog_2_method_6_code
def y_Ge_setsCoveredBy : MethodName := ⟨R_Ge, "setsCoveredBy", "(I)J"⟩
abbrev cw_Ge_setsCoveredBy : Cond := .code y_Ge_setsCoveredBy b_Ge_setsCoveredBy 2 (some .long)
abbrev b_NS_has : ByteArray := prog_3_method_2_code
def y_NS_has : MethodName := ⟨R_NS, "has", "(I)Z"⟩
abbrev cw_NS_has : Cond := .code y_NS_has b_NS_has 2 (some .boolean)
abbrev b_Sp_allFields : ByteArray := prog_5_method_10_code
def y_Sp_allFields : MethodName := ⟨R_Sp, "allFields", "()I"⟩
abbrev cw_Sp_allFields : Cond := .code y_Sp_allFields b_Sp_allFields 1 (some .int)
abbrev b_JL_bitCount : ByteArray := prog_10_method_50_code
def y_JL_bitCount : MethodName := ⟨R_JL, "bitCount", "(J)I"⟩
abbrev cw_JL_bitCount : Cond := .code y_JL_bitCount b_JL_bitCount 2 (some .int)
abbrev b_CR_takeSeeds : ByteArray := prog_1_method_11_code
def y_CR_takeSeeds : MethodName := ⟨R_CR, "takeSeeds", "()V"⟩
abbrev cw_CR_takeSeeds : Cond := .code y_CR_takeSeeds b_CR_takeSeeds 2 none
abbrev b_Sp_rank : ByteArray := prog_5_method_12_code
def y_Sp_rank : MethodName := ⟨R_Sp, "rank", "(I)I"⟩
abbrev cw_Sp_rank : Cond := .code y_Sp_rank b_Sp_rank 2 (some .int)
abbrev b_Sp_hasAllValues : ByteArray := prog_5_method_13_code
def y_Sp_hasAllValues : MethodName := ⟨R_Sp, "hasAllValues", "(I)Z"⟩
abbrev cw_Sp_hasAllValues : Cond := .code y_Sp_hasAllValues b_Sp_hasAllValues 3 (some .boolean)
abbrev b_Ge_take : ByteArray := prog_2_method_10_code
def y_Ge_take : MethodName := ⟨R_Ge, "take", "(I)V"⟩
abbrev cw_Ge_take : Cond := .code y_Ge_take b_Ge_take 7 none
abbrev b_Ge_cover : ByteArray := prog_2_method_11_code
def y_Ge_cover : MethodName := ⟨R_Ge, "cover", "(II)Z"⟩
abbrev cw_Ge_cover : Cond := .code y_Ge_cover b_Ge_cover 6 (some .boolean)
abbrev b_Ge_pack : ByteArray := prog_2_method_12_code
def y_Ge_pack : MethodName := ⟨R_Ge, "pack", "(II)I"⟩
abbrev cw_Ge_pack : Cond := .code y_Ge_pack b_Ge_pack 4 (some .int)
abbrev b_Ge_lowerGains : ByteArray := prog_2_method_13_code
def y_Ge_lowerGains : MethodName := ⟨R_Ge, "lowerGains", "(IILCombinationRows$NumberSet;)V"⟩
abbrev cw_Ge_lowerGains : Cond := .code y_Ge_lowerGains b_Ge_lowerGains 9 none
abbrev b_CR_next : ByteArray := prog_1_method_12_code
def y_CR_next : MethodName := ⟨R_CR, "next", "()I"⟩
abbrev cw_CR_next : Cond := .code y_CR_next b_CR_next 2 (some .int)
abbrev b_Ge_best : ByteArray := prog_2_method_8_code
def y_Ge_best : MethodName := ⟨R_Ge, "best", "()I"⟩
abbrev cw_Ge_best : Cond := .code y_Ge_best b_Ge_best 2 (some .int)
abbrev b_Ge_bestOf : ByteArray := prog_2_method_9_code
def y_Ge_bestOf : MethodName := ⟨R_Ge, "bestOf", "(LCombinationRows$NumberSet;)I"⟩
abbrev cw_Ge_bestOf : Cond := .code y_Ge_bestOf b_Ge_bestOf 6 (some .int)
abbrev b_Ge_isFull : ByteArray := prog_2_method_7_code
def y_Ge_isFull : MethodName := ⟨R_Ge, "isFull", "()Z"⟩
abbrev cw_Ge_isFull : Cond := .code y_Ge_isFull b_Ge_isFull 1 (some .boolean)
abbrev b_CR_end : ByteArray := prog_1_method_13_code
def y_CR_end : MethodName := ⟨R_CR, "end", "()Z"⟩
abbrev cw_CR_end : Cond := .code y_CR_end b_CR_end 2 (some .boolean)
abbrev b_CR_rows : ByteArray := prog_1_method_14_code
def y_CR_rows : MethodName := ⟨R_CR, "rows", "()I"⟩
abbrev cw_CR_rows : Cond := .code y_CR_rows b_CR_rows 1 (some .int)
abbrev b_CR_row : ByteArray := prog_1_method_15_code
def y_CR_row : MethodName := ⟨R_CR, "row", "(I)I"⟩
abbrev cw_CR_row : Cond := .code y_CR_row b_CR_row 2 (some .int)
abbrev b_CR_isTaken : ByteArray := prog_1_method_17_code
def y_CR_isTaken : MethodName := ⟨R_CR, "isTaken", "(I)Z"⟩
abbrev cw_CR_isTaken : Cond := .code y_CR_isTaken b_CR_isTaken 2 (some .boolean)
abbrev b_CR_gained : ByteArray := prog_1_method_16_code
def y_CR_gained : MethodName := ⟨R_CR, "gained", "(I)I"⟩
abbrev cw_CR_gained : Cond := .code y_CR_gained b_CR_gained 2 (some .int)
abbrev b_CR_left : ByteArray := prog_1_method_18_code
def y_CR_left : MethodName := ⟨R_CR, "left", "()I"⟩
abbrev cw_CR_left : Cond := .code y_CR_left b_CR_left 1 (some .int)
abbrev b_CR_gain : ByteArray := prog_1_method_19_code
def y_CR_gain : MethodName := ⟨R_CR, "gain", "(I)I"⟩
abbrev cw_CR_gain : Cond := .code y_CR_gain b_CR_gain 2 (some .int)
abbrev b_CR_kind : ByteArray := prog_1_method_20_code
def y_CR_kind : MethodName := ⟨R_CR, "kind", "(I)I"⟩
abbrev cw_CR_kind : Cond := .code y_CR_kind b_CR_kind 2 (some .int)
abbrev b_CR_extendable : ByteArray := prog_1_method_21_code
def y_CR_extendable : MethodName := ⟨R_CR, "extendable", "(I)I"⟩
abbrev cw_CR_extendable : Cond := .code y_CR_extendable b_CR_extendable 6 (some .int)
abbrev b_CR_forbidden : ByteArray := prog_1_method_22_code
def y_CR_forbidden : MethodName := ⟨R_CR, "forbidden", "(I)I"⟩
abbrev cw_CR_forbidden : Cond := .code y_CR_forbidden b_CR_forbidden 4 (some .int)
abbrev b_Sp_minimalForbidden : ByteArray := prog_5_method_15_code
def y_Sp_minimalForbidden : MethodName := ⟨R_Sp, "minimalForbidden", "(I)I"⟩
abbrev cw_Sp_minimalForbidden : Cond := .code y_Sp_minimalForbidden b_Sp_minimalForbidden 6 (some .int)
abbrev b_Sp_isMinimalForbidden : ByteArray := prog_5_method_16_code
def y_Sp_isMinimalForbidden : MethodName := ⟨R_Sp, "isMinimalForbidden", "(II)Z"⟩
abbrev cw_Sp_isMinimalForbidden : Cond := .code y_Sp_isMinimalForbidden b_Sp_isMinimalForbidden 5 (some .boolean)
abbrev b_Mo_init : ByteArray := prog_8_method_1_code
def y_Mo_init : MethodName := ⟨R_Mo, "<init>", "()V"⟩
abbrev cw_Mo_init : Cond := .code y_Mo_init b_Mo_init 1 none
abbrev b_Mo_parameter : ByteArray := prog_8_method_2_code
def y_Mo_parameter : MethodName := ⟨R_Mo, "parameter", "(I)I"⟩
abbrev cw_Mo_parameter : Cond := .code y_Mo_parameter b_Mo_parameter 2 (some .int)
abbrev b_Mo_invalid : ByteArray := prog_8_method_4_code
def y_Mo_invalid : MethodName := ⟨R_Mo, "invalid", "(II)Z"⟩
abbrev cw_Mo_invalid : Cond := .code y_Mo_invalid b_Mo_invalid 3 (some .boolean)
abbrev b_Mo_noValue : ByteArray := prog_8_method_3_code
def y_Mo_noValue : MethodName := ⟨R_Mo, "noValue", "(II)Z"⟩
abbrev cw_Mo_noValue : Cond := .code y_Mo_noValue b_Mo_noValue 3 (some .boolean)
abbrev b_Mo_relation : ByteArray := prog_8_method_6_code
def y_Mo_relation : MethodName := ⟨R_Mo, "relation", "(II)I"⟩
abbrev cw_Mo_relation : Cond := .code y_Mo_relation b_Mo_relation 3 (some .int)
abbrev b_Mo_size : ByteArray := prog_8_method_5_code
def y_Mo_size : MethodName := ⟨R_Mo, "size", "(I)I"⟩
abbrev cw_Mo_size : Cond := .code y_Mo_size b_Mo_size 4 (some .int)
abbrev b_Mo_is : ByteArray := prog_8_method_8_code
def y_Mo_is : MethodName := ⟨R_Mo, "is", "(II)Z"⟩
abbrev cw_Mo_is : Cond := .code y_Mo_is b_Mo_is 3 (some .boolean)
abbrev b_Mo_push : ByteArray := prog_8_method_7_code
def y_Mo_push : MethodName := ⟨R_Mo, "push", "(IIII)Z"⟩
abbrev cw_Mo_push : Cond := .code y_Mo_push b_Mo_push 5 (some .boolean)
abbrev b_Mo_not : ByteArray := prog_8_method_9_code
def y_Mo_not : MethodName := ⟨R_Mo, "not", "()Z"⟩
abbrev cw_Mo_not : Cond := .code y_Mo_not b_Mo_not 2 (some .boolean)
abbrev b_Mo_join : ByteArray := prog_8_method_10_code
def y_Mo_join : MethodName := ⟨R_Mo, "join", "(I)Z"⟩
abbrev cw_Mo_join : Cond := .code y_Mo_join b_Mo_join 5 (some .boolean)
abbrev b_Mo_require : ByteArray := prog_8_method_11_code
def y_Mo_require : MethodName := ⟨R_Mo, "require", "()I"⟩
abbrev cw_Mo_require : Cond := .code y_Mo_require b_Mo_require 1 (some .int)
abbrev b_Mo_seed : ByteArray := prog_8_method_12_code
def y_Mo_seed : MethodName := ⟨R_Mo, "seed", "(I)I"⟩
abbrev cw_Mo_seed : Cond := .code y_Mo_seed b_Mo_seed 2 (some .int)
abbrev b_Mo_begin : ByteArray := prog_8_method_19_code
def y_Mo_begin : MethodName := ⟨R_Mo, "begin", "()I"⟩
abbrev cw_Mo_begin : Cond := .code y_Mo_begin b_Mo_begin 4 (some .int)
abbrev b_Mo_look : ByteArray := prog_8_method_16_code
def y_Mo_look : MethodName := ⟨R_Mo, "look", "()V"⟩
abbrev cw_Mo_look : Cond := .code y_Mo_look b_Mo_look 4 none
abbrev b_Mo_judge : ByteArray := prog_8_method_14_code
def y_Mo_judge : MethodName := ⟨R_Mo, "judge", "(I)I"⟩
abbrev cw_Mo_judge : Cond := .code y_Mo_judge b_Mo_judge 5 (some .int)
abbrev b_Mo_meets : ByteArray := prog_8_method_13_code
def y_Mo_meets : MethodName := ⟨R_Mo, "meets", "(I)Z"⟩
abbrev cw_Mo_meets : Cond := .code y_Mo_meets b_Mo_meets 5 (some .boolean)
abbrev b_Mo_place : ByteArray := prog_8_method_15_code
def y_Mo_place : MethodName := ⟨R_Mo, "place", "(II)I"⟩
abbrev cw_Mo_place : Cond := .code y_Mo_place b_Mo_place 6 (some .int)
abbrev b_Mo_asked : ByteArray := prog_8_method_18_code
def y_Mo_asked : MethodName := ⟨R_Mo, "asked", "(I)Z"⟩
abbrev cw_Mo_asked : Cond := .code y_Mo_asked b_Mo_asked 4 (some .boolean)
abbrev b_Mo_wrong : ByteArray := prog_8_method_17_code
def y_Mo_wrong : MethodName := ⟨R_Mo, "wrong", "(I)I"⟩
abbrev cw_Mo_wrong : Cond := .code y_Mo_wrong b_Mo_wrong 7 (some .int)
abbrev b_Mo_take : ByteArray := prog_8_method_21_code
def y_Mo_take : MethodName := ⟨R_Mo, "take", "(I)V"⟩
abbrev cw_Mo_take : Cond := .code y_Mo_take b_Mo_take 2 none
abbrev b_Mo_count : ByteArray := prog_8_method_20_code
def y_Mo_count : MethodName := ⟨R_Mo, "count", "(IZ)I"⟩
abbrev cw_Mo_count : Cond := .code y_Mo_count b_Mo_count 7 (some .int)
abbrev b_Mo_next : ByteArray := prog_8_method_22_code
def y_Mo_next : MethodName := ⟨R_Mo, "next", "()I"⟩
abbrev cw_Mo_next : Cond := .code y_Mo_next b_Mo_next 6 (some .int)
abbrev b_Mo_end : ByteArray := prog_8_method_23_code
def y_Mo_end : MethodName := ⟨R_Mo, "end", "()Z"⟩
abbrev cw_Mo_end : Cond := .code y_Mo_end b_Mo_end 2 (some .boolean)
abbrev b_Mo_rows : ByteArray := prog_8_method_24_code
def y_Mo_rows : MethodName := ⟨R_Mo, "rows", "()I"⟩
abbrev cw_Mo_rows : Cond := .code y_Mo_rows b_Mo_rows 1 (some .int)
abbrev b_Mo_row : ByteArray := prog_8_method_26_code
def y_Mo_row : MethodName := ⟨R_Mo, "row", "(I)I"⟩
abbrev cw_Mo_row : Cond := .code y_Mo_row b_Mo_row 2 (some .int)
abbrev b_Mo_noRow : ByteArray := prog_8_method_25_code
def y_Mo_noRow : MethodName := ⟨R_Mo, "noRow", "(I)Z"⟩
abbrev cw_Mo_noRow : Cond := .code y_Mo_noRow b_Mo_noRow 2 (some .boolean)
abbrev b_Mo_gained : ByteArray := prog_8_method_27_code
def y_Mo_gained : MethodName := ⟨R_Mo, "gained", "(I)I"⟩
abbrev cw_Mo_gained : Cond := .code y_Mo_gained b_Mo_gained 2 (some .int)
abbrev b_Mo_left : ByteArray := prog_8_method_28_code
def y_Mo_left : MethodName := ⟨R_Mo, "left", "()I"⟩
abbrev cw_Mo_left : Cond := .code y_Mo_left b_Mo_left 1 (some .int)
abbrev b_Mo_gain : ByteArray := prog_8_method_29_code
def y_Mo_gain : MethodName := ⟨R_Mo, "gain", "(I)I"⟩
abbrev cw_Mo_gain : Cond := .code y_Mo_gain b_Mo_gain 2 (some .int)
abbrev b_Mo_kind : ByteArray := prog_8_method_30_code
def y_Mo_kind : MethodName := ⟨R_Mo, "kind", "(I)I"⟩
abbrev cw_Mo_kind : Cond := .code y_Mo_kind b_Mo_kind 2 (some .int)
abbrev b_Mo_extendable : ByteArray := prog_8_method_31_code
def y_Mo_extendable : MethodName := ⟨R_Mo, "extendable", "(I)I"⟩
abbrev cw_Mo_extendable : Cond := .code y_Mo_extendable b_Mo_extendable 7 (some .int)
abbrev b_Mo_forbidden : ByteArray := prog_8_method_33_code
def y_Mo_forbidden : MethodName := ⟨R_Mo, "forbidden", "(I)I"⟩
abbrev cw_Mo_forbidden : Cond := .code y_Mo_forbidden b_Mo_forbidden 5 (some .int)
abbrev b_Mo_least : ByteArray := prog_8_method_32_code
def y_Mo_least : MethodName := ⟨R_Mo, "least", "(I)Z"⟩
abbrev cw_Mo_least : Cond := .code y_Mo_least b_Mo_least 8 (some .boolean)
def gW : List Cond := lw_tbl.filter goodWord
theorem gW_good {w : Cond} (h : w ∈ gW) : w ∈ lw_tbl ∧ goodWord w = true := List.mem_filter.mp h
theorem gG : GoodIn gW gW := fun _ h => ⟨h, good_of_word (gW_good h).2⟩
theorem gcons {w : Cond} {ws : List Cond} (h : w ∈ gW) (k : GoodIn gW ws) : GoodIn gW (w :: ws) := fun x hx => (List.mem_cons.mp hx).elim (fun e => e ▸ ⟨h, good_of_word (gW_good h).2⟩) (k x)
theorem gmT {w : Cond} (i : Nat) (h : tables_1[i]? = some w) (hg : goodWord w = true) : w ∈ gW := List.mem_filter.mpr ⟨List.mem_append_right _ (List.mem_of_getElem? h), hg⟩
theorem gmS {w : Cond} (i : Nat) (h : (k2_sels lw_privs)[i]? = some w) (hg : goodWord w = true) : w ∈ gW := List.mem_filter.mpr ⟨List.mem_append_left _ (List.mem_of_getElem? h), hg⟩
theorem m_0 : Cond.initialized R_La ∈ gW := gmT 0 (by decide +kernel) (by decide +kernel)
theorem m_1 : Cond.initialized R_CR ∈ gW := gmT 1 (by decide +kernel) (by decide +kernel)
theorem m_2 : Cond.initialized R_Sp ∈ gW := gmT 2 (by decide +kernel) (by decide +kernel)
theorem m_3 : Cond.initialized R_NS ∈ gW := gmT 3 (by decide +kernel) (by decide +kernel)
theorem m_4 : Cond.initialized R_JA ∈ gW := gmT 4 (by decide +kernel) (by decide +kernel)
theorem m_5 : Cond.initialized R_Re ∈ gW := gmT 5 (by decide +kernel) (by decide +kernel)
theorem m_6 : Cond.initialized R_Te ∈ gW := gmT 6 (by decide +kernel) (by decide +kernel)
theorem m_7 : Cond.initialized R_Ge ∈ gW := gmT 7 (by decide +kernel) (by decide +kernel)
theorem m_8 : Cond.initialized R_Mo ∈ gW := gmT 8 (by decide +kernel) (by decide +kernel)
theorem m_9 : Cond.initialized R_JI ∈ gW := gmT 9 (by decide +kernel) (by decide +kernel)
theorem m_10 : Cond.initialized R_JM ∈ gW := gmT 10 (by decide +kernel) (by decide +kernel)
theorem m_11 : Cond.initialized R_JL ∈ gW := gmT 11 (by decide +kernel) (by decide +kernel)
theorem m_12 : Cond.classLink R_La 7 R_CR ∈ gW := gmT 12 (by decide +kernel) (by decide +kernel)
theorem m_13 : Cond.instantiable R_CR 7 ∈ gW := gmT 13 (by decide +kernel) (by decide +kernel)
theorem m_14 : Cond.methodLink R_La 9 y_CR_init ∈ gW := gmT 14 (by decide +kernel) (by decide +kernel)
theorem m_15 : Cond.instanceMethod y_CR_init ∈ gW := gmT 15 (by decide +kernel) (by decide +kernel)
theorem m_16 : Cond.code y_CR_init b_CR_init 1 none ∈ gW := gmT 16 (by decide +kernel) (by decide +kernel)
theorem m_17 : Cond.methodLink R_CR 3 objectInit ∈ gW := gmT 17 (by decide +kernel) (by decide +kernel)
theorem m_18 : Cond.instanceMethod objectInit ∈ gW := gmT 18 (by decide +kernel) (by decide +kernel)
theorem m_19 : Cond.code objectInit ⟨#[0xb1]⟩ 1 none ∈ gW := gmT 19 (by decide +kernel) (by decide +kernel)
theorem m_20 : Cond.classLink R_CR 9 R_Sp ∈ gW := gmT 20 (by decide +kernel) (by decide +kernel)
theorem m_21 : Cond.instantiable R_Sp 7 ∈ gW := gmT 21 (by decide +kernel) (by decide +kernel)
theorem m_22 : Cond.methodLink R_CR 11 y_Sp_init ∈ gW := gmT 22 (by decide +kernel) (by decide +kernel)
theorem m_23 : Cond.instanceMethod y_Sp_init ∈ gW := gmT 23 (by decide +kernel) (by decide +kernel)
theorem m_24 : Cond.code y_Sp_init b_Sp_init 1 none ∈ gW := gmT 24 (by decide +kernel) (by decide +kernel)
theorem m_25 : Cond.methodLink R_Sp 3 objectInit ∈ gW := gmT 25 (by decide +kernel) (by decide +kernel)
theorem m_26 : Cond.classLink R_Sp 18 R_NS ∈ gW := gmT 26 (by decide +kernel) (by decide +kernel)
theorem m_27 : Cond.instantiable R_NS 1 ∈ gW := gmT 27 (by decide +kernel) (by decide +kernel)
theorem m_29 : Cond.instanceMethod y_NS_init ∈ gW := gmT 29 (by decide +kernel) (by decide +kernel)
theorem m_30 : Cond.code y_NS_init b_NS_init 1 none ∈ gW := gmT 30 (by decide +kernel) (by decide +kernel)
theorem m_31 : Cond.methodLink R_NS 3 objectInit ∈ gW := gmT 31 (by decide +kernel) (by decide +kernel)
theorem m_32 : Cond.fieldLink R_NS 9 "CombinationRows$NumberSet" "words" "[J" ∈ gW := gmT 32 (by decide +kernel) (by decide +kernel)
theorem m_33 : Cond.fieldLink R_Sp 54 "CombinationRows$NumberSet" "words" "[J" ∈ gW := gmT 33 (by decide +kernel) (by decide +kernel)
theorem m_37 : Cond.arrayClass .int ∈ gW := gmT 37 (by decide +kernel) (by decide +kernel)
theorem m_38 : Cond.arrayClass .long ∈ gW := gmT 38 (by decide +kernel) (by decide +kernel)
theorem m_39 : Cond.methodLink R_Sp 31 y_JA_fillI ∈ gW := gmT 39 (by decide +kernel) (by decide +kernel)
theorem m_40 : Cond.static y_JA_fillI ∈ gW := gmT 40 (by decide +kernel) (by decide +kernel)
theorem m_41 : Cond.code y_JA_fillI b_JA_fillI 4 none ∈ gW := gmT 41 (by decide +kernel) (by decide +kernel)
theorem m_42 : Cond.methodLink R_Sp 37 y_NS_becomeAll ∈ gW := gmT 42 (by decide +kernel) (by decide +kernel)
theorem m_43 : Cond.instanceMethod y_NS_becomeAll ∈ gW := gmT 43 (by decide +kernel) (by decide +kernel)
theorem m_44 : Cond.selects R_NS y_NS_becomeAll y_NS_becomeAll ∈ gW := gmT 44 (by decide +kernel) (by decide +kernel)
theorem m_45 : Cond.code y_NS_becomeAll b_NS_becomeAll 1 none ∈ gW := gmT 45 (by decide +kernel) (by decide +kernel)
theorem m_46 : Cond.constantLong R_NS 33 (-1) ∈ gW := gmT 46 (by decide +kernel) (by decide +kernel)
theorem m_47 : Cond.methodLink R_NS 45 y_JA_fillL ∈ gW := gmT 47 (by decide +kernel) (by decide +kernel)
theorem m_48 : Cond.static y_JA_fillL ∈ gW := gmT 48 (by decide +kernel) (by decide +kernel)
theorem m_49 : Cond.code y_JA_fillL b_JA_fillL 5 none ∈ gW := gmT 49 (by decide +kernel) (by decide +kernel)
theorem m_50 : Cond.methodLink R_Sp 40 y_Sp_sortRows ∈ gW := gmT 50 (by decide +kernel) (by decide +kernel)
theorem m_52 : Cond.instanceMethod y_Sp_sortRows ∈ gW := gmT 52 (by decide +kernel) (by decide +kernel)
theorem m_53 : Cond.code y_Sp_sortRows b_Sp_sortRows 11 none ∈ gW := gmT 53 (by decide +kernel) (by decide +kernel)
theorem m_54 : Cond.methodLink R_Sp 58 y_Sp_wordWith ∈ gW := gmT 54 (by decide +kernel) (by decide +kernel)
theorem m_56 : Cond.instanceMethod y_Sp_wordWith ∈ gW := gmT 56 (by decide +kernel) (by decide +kernel)
theorem m_57 : Cond.code y_Sp_wordWith b_Sp_wordWith 7 (some .long) ∈ gW := gmT 57 (by decide +kernel) (by decide +kernel)
theorem m_58 : Cond.methodLink R_Sp 62 y_NS_wordOf ∈ gW := gmT 58 (by decide +kernel) (by decide +kernel)
theorem m_59 : Cond.static y_NS_wordOf ∈ gW := gmT 59 (by decide +kernel) (by decide +kernel)
theorem m_60 : Cond.code y_NS_wordOf b_NS_wordOf 3 (some .long) ∈ gW := gmT 60 (by decide +kernel) (by decide +kernel)
theorem m_64 : Cond.static y_CR_valueOf ∈ gW := gmT 64 (by decide +kernel) (by decide +kernel)
theorem m_65 : Cond.code y_CR_valueOf b_CR_valueOf 2 (some .int) ∈ gW := gmT 65 (by decide +kernel) (by decide +kernel)
theorem m_66 : Cond.fieldLink R_Sp 9 "CombinationRows$Space" "values" "[I" ∈ gW := gmT 66 (by decide +kernel) (by decide +kernel)
theorem m_67 : Cond.fieldLink R_Sp 15 "CombinationRows$Space" "invalidValues" "[I" ∈ gW := gmT 67 (by decide +kernel) (by decide +kernel)
theorem m_68 : Cond.fieldLink R_Sp 21 "CombinationRows$Space" "meetingRules" "LCombinationRows$NumberSet;" ∈ gW := gmT 68 (by decide +kernel) (by decide +kernel)
theorem m_69 : Cond.fieldLink R_Sp 25 "CombinationRows$Space" "valid" "LCombinationRows$NumberSet;" ∈ gW := gmT 69 (by decide +kernel) (by decide +kernel)
theorem m_70 : Cond.fieldLink R_Ge 89 "CombinationRows$Space" "valid" "LCombinationRows$NumberSet;" ∈ gW := gmT 70 (by decide +kernel) (by decide +kernel)
theorem m_71 : Cond.fieldLink R_CR 107 "CombinationRows$Space" "valid" "LCombinationRows$NumberSet;" ∈ gW := gmT 71 (by decide +kernel) (by decide +kernel)
theorem m_72 : Cond.fieldLink R_Sp 28 "CombinationRows$Space" "negative" "LCombinationRows$NumberSet;" ∈ gW := gmT 72 (by decide +kernel) (by decide +kernel)
theorem m_73 : Cond.fieldLink R_Ge 98 "CombinationRows$Space" "negative" "LCombinationRows$NumberSet;" ∈ gW := gmT 73 (by decide +kernel) (by decide +kernel)
theorem m_74 : Cond.fieldLink R_CR 159 "CombinationRows$Space" "negative" "LCombinationRows$NumberSet;" ∈ gW := gmT 74 (by decide +kernel) (by decide +kernel)
theorem m_75 : Cond.fieldLink R_Sp 43 "CombinationRows$Space" "parameters" "I" ∈ gW := gmT 75 (by decide +kernel) (by decide +kernel)
theorem m_76 : Cond.fieldLink R_CR 47 "CombinationRows$Space" "parameters" "I" ∈ gW := gmT 76 (by decide +kernel) (by decide +kernel)
theorem m_77 : Cond.fieldLink R_Sp 51 "CombinationRows$Space" "rules" "I" ∈ gW := gmT 77 (by decide +kernel) (by decide +kernel)
theorem m_78 : Cond.fieldLink R_CR 93 "CombinationRows$Space" "rules" "I" ∈ gW := gmT 78 (by decide +kernel) (by decide +kernel)
theorem m_94 : Cond.classLink R_CR 16 R_Re ∈ gW := gmT 94 (by decide +kernel) (by decide +kernel)
theorem m_95 : Cond.instantiable R_Re 2 ∈ gW := gmT 95 (by decide +kernel) (by decide +kernel)
theorem m_97 : Cond.instanceMethod y_Re_init ∈ gW := gmT 97 (by decide +kernel) (by decide +kernel)
theorem m_98 : Cond.code y_Re_init b_Re_init 1 none ∈ gW := gmT 98 (by decide +kernel) (by decide +kernel)
theorem m_99 : Cond.methodLink R_Re 3 objectInit ∈ gW := gmT 99 (by decide +kernel) (by decide +kernel)
theorem m_100 : Cond.fieldLink R_Re 15 "CombinationRows$Relations" "asked" "J" ∈ gW := gmT 100 (by decide +kernel) (by decide +kernel)
theorem m_101 : Cond.fieldLink R_Re 21 "CombinationRows$Relations" "count" "I" ∈ gW := gmT 101 (by decide +kernel) (by decide +kernel)
theorem m_102 : Cond.fieldLink R_CR 76 "CombinationRows$Relations" "count" "I" ∈ gW := gmT 102 (by decide +kernel) (by decide +kernel)
theorem m_108 : Cond.classLink R_CR 23 R_Te ∈ gW := gmT 108 (by decide +kernel) (by decide +kernel)
theorem m_109 : Cond.instantiable R_Te 3 ∈ gW := gmT 109 (by decide +kernel) (by decide +kernel)
theorem m_110 : Cond.methodLink R_CR 25 y_Te_init ∈ gW := gmT 110 (by decide +kernel) (by decide +kernel)
theorem m_111 : Cond.instanceMethod y_Te_init ∈ gW := gmT 111 (by decide +kernel) (by decide +kernel)
theorem m_112 : Cond.code y_Te_init b_Te_init 2 none ∈ gW := gmT 112 (by decide +kernel) (by decide +kernel)
theorem m_113 : Cond.methodLink R_Te 3 objectInit ∈ gW := gmT 113 (by decide +kernel) (by decide +kernel)
theorem m_114 : Cond.classLink R_Te 9 R_NS ∈ gW := gmT 114 (by decide +kernel) (by decide +kernel)
theorem m_117 : Cond.fieldLink R_Te 11 "CombinationRows$Terms" "meeting" "[LCombinationRows$NumberSet;" ∈ gW := gmT 117 (by decide +kernel) (by decide +kernel)
theorem m_118 : Cond.fieldLink R_Te 17 "CombinationRows$Terms" "depths" "[I" ∈ gW := gmT 118 (by decide +kernel) (by decide +kernel)
theorem m_119 : Cond.fieldLink R_Te 22 "CombinationRows$Terms" "count" "I" ∈ gW := gmT 119 (by decide +kernel) (by decide +kernel)
theorem m_120 : Cond.fieldLink R_CR 92 "CombinationRows$Terms" "count" "I" ∈ gW := gmT 120 (by decide +kernel) (by decide +kernel)
theorem m_128 : Cond.classLink R_CR 34 R_Ge ∈ gW := gmT 128 (by decide +kernel) (by decide +kernel)
theorem m_129 : Cond.instantiable R_Ge 8 ∈ gW := gmT 129 (by decide +kernel) (by decide +kernel)
theorem m_130 : Cond.methodLink R_CR 36 y_Ge_init ∈ gW := gmT 130 (by decide +kernel) (by decide +kernel)
theorem m_131 : Cond.instanceMethod y_Ge_init ∈ gW := gmT 131 (by decide +kernel) (by decide +kernel)
theorem m_132 : Cond.code y_Ge_init b_Ge_init 3 none ∈ gW := gmT 132 (by decide +kernel) (by decide +kernel)
theorem m_133 : Cond.methodLink R_Ge 3 objectInit ∈ gW := gmT 133 (by decide +kernel) (by decide +kernel)
theorem m_134 : Cond.fieldLink R_Ge 25 "CombinationRows$Generation" "space" "LCombinationRows$Space;" ∈ gW := gmT 134 (by decide +kernel) (by decide +kernel)
theorem m_135 : Cond.fieldLink R_Ge 29 "CombinationRows$Generation" "relations" "LCombinationRows$Relations;" ∈ gW := gmT 135 (by decide +kernel) (by decide +kernel)
theorem m_136 : Cond.fieldLink R_Ge 9 "CombinationRows$Generation" "covered" "[J" ∈ gW := gmT 136 (by decide +kernel) (by decide +kernel)
theorem m_137 : Cond.fieldLink R_Ge 15 "CombinationRows$Generation" "gains" "[I" ∈ gW := gmT 137 (by decide +kernel) (by decide +kernel)
theorem m_138 : Cond.fieldLink R_CR 153 "CombinationRows$Generation" "gains" "[I" ∈ gW := gmT 138 (by decide +kernel) (by decide +kernel)
theorem m_139 : Cond.fieldLink R_Ge 19 "CombinationRows$Generation" "numbers" "[I" ∈ gW := gmT 139 (by decide +kernel) (by decide +kernel)
theorem m_140 : Cond.fieldLink R_CR 144 "CombinationRows$Generation" "numbers" "[I" ∈ gW := gmT 140 (by decide +kernel) (by decide +kernel)
theorem m_141 : Cond.fieldLink R_Ge 22 "CombinationRows$Generation" "gainsTaken" "[I" ∈ gW := gmT 141 (by decide +kernel) (by decide +kernel)
theorem m_142 : Cond.fieldLink R_CR 147 "CombinationRows$Generation" "gainsTaken" "[I" ∈ gW := gmT 142 (by decide +kernel) (by decide +kernel)
theorem m_143 : Cond.fieldLink R_Ge 39 "CombinationRows$Generation" "taken" "I" ∈ gW := gmT 143 (by decide +kernel) (by decide +kernel)
theorem m_144 : Cond.fieldLink R_CR 138 "CombinationRows$Generation" "taken" "I" ∈ gW := gmT 144 (by decide +kernel) (by decide +kernel)
theorem m_145 : Cond.fieldLink R_Ge 43 "CombinationRows$Generation" "goalsLeft" "I" ∈ gW := gmT 145 (by decide +kernel) (by decide +kernel)
theorem m_146 : Cond.fieldLink R_CR 150 "CombinationRows$Generation" "goalsLeft" "I" ∈ gW := gmT 146 (by decide +kernel) (by decide +kernel)
theorem m_164 : Cond.fieldLink R_CR 12 "CombinationRows" "space" "LCombinationRows$Space;" ∈ gW := gmT 164 (by decide +kernel) (by decide +kernel)
theorem m_165 : Cond.fieldLink R_CR 19 "CombinationRows" "relations" "LCombinationRows$Relations;" ∈ gW := gmT 165 (by decide +kernel) (by decide +kernel)
theorem m_166 : Cond.fieldLink R_CR 26 "CombinationRows" "terms" "LCombinationRows$Terms;" ∈ gW := gmT 166 (by decide +kernel) (by decide +kernel)
theorem m_167 : Cond.fieldLink R_CR 30 "CombinationRows" "seeds" "[I" ∈ gW := gmT 167 (by decide +kernel) (by decide +kernel)
theorem m_168 : Cond.fieldLink R_CR 39 "CombinationRows" "generation" "LCombinationRows$Generation;" ∈ gW := gmT 168 (by decide +kernel) (by decide +kernel)
theorem m_169 : Cond.fieldLink R_CR 104 "CombinationRows" "seedCount" "I" ∈ gW := gmT 169 (by decide +kernel) (by decide +kernel)
theorem m_170 : Cond.fieldLink R_CR 43 "CombinationRows" "underWay" "Z" ∈ gW := gmT 170 (by decide +kernel) (by decide +kernel)
theorem m_186 : Cond.methodLink R_La 13 y_CR_parameter ∈ gW := gmT 186 (by decide +kernel) (by decide +kernel)
theorem m_187 : Cond.instanceMethod y_CR_parameter ∈ gW := gmT 187 (by decide +kernel) (by decide +kernel)
theorem m_188 : Cond.selects R_CR y_CR_parameter y_CR_parameter ∈ gW := gmT 188 (by decide +kernel) (by decide +kernel)
theorem m_189 : Cond.code y_CR_parameter b_CR_parameter 2 (some .int) ∈ gW := gmT 189 (by decide +kernel) (by decide +kernel)
theorem m_190 : Cond.methodLink R_CR 51 y_Sp_addParameter ∈ gW := gmT 190 (by decide +kernel) (by decide +kernel)
theorem m_191 : Cond.instanceMethod y_Sp_addParameter ∈ gW := gmT 191 (by decide +kernel) (by decide +kernel)
theorem m_192 : Cond.selects R_Sp y_Sp_addParameter y_Sp_addParameter ∈ gW := gmT 192 (by decide +kernel) (by decide +kernel)
theorem m_193 : Cond.code y_Sp_addParameter b_Sp_addParameter 2 none ∈ gW := gmT 193 (by decide +kernel) (by decide +kernel)
theorem m_194 : Cond.methodLink R_La 18 y_CR_invalid ∈ gW := gmT 194 (by decide +kernel) (by decide +kernel)
theorem m_195 : Cond.instanceMethod y_CR_invalid ∈ gW := gmT 195 (by decide +kernel) (by decide +kernel)
theorem m_196 : Cond.selects R_CR y_CR_invalid y_CR_invalid ∈ gW := gmT 196 (by decide +kernel) (by decide +kernel)
theorem m_197 : Cond.code y_CR_invalid b_CR_invalid 3 (some .boolean) ∈ gW := gmT 197 (by decide +kernel) (by decide +kernel)
theorem m_198 : Cond.methodLink R_CR 55 y_Sp_hasValue ∈ gW := gmT 198 (by decide +kernel) (by decide +kernel)
theorem m_199 : Cond.instanceMethod y_Sp_hasValue ∈ gW := gmT 199 (by decide +kernel) (by decide +kernel)
theorem m_200 : Cond.selects R_Sp y_Sp_hasValue y_Sp_hasValue ∈ gW := gmT 200 (by decide +kernel) (by decide +kernel)
theorem m_201 : Cond.code y_Sp_hasValue b_Sp_hasValue 3 (some .boolean) ∈ gW := gmT 201 (by decide +kernel) (by decide +kernel)
theorem m_202 : Cond.methodLink R_CR 59 y_Sp_isInvalid ∈ gW := gmT 202 (by decide +kernel) (by decide +kernel)
theorem m_203 : Cond.instanceMethod y_Sp_isInvalid ∈ gW := gmT 203 (by decide +kernel) (by decide +kernel)
theorem m_204 : Cond.selects R_Sp y_Sp_isInvalid y_Sp_isInvalid ∈ gW := gmT 204 (by decide +kernel) (by decide +kernel)
theorem m_205 : Cond.code y_Sp_isInvalid b_Sp_isInvalid 3 (some .boolean) ∈ gW := gmT 205 (by decide +kernel) (by decide +kernel)
theorem m_206 : Cond.methodLink R_CR 62 y_Sp_makeInvalid ∈ gW := gmT 206 (by decide +kernel) (by decide +kernel)
theorem m_207 : Cond.instanceMethod y_Sp_makeInvalid ∈ gW := gmT 207 (by decide +kernel) (by decide +kernel)
theorem m_208 : Cond.selects R_Sp y_Sp_makeInvalid y_Sp_makeInvalid ∈ gW := gmT 208 (by decide +kernel) (by decide +kernel)
theorem m_209 : Cond.code y_Sp_makeInvalid b_Sp_makeInvalid 3 none ∈ gW := gmT 209 (by decide +kernel) (by decide +kernel)
theorem m_210 : Cond.methodLink R_La 23 y_CR_relation ∈ gW := gmT 210 (by decide +kernel) (by decide +kernel)
theorem m_211 : Cond.instanceMethod y_CR_relation ∈ gW := gmT 211 (by decide +kernel) (by decide +kernel)
theorem m_212 : Cond.selects R_CR y_CR_relation y_CR_relation ∈ gW := gmT 212 (by decide +kernel) (by decide +kernel)
theorem m_213 : Cond.code y_CR_relation b_CR_relation 3 (some .int) ∈ gW := gmT 213 (by decide +kernel) (by decide +kernel)
theorem m_214 : Cond.methodLink R_CR 66 y_Sp_isSet ∈ gW := gmT 214 (by decide +kernel) (by decide +kernel)
theorem m_215 : Cond.instanceMethod y_Sp_isSet ∈ gW := gmT 215 (by decide +kernel) (by decide +kernel)
theorem m_216 : Cond.selects R_Sp y_Sp_isSet y_Sp_isSet ∈ gW := gmT 216 (by decide +kernel) (by decide +kernel)
theorem m_217 : Cond.code y_Sp_isSet b_Sp_isSet 2 (some .boolean) ∈ gW := gmT 217 (by decide +kernel) (by decide +kernel)
theorem m_218 : Cond.methodLink R_CR 70 y_JI_bitCount ∈ gW := gmT 218 (by decide +kernel) (by decide +kernel)
theorem m_219 : Cond.static y_JI_bitCount ∈ gW := gmT 219 (by decide +kernel) (by decide +kernel)
theorem m_220 : Cond.code y_JI_bitCount b_JI_bitCount 1 (some .int) ∈ gW := gmT 220 (by decide +kernel) (by decide +kernel)
theorem m_221 : Cond.constant R_JI 265 1431655765 ∈ gW := gmT 221 (by decide +kernel) (by decide +kernel)
theorem m_222 : Cond.constant R_JI 266 858993459 ∈ gW := gmT 222 (by decide +kernel) (by decide +kernel)
theorem m_223 : Cond.constant R_JI 267 252645135 ∈ gW := gmT 223 (by decide +kernel) (by decide +kernel)
theorem m_224 : Cond.methodLink R_CR 79 y_Re_add ∈ gW := gmT 224 (by decide +kernel) (by decide +kernel)
theorem m_225 : Cond.instanceMethod y_Re_add ∈ gW := gmT 225 (by decide +kernel) (by decide +kernel)
theorem m_226 : Cond.selects R_Re y_Re_add y_Re_add ∈ gW := gmT 226 (by decide +kernel) (by decide +kernel)
theorem m_227 : Cond.code y_Re_add b_Re_add 4 none ∈ gW := gmT 227 (by decide +kernel) (by decide +kernel)
theorem m_228 : Cond.methodLink R_Re 9 y_JI_bitCount ∈ gW := gmT 228 (by decide +kernel) (by decide +kernel)
theorem m_229 : Cond.methodLink R_La 28 y_CR_is ∈ gW := gmT 229 (by decide +kernel) (by decide +kernel)
theorem m_230 : Cond.instanceMethod y_CR_is ∈ gW := gmT 230 (by decide +kernel) (by decide +kernel)
theorem m_231 : Cond.selects R_CR y_CR_is y_CR_is ∈ gW := gmT 231 (by decide +kernel) (by decide +kernel)
theorem m_232 : Cond.code y_CR_is b_CR_is 3 (some .boolean) ∈ gW := gmT 232 (by decide +kernel) (by decide +kernel)
theorem m_233 : Cond.methodLink R_CR 82 y_Te_push ∈ gW := gmT 233 (by decide +kernel) (by decide +kernel)
theorem m_234 : Cond.instanceMethod y_Te_push ∈ gW := gmT 234 (by decide +kernel) (by decide +kernel)
theorem m_235 : Cond.selects R_Te y_Te_push y_Te_push ∈ gW := gmT 235 (by decide +kernel) (by decide +kernel)
theorem m_236 : Cond.code y_Te_push b_Te_push 3 (some .boolean) ∈ gW := gmT 236 (by decide +kernel) (by decide +kernel)
theorem m_237 : Cond.methodLink R_Te 26 y_NS_becomeIs ∈ gW := gmT 237 (by decide +kernel) (by decide +kernel)
theorem m_238 : Cond.instanceMethod y_NS_becomeIs ∈ gW := gmT 238 (by decide +kernel) (by decide +kernel)
theorem m_239 : Cond.selects R_NS y_NS_becomeIs y_NS_becomeIs ∈ gW := gmT 239 (by decide +kernel) (by decide +kernel)
theorem m_240 : Cond.code y_NS_becomeIs b_NS_becomeIs 4 none ∈ gW := gmT 240 (by decide +kernel) (by decide +kernel)
theorem m_241 : Cond.methodLink R_NS 41 y_NS_wordOf ∈ gW := gmT 241 (by decide +kernel) (by decide +kernel)
theorem m_242 : Cond.methodLink R_La 32 y_CR_not ∈ gW := gmT 242 (by decide +kernel) (by decide +kernel)
theorem m_243 : Cond.instanceMethod y_CR_not ∈ gW := gmT 243 (by decide +kernel) (by decide +kernel)
theorem m_244 : Cond.selects R_CR y_CR_not y_CR_not ∈ gW := gmT 244 (by decide +kernel) (by decide +kernel)
theorem m_245 : Cond.code y_CR_not b_CR_not 1 (some .boolean) ∈ gW := gmT 245 (by decide +kernel) (by decide +kernel)
theorem m_246 : Cond.methodLink R_CR 85 y_Te_negate ∈ gW := gmT 246 (by decide +kernel) (by decide +kernel)
theorem m_247 : Cond.instanceMethod y_Te_negate ∈ gW := gmT 247 (by decide +kernel) (by decide +kernel)
theorem m_248 : Cond.selects R_Te y_Te_negate y_Te_negate ∈ gW := gmT 248 (by decide +kernel) (by decide +kernel)
theorem m_249 : Cond.code y_Te_negate b_Te_negate 1 (some .boolean) ∈ gW := gmT 249 (by decide +kernel) (by decide +kernel)
theorem m_250 : Cond.methodLink R_Te 30 y_NS_becomeNot ∈ gW := gmT 250 (by decide +kernel) (by decide +kernel)
theorem m_251 : Cond.instanceMethod y_NS_becomeNot ∈ gW := gmT 251 (by decide +kernel) (by decide +kernel)
theorem m_252 : Cond.selects R_NS y_NS_becomeNot y_NS_becomeNot ∈ gW := gmT 252 (by decide +kernel) (by decide +kernel)
theorem m_253 : Cond.code y_NS_becomeNot b_NS_becomeNot 2 none ∈ gW := gmT 253 (by decide +kernel) (by decide +kernel)
theorem m_254 : Cond.methodLink R_La 37 y_CR_join ∈ gW := gmT 254 (by decide +kernel) (by decide +kernel)
theorem m_255 : Cond.instanceMethod y_CR_join ∈ gW := gmT 255 (by decide +kernel) (by decide +kernel)
theorem m_256 : Cond.selects R_CR y_CR_join y_CR_join ∈ gW := gmT 256 (by decide +kernel) (by decide +kernel)
theorem m_257 : Cond.code y_CR_join b_CR_join 2 (some .boolean) ∈ gW := gmT 257 (by decide +kernel) (by decide +kernel)
theorem m_258 : Cond.methodLink R_CR 89 y_Te_combine ∈ gW := gmT 258 (by decide +kernel) (by decide +kernel)
theorem m_259 : Cond.instanceMethod y_Te_combine ∈ gW := gmT 259 (by decide +kernel) (by decide +kernel)
theorem m_260 : Cond.selects R_Te y_Te_combine y_Te_combine ∈ gW := gmT 260 (by decide +kernel) (by decide +kernel)
theorem m_261 : Cond.code y_Te_combine b_Te_combine 3 (some .boolean) ∈ gW := gmT 261 (by decide +kernel) (by decide +kernel)
theorem m_262 : Cond.methodLink R_Te 33 y_JM_max ∈ gW := gmT 262 (by decide +kernel) (by decide +kernel)
theorem m_263 : Cond.static y_JM_max ∈ gW := gmT 263 (by decide +kernel) (by decide +kernel)
theorem m_264 : Cond.code y_JM_max b_JM_max 2 (some .int) ∈ gW := gmT 264 (by decide +kernel) (by decide +kernel)
theorem m_265 : Cond.methodLink R_Te 39 y_Te_combineSets ∈ gW := gmT 265 (by decide +kernel) (by decide +kernel)
theorem m_266 : Cond.static y_Te_combineSets ∈ gW := gmT 266 (by decide +kernel) (by decide +kernel)
theorem m_267 : Cond.code y_Te_combineSets b_Te_combineSets 3 none ∈ gW := gmT 267 (by decide +kernel) (by decide +kernel)
theorem m_268 : Cond.methodLink R_Te 43 y_NS_becomeAnd ∈ gW := gmT 268 (by decide +kernel) (by decide +kernel)
theorem m_269 : Cond.instanceMethod y_NS_becomeAnd ∈ gW := gmT 269 (by decide +kernel) (by decide +kernel)
theorem m_270 : Cond.selects R_NS y_NS_becomeAnd y_NS_becomeAnd ∈ gW := gmT 270 (by decide +kernel) (by decide +kernel)
theorem m_271 : Cond.code y_NS_becomeAnd b_NS_becomeAnd 3 none ∈ gW := gmT 271 (by decide +kernel) (by decide +kernel)
theorem m_272 : Cond.methodLink R_Te 47 y_NS_becomeOr ∈ gW := gmT 272 (by decide +kernel) (by decide +kernel)
theorem m_273 : Cond.instanceMethod y_NS_becomeOr ∈ gW := gmT 273 (by decide +kernel) (by decide +kernel)
theorem m_274 : Cond.selects R_NS y_NS_becomeOr y_NS_becomeOr ∈ gW := gmT 274 (by decide +kernel) (by decide +kernel)
theorem m_275 : Cond.code y_NS_becomeOr b_NS_becomeOr 3 none ∈ gW := gmT 275 (by decide +kernel) (by decide +kernel)
theorem m_276 : Cond.methodLink R_La 42 y_CR_require ∈ gW := gmT 276 (by decide +kernel) (by decide +kernel)
theorem m_277 : Cond.instanceMethod y_CR_require ∈ gW := gmT 277 (by decide +kernel) (by decide +kernel)
theorem m_278 : Cond.selects R_CR y_CR_require y_CR_require ∈ gW := gmT 278 (by decide +kernel) (by decide +kernel)
theorem m_279 : Cond.code y_CR_require b_CR_require 1 (some .int) ∈ gW := gmT 279 (by decide +kernel) (by decide +kernel)
theorem m_280 : Cond.methodLink R_CR 96 y_Te_pop ∈ gW := gmT 280 (by decide +kernel) (by decide +kernel)
theorem m_281 : Cond.instanceMethod y_Te_pop ∈ gW := gmT 281 (by decide +kernel) (by decide +kernel)
theorem m_282 : Cond.selects R_Te y_Te_pop y_Te_pop ∈ gW := gmT 282 (by decide +kernel) (by decide +kernel)
theorem m_283 : Cond.code y_Te_pop b_Te_pop 1 (some (.object "CombinationRows$NumberSet")) ∈ gW := gmT 283 (by decide +kernel) (by decide +kernel)
theorem m_284 : Cond.methodLink R_CR 100 y_Sp_addRule ∈ gW := gmT 284 (by decide +kernel) (by decide +kernel)
theorem m_285 : Cond.instanceMethod y_Sp_addRule ∈ gW := gmT 285 (by decide +kernel) (by decide +kernel)
theorem m_286 : Cond.selects R_Sp y_Sp_addRule y_Sp_addRule ∈ gW := gmT 286 (by decide +kernel) (by decide +kernel)
theorem m_287 : Cond.code y_Sp_addRule b_Sp_addRule 2 none ∈ gW := gmT 287 (by decide +kernel) (by decide +kernel)
theorem m_288 : Cond.methodLink R_Sp 47 y_NS_becomeAnd ∈ gW := gmT 288 (by decide +kernel) (by decide +kernel)
theorem m_289 : Cond.methodLink R_La 47 y_CR_seed ∈ gW := gmT 289 (by decide +kernel) (by decide +kernel)
theorem m_290 : Cond.instanceMethod y_CR_seed ∈ gW := gmT 290 (by decide +kernel) (by decide +kernel)
theorem m_291 : Cond.selects R_CR y_CR_seed y_CR_seed ∈ gW := gmT 291 (by decide +kernel) (by decide +kernel)
theorem m_292 : Cond.code y_CR_seed b_CR_seed 2 (some .int) ∈ gW := gmT 292 (by decide +kernel) (by decide +kernel)
theorem m_293 : Cond.methodLink R_La 51 y_CR_begin ∈ gW := gmT 293 (by decide +kernel) (by decide +kernel)
theorem m_294 : Cond.instanceMethod y_CR_begin ∈ gW := gmT 294 (by decide +kernel) (by decide +kernel)
theorem m_295 : Cond.selects R_CR y_CR_begin y_CR_begin ∈ gW := gmT 295 (by decide +kernel) (by decide +kernel)
theorem m_296 : Cond.code y_CR_begin b_CR_begin 2 (some .int) ∈ gW := gmT 296 (by decide +kernel) (by decide +kernel)
theorem m_297 : Cond.methodLink R_CR 111 y_NS_isEmpty ∈ gW := gmT 297 (by decide +kernel) (by decide +kernel)
theorem m_298 : Cond.instanceMethod y_NS_isEmpty ∈ gW := gmT 298 (by decide +kernel) (by decide +kernel)
theorem m_299 : Cond.selects R_NS y_NS_isEmpty y_NS_isEmpty ∈ gW := gmT 299 (by decide +kernel) (by decide +kernel)
theorem m_300 : Cond.code y_NS_isEmpty b_NS_isEmpty 1 (some .boolean) ∈ gW := gmT 300 (by decide +kernel) (by decide +kernel)
theorem m_301 : Cond.methodLink R_NS 15 y_NS_hasRowWith ∈ gW := gmT 301 (by decide +kernel) (by decide +kernel)
theorem m_302 : Cond.instanceMethod y_NS_hasRowWith ∈ gW := gmT 302 (by decide +kernel) (by decide +kernel)
theorem m_303 : Cond.selects R_NS y_NS_hasRowWith y_NS_hasRowWith ∈ gW := gmT 303 (by decide +kernel) (by decide +kernel)
theorem m_304 : Cond.code y_NS_hasRowWith b_NS_hasRowWith 10 (some .boolean) ∈ gW := gmT 304 (by decide +kernel) (by decide +kernel)
theorem m_305 : Cond.methodLink R_NS 19 y_NS_inWordWith ∈ gW := gmT 305 (by decide +kernel) (by decide +kernel)
theorem m_306 : Cond.static y_NS_inWordWith ∈ gW := gmT 306 (by decide +kernel) (by decide +kernel)
theorem m_307 : Cond.code y_NS_inWordWith b_NS_inWordWith 5 (some .long) ∈ gW := gmT 307 (by decide +kernel) (by decide +kernel)
theorem m_308 : Cond.methodLink R_NS 23 y_JI_bitCount ∈ gW := gmT 308 (by decide +kernel) (by decide +kernel)
theorem m_310 : Cond.static y_CR_nextWithin ∈ gW := gmT 310 (by decide +kernel) (by decide +kernel)
theorem m_311 : Cond.code y_CR_nextWithin b_CR_nextWithin 2 (some .int) ∈ gW := gmT 311 (by decide +kernel) (by decide +kernel)
theorem m_312 : Cond.methodLink R_CR 116 y_Ge_countGoals ∈ gW := gmT 312 (by decide +kernel) (by decide +kernel)
theorem m_313 : Cond.instanceMethod y_Ge_countGoals ∈ gW := gmT 313 (by decide +kernel) (by decide +kernel)
theorem m_314 : Cond.selects R_Ge y_Ge_countGoals y_Ge_countGoals ∈ gW := gmT 314 (by decide +kernel) (by decide +kernel)
theorem m_315 : Cond.code y_Ge_countGoals b_Ge_countGoals 5 (some .int) ∈ gW := gmT 315 (by decide +kernel) (by decide +kernel)
theorem m_316 : Cond.methodLink R_Ge 62 y_Re_askedWith ∈ gW := gmT 316 (by decide +kernel) (by decide +kernel)
theorem m_317 : Cond.instanceMethod y_Re_askedWith ∈ gW := gmT 317 (by decide +kernel) (by decide +kernel)
theorem m_318 : Cond.selects R_Re y_Re_askedWith y_Re_askedWith ∈ gW := gmT 318 (by decide +kernel) (by decide +kernel)
theorem m_319 : Cond.code y_Re_askedWith b_Re_askedWith 5 (some .long) ∈ gW := gmT 319 (by decide +kernel) (by decide +kernel)
theorem m_323 : Cond.static y_CR_fieldsOf ∈ gW := gmT 323 (by decide +kernel) (by decide +kernel)
theorem m_324 : Cond.code y_CR_fieldsOf b_CR_fieldsOf 3 (some .int) ∈ gW := gmT 324 (by decide +kernel) (by decide +kernel)
theorem m_325 : Cond.methodLink R_Ge 71 y_Ge_countGoalsOf ∈ gW := gmT 325 (by decide +kernel) (by decide +kernel)
theorem m_327 : Cond.instanceMethod y_Ge_countGoalsOf ∈ gW := gmT 327 (by decide +kernel) (by decide +kernel)
theorem m_328 : Cond.code y_Ge_countGoalsOf b_Ge_countGoalsOf 6 (some .int) ∈ gW := gmT 328 (by decide +kernel) (by decide +kernel)
theorem m_329 : Cond.methodLink R_Ge 74 y_JI_bitCount ∈ gW := gmT 329 (by decide +kernel) (by decide +kernel)
theorem m_330 : Cond.methodLink R_Ge 78 y_Ge_isGoal ∈ gW := gmT 330 (by decide +kernel) (by decide +kernel)
theorem m_332 : Cond.instanceMethod y_Ge_isGoal ∈ gW := gmT 332 (by decide +kernel) (by decide +kernel)
theorem m_333 : Cond.code y_Ge_isGoal b_Ge_isGoal 4 (some .boolean) ∈ gW := gmT 333 (by decide +kernel) (by decide +kernel)
theorem m_334 : Cond.methodLink R_Ge 86 y_Sp_invalidIn ∈ gW := gmT 334 (by decide +kernel) (by decide +kernel)
theorem m_335 : Cond.instanceMethod y_Sp_invalidIn ∈ gW := gmT 335 (by decide +kernel) (by decide +kernel)
theorem m_336 : Cond.selects R_Sp y_Sp_invalidIn y_Sp_invalidIn ∈ gW := gmT 336 (by decide +kernel) (by decide +kernel)
theorem m_337 : Cond.code y_Sp_invalidIn b_Sp_invalidIn 5 (some .int) ∈ gW := gmT 337 (by decide +kernel) (by decide +kernel)
theorem m_339 : Cond.methodLink R_Sp 80 y_Sp_isInvalid ∈ gW := gmT 339 (by decide +kernel) (by decide +kernel)
theorem m_340 : Cond.methodLink R_Ge 93 y_NS_hasRowWith ∈ gW := gmT 340 (by decide +kernel) (by decide +kernel)
theorem m_342 : Cond.methodLink R_CR 120 y_Ge_start ∈ gW := gmT 342 (by decide +kernel) (by decide +kernel)
theorem m_343 : Cond.instanceMethod y_Ge_start ∈ gW := gmT 343 (by decide +kernel) (by decide +kernel)
theorem m_344 : Cond.selects R_Ge y_Ge_start y_Ge_start ∈ gW := gmT 344 (by decide +kernel) (by decide +kernel)
theorem m_345 : Cond.code y_Ge_start b_Ge_start 4 none ∈ gW := gmT 345 (by decide +kernel) (by decide +kernel)
theorem m_346 : Cond.methodLink R_Ge 33 y_JA_fillL ∈ gW := gmT 346 (by decide +kernel) (by decide +kernel)
theorem m_347 : Cond.methodLink R_Ge 46 y_Sp_numberLimit ∈ gW := gmT 347 (by decide +kernel) (by decide +kernel)
theorem m_348 : Cond.instanceMethod y_Sp_numberLimit ∈ gW := gmT 348 (by decide +kernel) (by decide +kernel)
theorem m_349 : Cond.selects R_Sp y_Sp_numberLimit y_Sp_numberLimit ∈ gW := gmT 349 (by decide +kernel) (by decide +kernel)
theorem m_350 : Cond.code y_Sp_numberLimit b_Sp_numberLimit 1 (some .int) ∈ gW := gmT 350 (by decide +kernel) (by decide +kernel)
theorem m_351 : Cond.methodLink R_Ge 52 y_Ge_setsCoveredBy ∈ gW := gmT 351 (by decide +kernel) (by decide +kernel)
theorem m_353 : Cond.instanceMethod y_Ge_setsCoveredBy ∈ gW := gmT 353 (by decide +kernel) (by decide +kernel)
theorem m_354 : Cond.code y_Ge_setsCoveredBy b_Ge_setsCoveredBy 2 (some .long) ∈ gW := gmT 354 (by decide +kernel) (by decide +kernel)
theorem m_355 : Cond.methodLink R_Ge 101 y_NS_has ∈ gW := gmT 355 (by decide +kernel) (by decide +kernel)
theorem m_356 : Cond.instanceMethod y_NS_has ∈ gW := gmT 356 (by decide +kernel) (by decide +kernel)
theorem m_357 : Cond.selects R_NS y_NS_has y_NS_has ∈ gW := gmT 357 (by decide +kernel) (by decide +kernel)
theorem m_358 : Cond.code y_NS_has b_NS_has 2 (some .boolean) ∈ gW := gmT 358 (by decide +kernel) (by decide +kernel)
theorem m_359 : Cond.methodLink R_Ge 105 y_Sp_allFields ∈ gW := gmT 359 (by decide +kernel) (by decide +kernel)
theorem m_360 : Cond.instanceMethod y_Sp_allFields ∈ gW := gmT 360 (by decide +kernel) (by decide +kernel)
theorem m_361 : Cond.selects R_Sp y_Sp_allFields y_Sp_allFields ∈ gW := gmT 361 (by decide +kernel) (by decide +kernel)
theorem m_362 : Cond.code y_Sp_allFields b_Sp_allFields 1 (some .int) ∈ gW := gmT 362 (by decide +kernel) (by decide +kernel)
theorem m_363 : Cond.methodLink R_Sp 65 y_Sp_numberLimit ∈ gW := gmT 363 (by decide +kernel) (by decide +kernel)
theorem m_364 : Cond.methodLink R_Ge 56 y_JL_bitCount ∈ gW := gmT 364 (by decide +kernel) (by decide +kernel)
theorem m_365 : Cond.static y_JL_bitCount ∈ gW := gmT 365 (by decide +kernel) (by decide +kernel)
theorem m_366 : Cond.code y_JL_bitCount b_JL_bitCount 2 (some .int) ∈ gW := gmT 366 (by decide +kernel) (by decide +kernel)
theorem m_367 : Cond.constantLong R_JL 314 6148914691236517205 ∈ gW := gmT 367 (by decide +kernel) (by decide +kernel)
theorem m_368 : Cond.constantLong R_JL 316 3689348814741910323 ∈ gW := gmT 368 (by decide +kernel) (by decide +kernel)
theorem m_369 : Cond.constantLong R_JL 318 1085102592571150095 ∈ gW := gmT 369 (by decide +kernel) (by decide +kernel)
theorem m_370 : Cond.methodLink R_CR 123 y_CR_takeSeeds ∈ gW := gmT 370 (by decide +kernel) (by decide +kernel)
theorem m_372 : Cond.instanceMethod y_CR_takeSeeds ∈ gW := gmT 372 (by decide +kernel) (by decide +kernel)
theorem m_373 : Cond.code y_CR_takeSeeds b_CR_takeSeeds 2 none ∈ gW := gmT 373 (by decide +kernel) (by decide +kernel)
theorem m_374 : Cond.methodLink R_CR 126 y_Sp_rank ∈ gW := gmT 374 (by decide +kernel) (by decide +kernel)
theorem m_375 : Cond.instanceMethod y_Sp_rank ∈ gW := gmT 375 (by decide +kernel) (by decide +kernel)
theorem m_376 : Cond.selects R_Sp y_Sp_rank y_Sp_rank ∈ gW := gmT 376 (by decide +kernel) (by decide +kernel)
theorem m_377 : Cond.code y_Sp_rank b_Sp_rank 2 (some .int) ∈ gW := gmT 377 (by decide +kernel) (by decide +kernel)
theorem m_378 : Cond.methodLink R_Sp 69 y_Sp_hasAllValues ∈ gW := gmT 378 (by decide +kernel) (by decide +kernel)
theorem m_380 : Cond.instanceMethod y_Sp_hasAllValues ∈ gW := gmT 380 (by decide +kernel) (by decide +kernel)
theorem m_381 : Cond.code y_Sp_hasAllValues b_Sp_hasAllValues 3 (some .boolean) ∈ gW := gmT 381 (by decide +kernel) (by decide +kernel)
theorem m_382 : Cond.methodLink R_Sp 73 y_NS_has ∈ gW := gmT 382 (by decide +kernel) (by decide +kernel)
theorem m_383 : Cond.methodLink R_CR 129 y_Ge_take ∈ gW := gmT 383 (by decide +kernel) (by decide +kernel)
theorem m_384 : Cond.instanceMethod y_Ge_take ∈ gW := gmT 384 (by decide +kernel) (by decide +kernel)
theorem m_385 : Cond.selects R_Ge y_Ge_take y_Ge_take ∈ gW := gmT 385 (by decide +kernel) (by decide +kernel)
theorem m_386 : Cond.code y_Ge_take b_Ge_take 7 none ∈ gW := gmT 386 (by decide +kernel) (by decide +kernel)
theorem m_387 : Cond.methodLink R_Ge 112 y_Ge_cover ∈ gW := gmT 387 (by decide +kernel) (by decide +kernel)
theorem m_389 : Cond.instanceMethod y_Ge_cover ∈ gW := gmT 389 (by decide +kernel) (by decide +kernel)
theorem m_390 : Cond.code y_Ge_cover b_Ge_cover 6 (some .boolean) ∈ gW := gmT 390 (by decide +kernel) (by decide +kernel)
theorem m_391 : Cond.methodLink R_Ge 119 y_Ge_pack ∈ gW := gmT 391 (by decide +kernel) (by decide +kernel)
theorem m_392 : Cond.static y_Ge_pack ∈ gW := gmT 392 (by decide +kernel) (by decide +kernel)
theorem m_393 : Cond.code y_Ge_pack b_Ge_pack 4 (some .int) ∈ gW := gmT 393 (by decide +kernel) (by decide +kernel)
theorem m_395 : Cond.methodLink R_Ge 115 y_Ge_lowerGains ∈ gW := gmT 395 (by decide +kernel) (by decide +kernel)
theorem m_397 : Cond.instanceMethod y_Ge_lowerGains ∈ gW := gmT 397 (by decide +kernel) (by decide +kernel)
theorem m_398 : Cond.code y_Ge_lowerGains b_Ge_lowerGains 9 none ∈ gW := gmT 398 (by decide +kernel) (by decide +kernel)
theorem m_399 : Cond.methodLink R_La 55 y_CR_next ∈ gW := gmT 399 (by decide +kernel) (by decide +kernel)
theorem m_400 : Cond.instanceMethod y_CR_next ∈ gW := gmT 400 (by decide +kernel) (by decide +kernel)
theorem m_401 : Cond.selects R_CR y_CR_next y_CR_next ∈ gW := gmT 401 (by decide +kernel) (by decide +kernel)
theorem m_402 : Cond.code y_CR_next b_CR_next 2 (some .int) ∈ gW := gmT 402 (by decide +kernel) (by decide +kernel)
theorem m_403 : Cond.methodLink R_CR 132 y_Ge_best ∈ gW := gmT 403 (by decide +kernel) (by decide +kernel)
theorem m_404 : Cond.instanceMethod y_Ge_best ∈ gW := gmT 404 (by decide +kernel) (by decide +kernel)
theorem m_405 : Cond.selects R_Ge y_Ge_best y_Ge_best ∈ gW := gmT 405 (by decide +kernel) (by decide +kernel)
theorem m_406 : Cond.code y_Ge_best b_Ge_best 2 (some .int) ∈ gW := gmT 406 (by decide +kernel) (by decide +kernel)
theorem m_407 : Cond.methodLink R_Ge 108 y_Ge_bestOf ∈ gW := gmT 407 (by decide +kernel) (by decide +kernel)
theorem m_409 : Cond.instanceMethod y_Ge_bestOf ∈ gW := gmT 409 (by decide +kernel) (by decide +kernel)
theorem m_410 : Cond.code y_Ge_bestOf b_Ge_bestOf 6 (some .int) ∈ gW := gmT 410 (by decide +kernel) (by decide +kernel)
theorem m_411 : Cond.methodLink R_CR 135 y_Ge_isFull ∈ gW := gmT 411 (by decide +kernel) (by decide +kernel)
theorem m_412 : Cond.instanceMethod y_Ge_isFull ∈ gW := gmT 412 (by decide +kernel) (by decide +kernel)
theorem m_413 : Cond.selects R_Ge y_Ge_isFull y_Ge_isFull ∈ gW := gmT 413 (by decide +kernel) (by decide +kernel)
theorem m_414 : Cond.code y_Ge_isFull b_Ge_isFull 1 (some .boolean) ∈ gW := gmT 414 (by decide +kernel) (by decide +kernel)
theorem m_415 : Cond.methodLink R_La 59 y_CR_end ∈ gW := gmT 415 (by decide +kernel) (by decide +kernel)
theorem m_416 : Cond.instanceMethod y_CR_end ∈ gW := gmT 416 (by decide +kernel) (by decide +kernel)
theorem m_417 : Cond.selects R_CR y_CR_end y_CR_end ∈ gW := gmT 417 (by decide +kernel) (by decide +kernel)
theorem m_418 : Cond.code y_CR_end b_CR_end 2 (some .boolean) ∈ gW := gmT 418 (by decide +kernel) (by decide +kernel)
theorem m_419 : Cond.methodLink R_La 63 y_CR_rows ∈ gW := gmT 419 (by decide +kernel) (by decide +kernel)
theorem m_420 : Cond.instanceMethod y_CR_rows ∈ gW := gmT 420 (by decide +kernel) (by decide +kernel)
theorem m_421 : Cond.selects R_CR y_CR_rows y_CR_rows ∈ gW := gmT 421 (by decide +kernel) (by decide +kernel)
theorem m_422 : Cond.code y_CR_rows b_CR_rows 1 (some .int) ∈ gW := gmT 422 (by decide +kernel) (by decide +kernel)
theorem m_423 : Cond.methodLink R_La 67 y_CR_row ∈ gW := gmT 423 (by decide +kernel) (by decide +kernel)
theorem m_424 : Cond.instanceMethod y_CR_row ∈ gW := gmT 424 (by decide +kernel) (by decide +kernel)
theorem m_425 : Cond.selects R_CR y_CR_row y_CR_row ∈ gW := gmT 425 (by decide +kernel) (by decide +kernel)
theorem m_426 : Cond.code y_CR_row b_CR_row 2 (some .int) ∈ gW := gmT 426 (by decide +kernel) (by decide +kernel)
theorem m_427 : Cond.methodLink R_CR 141 y_CR_isTaken ∈ gW := gmT 427 (by decide +kernel) (by decide +kernel)
theorem m_429 : Cond.instanceMethod y_CR_isTaken ∈ gW := gmT 429 (by decide +kernel) (by decide +kernel)
theorem m_430 : Cond.code y_CR_isTaken b_CR_isTaken 2 (some .boolean) ∈ gW := gmT 430 (by decide +kernel) (by decide +kernel)
theorem m_431 : Cond.methodLink R_La 71 y_CR_gained ∈ gW := gmT 431 (by decide +kernel) (by decide +kernel)
theorem m_432 : Cond.instanceMethod y_CR_gained ∈ gW := gmT 432 (by decide +kernel) (by decide +kernel)
theorem m_433 : Cond.selects R_CR y_CR_gained y_CR_gained ∈ gW := gmT 433 (by decide +kernel) (by decide +kernel)
theorem m_434 : Cond.code y_CR_gained b_CR_gained 2 (some .int) ∈ gW := gmT 434 (by decide +kernel) (by decide +kernel)
theorem m_435 : Cond.methodLink R_La 75 y_CR_left ∈ gW := gmT 435 (by decide +kernel) (by decide +kernel)
theorem m_436 : Cond.instanceMethod y_CR_left ∈ gW := gmT 436 (by decide +kernel) (by decide +kernel)
theorem m_437 : Cond.selects R_CR y_CR_left y_CR_left ∈ gW := gmT 437 (by decide +kernel) (by decide +kernel)
theorem m_438 : Cond.code y_CR_left b_CR_left 1 (some .int) ∈ gW := gmT 438 (by decide +kernel) (by decide +kernel)
theorem m_439 : Cond.methodLink R_La 79 y_CR_gain ∈ gW := gmT 439 (by decide +kernel) (by decide +kernel)
theorem m_440 : Cond.instanceMethod y_CR_gain ∈ gW := gmT 440 (by decide +kernel) (by decide +kernel)
theorem m_441 : Cond.selects R_CR y_CR_gain y_CR_gain ∈ gW := gmT 441 (by decide +kernel) (by decide +kernel)
theorem m_442 : Cond.code y_CR_gain b_CR_gain 2 (some .int) ∈ gW := gmT 442 (by decide +kernel) (by decide +kernel)
theorem m_443 : Cond.methodLink R_La 83 y_CR_kind ∈ gW := gmT 443 (by decide +kernel) (by decide +kernel)
theorem m_444 : Cond.instanceMethod y_CR_kind ∈ gW := gmT 444 (by decide +kernel) (by decide +kernel)
theorem m_445 : Cond.selects R_CR y_CR_kind y_CR_kind ∈ gW := gmT 445 (by decide +kernel) (by decide +kernel)
theorem m_446 : Cond.code y_CR_kind b_CR_kind 2 (some .int) ∈ gW := gmT 446 (by decide +kernel) (by decide +kernel)
theorem m_447 : Cond.methodLink R_La 87 y_CR_extendable ∈ gW := gmT 447 (by decide +kernel) (by decide +kernel)
theorem m_448 : Cond.instanceMethod y_CR_extendable ∈ gW := gmT 448 (by decide +kernel) (by decide +kernel)
theorem m_449 : Cond.selects R_CR y_CR_extendable y_CR_extendable ∈ gW := gmT 449 (by decide +kernel) (by decide +kernel)
theorem m_450 : Cond.code y_CR_extendable b_CR_extendable 6 (some .int) ∈ gW := gmT 450 (by decide +kernel) (by decide +kernel)
theorem m_451 : Cond.methodLink R_CR 156 y_NS_hasRowWith ∈ gW := gmT 451 (by decide +kernel) (by decide +kernel)
theorem m_452 : Cond.methodLink R_La 91 y_CR_forbidden ∈ gW := gmT 452 (by decide +kernel) (by decide +kernel)
theorem m_453 : Cond.instanceMethod y_CR_forbidden ∈ gW := gmT 453 (by decide +kernel) (by decide +kernel)
theorem m_454 : Cond.selects R_CR y_CR_forbidden y_CR_forbidden ∈ gW := gmT 454 (by decide +kernel) (by decide +kernel)
theorem m_455 : Cond.code y_CR_forbidden b_CR_forbidden 4 (some .int) ∈ gW := gmT 455 (by decide +kernel) (by decide +kernel)
theorem m_456 : Cond.methodLink R_CR 162 y_CR_fieldsOf ∈ gW := gmT 456 (by decide +kernel) (by decide +kernel)
theorem m_457 : Cond.methodLink R_CR 165 y_Sp_minimalForbidden ∈ gW := gmT 457 (by decide +kernel) (by decide +kernel)
theorem m_458 : Cond.instanceMethod y_Sp_minimalForbidden ∈ gW := gmT 458 (by decide +kernel) (by decide +kernel)
theorem m_459 : Cond.selects R_Sp y_Sp_minimalForbidden y_Sp_minimalForbidden ∈ gW := gmT 459 (by decide +kernel) (by decide +kernel)
theorem m_460 : Cond.code y_Sp_minimalForbidden b_Sp_minimalForbidden 6 (some .int) ∈ gW := gmT 460 (by decide +kernel) (by decide +kernel)
theorem m_461 : Cond.methodLink R_Sp 84 y_JI_bitCount ∈ gW := gmT 461 (by decide +kernel) (by decide +kernel)
theorem m_462 : Cond.methodLink R_Sp 90 y_Sp_isMinimalForbidden ∈ gW := gmT 462 (by decide +kernel) (by decide +kernel)
theorem m_464 : Cond.instanceMethod y_Sp_isMinimalForbidden ∈ gW := gmT 464 (by decide +kernel) (by decide +kernel)
theorem m_465 : Cond.code y_Sp_isMinimalForbidden b_Sp_isMinimalForbidden 5 (some .boolean) ∈ gW := gmT 465 (by decide +kernel) (by decide +kernel)
theorem m_466 : Cond.methodLink R_Sp 96 y_Sp_invalidIn ∈ gW := gmT 466 (by decide +kernel) (by decide +kernel)
theorem m_467 : Cond.methodLink R_Sp 99 y_NS_hasRowWith ∈ gW := gmT 467 (by decide +kernel) (by decide +kernel)
theorem m_469 : Cond.classLink R_La 10 R_Mo ∈ gW := gmT 469 (by decide +kernel) (by decide +kernel)
theorem m_470 : Cond.instantiable R_Mo 29 ∈ gW := gmT 470 (by decide +kernel) (by decide +kernel)
theorem m_471 : Cond.methodLink R_La 12 y_Mo_init ∈ gW := gmT 471 (by decide +kernel) (by decide +kernel)
theorem m_472 : Cond.instanceMethod y_Mo_init ∈ gW := gmT 472 (by decide +kernel) (by decide +kernel)
theorem m_473 : Cond.code y_Mo_init b_Mo_init 1 none ∈ gW := gmT 473 (by decide +kernel) (by decide +kernel)
theorem m_474 : Cond.methodLink R_Mo 1 objectInit ∈ gW := gmT 474 (by decide +kernel) (by decide +kernel)
theorem m_475 : Cond.fieldLink R_Mo 71 "CombinationRowsModel" "params" "I" ∈ gW := gmT 475 (by decide +kernel) (by decide +kernel)
theorem m_476 : Cond.fieldLink R_Mo 7 "CombinationRowsModel" "values" "[I" ∈ gW := gmT 476 (by decide +kernel) (by decide +kernel)
theorem m_477 : Cond.fieldLink R_Mo 13 "CombinationRowsModel" "bad" "[Z" ∈ gW := gmT 477 (by decide +kernel) (by decide +kernel)
theorem m_478 : Cond.fieldLink R_Mo 86 "CombinationRowsModel" "relations" "I" ∈ gW := gmT 478 (by decide +kernel) (by decide +kernel)
theorem m_479 : Cond.fieldLink R_Mo 17 "CombinationRowsModel" "relSet" "[I" ∈ gW := gmT 479 (by decide +kernel) (by decide +kernel)
theorem m_480 : Cond.fieldLink R_Mo 20 "CombinationRowsModel" "relStrength" "[I" ∈ gW := gmT 480 (by decide +kernel) (by decide +kernel)
theorem m_481 : Cond.fieldLink R_Mo 89 "CombinationRowsModel" "terms" "I" ∈ gW := gmT 481 (by decide +kernel) (by decide +kernel)
theorem m_482 : Cond.fieldLink R_Mo 23 "CombinationRowsModel" "termOp" "[B" ∈ gW := gmT 482 (by decide +kernel) (by decide +kernel)
theorem m_483 : Cond.fieldLink R_Mo 27 "CombinationRowsModel" "termA" "[S" ∈ gW := gmT 483 (by decide +kernel) (by decide +kernel)
theorem m_484 : Cond.fieldLink R_Mo 31 "CombinationRowsModel" "termB" "[S" ∈ gW := gmT 484 (by decide +kernel) (by decide +kernel)
theorem m_485 : Cond.fieldLink R_Mo 34 "CombinationRowsModel" "termDepth" "[B" ∈ gW := gmT 485 (by decide +kernel) (by decide +kernel)
theorem m_486 : Cond.fieldLink R_Mo 37 "CombinationRowsModel" "truth" "[Z" ∈ gW := gmT 486 (by decide +kernel) (by decide +kernel)
theorem m_487 : Cond.fieldLink R_Mo 92 "CombinationRowsModel" "stacked" "I" ∈ gW := gmT 487 (by decide +kernel) (by decide +kernel)
theorem m_488 : Cond.fieldLink R_Mo 40 "CombinationRowsModel" "stack" "[I" ∈ gW := gmT 488 (by decide +kernel) (by decide +kernel)
theorem m_489 : Cond.fieldLink R_Mo 99 "CombinationRowsModel" "rules" "I" ∈ gW := gmT 489 (by decide +kernel) (by decide +kernel)
theorem m_490 : Cond.fieldLink R_Mo 43 "CombinationRowsModel" "rule" "[I" ∈ gW := gmT 490 (by decide +kernel) (by decide +kernel)
theorem m_491 : Cond.fieldLink R_Mo 102 "CombinationRowsModel" "seeds" "I" ∈ gW := gmT 491 (by decide +kernel) (by decide +kernel)
theorem m_492 : Cond.fieldLink R_Mo 46 "CombinationRowsModel" "seed" "[I" ∈ gW := gmT 492 (by decide +kernel) (by decide +kernel)
theorem m_493 : Cond.fieldLink R_Mo 75 "CombinationRowsModel" "fresh" "Z" ∈ gW := gmT 493 (by decide +kernel) (by decide +kernel)
theorem m_494 : Cond.fieldLink R_Mo 49 "CombinationRowsModel" "kinds" "[B" ∈ gW := gmT 494 (by decide +kernel) (by decide +kernel)
theorem m_495 : Cond.fieldLink R_Mo 52 "CombinationRowsModel" "inValid" "[Z" ∈ gW := gmT 495 (by decide +kernel) (by decide +kernel)
theorem m_496 : Cond.fieldLink R_Mo 55 "CombinationRowsModel" "inNegative" "[Z" ∈ gW := gmT 496 (by decide +kernel) (by decide +kernel)
theorem m_497 : Cond.fieldLink R_Mo 67 "CombinationRowsModel" "on" "Z" ∈ gW := gmT 497 (by decide +kernel) (by decide +kernel)
theorem m_498 : Cond.fieldLink R_Mo 58 "CombinationRowsModel" "open" "[Z" ∈ gW := gmT 498 (by decide +kernel) (by decide +kernel)
theorem m_499 : Cond.fieldLink R_Mo 125 "CombinationRowsModel" "openPlain" "I" ∈ gW := gmT 499 (by decide +kernel) (by decide +kernel)
theorem m_500 : Cond.fieldLink R_Mo 122 "CombinationRowsModel" "openAll" "I" ∈ gW := gmT 500 (by decide +kernel) (by decide +kernel)
theorem m_501 : Cond.fieldLink R_Mo 119 "CombinationRowsModel" "taken" "I" ∈ gW := gmT 501 (by decide +kernel) (by decide +kernel)
theorem m_502 : Cond.fieldLink R_Mo 61 "CombinationRowsModel" "rows" "[S" ∈ gW := gmT 502 (by decide +kernel) (by decide +kernel)
theorem m_503 : Cond.fieldLink R_Mo 64 "CombinationRowsModel" "gains" "[S" ∈ gW := gmT 503 (by decide +kernel) (by decide +kernel)
theorem m_563 : Cond.arrayClass .boolean ∈ gW := gmT 563 (by decide +kernel) (by decide +kernel)
theorem m_564 : Cond.arrayClass .byte ∈ gW := gmT 564 (by decide +kernel) (by decide +kernel)
theorem m_565 : Cond.arrayClass .short ∈ gW := gmT 565 (by decide +kernel) (by decide +kernel)
theorem m_566 : Cond.methodLink R_La 17 y_Mo_parameter ∈ gW := gmT 566 (by decide +kernel) (by decide +kernel)
theorem m_567 : Cond.instanceMethod y_Mo_parameter ∈ gW := gmT 567 (by decide +kernel) (by decide +kernel)
theorem m_568 : Cond.selects R_Mo y_Mo_parameter y_Mo_parameter ∈ gW := gmT 568 (by decide +kernel) (by decide +kernel)
theorem m_569 : Cond.code y_Mo_parameter b_Mo_parameter 2 (some .int) ∈ gW := gmT 569 (by decide +kernel) (by decide +kernel)
theorem m_570 : Cond.methodLink R_La 22 y_Mo_invalid ∈ gW := gmT 570 (by decide +kernel) (by decide +kernel)
theorem m_571 : Cond.instanceMethod y_Mo_invalid ∈ gW := gmT 571 (by decide +kernel) (by decide +kernel)
theorem m_572 : Cond.selects R_Mo y_Mo_invalid y_Mo_invalid ∈ gW := gmT 572 (by decide +kernel) (by decide +kernel)
theorem m_573 : Cond.code y_Mo_invalid b_Mo_invalid 3 (some .boolean) ∈ gW := gmT 573 (by decide +kernel) (by decide +kernel)
theorem m_574 : Cond.methodLink R_Mo 78 y_Mo_noValue ∈ gW := gmT 574 (by decide +kernel) (by decide +kernel)
theorem m_576 : Cond.instanceMethod y_Mo_noValue ∈ gW := gmT 576 (by decide +kernel) (by decide +kernel)
theorem m_577 : Cond.code y_Mo_noValue b_Mo_noValue 3 (some .boolean) ∈ gW := gmT 577 (by decide +kernel) (by decide +kernel)
theorem m_578 : Cond.methodLink R_La 27 y_Mo_relation ∈ gW := gmT 578 (by decide +kernel) (by decide +kernel)
theorem m_579 : Cond.instanceMethod y_Mo_relation ∈ gW := gmT 579 (by decide +kernel) (by decide +kernel)
theorem m_580 : Cond.selects R_Mo y_Mo_relation y_Mo_relation ∈ gW := gmT 580 (by decide +kernel) (by decide +kernel)
theorem m_581 : Cond.code y_Mo_relation b_Mo_relation 3 (some .int) ∈ gW := gmT 581 (by decide +kernel) (by decide +kernel)
theorem m_582 : Cond.methodLink R_Mo 82 y_Mo_size ∈ gW := gmT 582 (by decide +kernel) (by decide +kernel)
theorem m_584 : Cond.instanceMethod y_Mo_size ∈ gW := gmT 584 (by decide +kernel) (by decide +kernel)
theorem m_585 : Cond.code y_Mo_size b_Mo_size 4 (some .int) ∈ gW := gmT 585 (by decide +kernel) (by decide +kernel)
theorem m_586 : Cond.methodLink R_La 31 y_Mo_is ∈ gW := gmT 586 (by decide +kernel) (by decide +kernel)
theorem m_587 : Cond.instanceMethod y_Mo_is ∈ gW := gmT 587 (by decide +kernel) (by decide +kernel)
theorem m_588 : Cond.selects R_Mo y_Mo_is y_Mo_is ∈ gW := gmT 588 (by decide +kernel) (by decide +kernel)
theorem m_589 : Cond.code y_Mo_is b_Mo_is 3 (some .boolean) ∈ gW := gmT 589 (by decide +kernel) (by decide +kernel)
theorem m_590 : Cond.methodLink R_Mo 95 y_Mo_push ∈ gW := gmT 590 (by decide +kernel) (by decide +kernel)
theorem m_592 : Cond.instanceMethod y_Mo_push ∈ gW := gmT 592 (by decide +kernel) (by decide +kernel)
theorem m_593 : Cond.code y_Mo_push b_Mo_push 5 (some .boolean) ∈ gW := gmT 593 (by decide +kernel) (by decide +kernel)
theorem m_594 : Cond.methodLink R_La 36 y_Mo_not ∈ gW := gmT 594 (by decide +kernel) (by decide +kernel)
theorem m_595 : Cond.instanceMethod y_Mo_not ∈ gW := gmT 595 (by decide +kernel) (by decide +kernel)
theorem m_596 : Cond.selects R_Mo y_Mo_not y_Mo_not ∈ gW := gmT 596 (by decide +kernel) (by decide +kernel)
theorem m_597 : Cond.code y_Mo_not b_Mo_not 2 (some .boolean) ∈ gW := gmT 597 (by decide +kernel) (by decide +kernel)
theorem m_598 : Cond.methodLink R_La 41 y_Mo_join ∈ gW := gmT 598 (by decide +kernel) (by decide +kernel)
theorem m_599 : Cond.instanceMethod y_Mo_join ∈ gW := gmT 599 (by decide +kernel) (by decide +kernel)
theorem m_600 : Cond.selects R_Mo y_Mo_join y_Mo_join ∈ gW := gmT 600 (by decide +kernel) (by decide +kernel)
theorem m_601 : Cond.code y_Mo_join b_Mo_join 5 (some .boolean) ∈ gW := gmT 601 (by decide +kernel) (by decide +kernel)
theorem m_602 : Cond.methodLink R_La 46 y_Mo_require ∈ gW := gmT 602 (by decide +kernel) (by decide +kernel)
theorem m_603 : Cond.instanceMethod y_Mo_require ∈ gW := gmT 603 (by decide +kernel) (by decide +kernel)
theorem m_604 : Cond.selects R_Mo y_Mo_require y_Mo_require ∈ gW := gmT 604 (by decide +kernel) (by decide +kernel)
theorem m_605 : Cond.code y_Mo_require b_Mo_require 1 (some .int) ∈ gW := gmT 605 (by decide +kernel) (by decide +kernel)
theorem m_606 : Cond.methodLink R_La 50 y_Mo_seed ∈ gW := gmT 606 (by decide +kernel) (by decide +kernel)
theorem m_607 : Cond.instanceMethod y_Mo_seed ∈ gW := gmT 607 (by decide +kernel) (by decide +kernel)
theorem m_608 : Cond.selects R_Mo y_Mo_seed y_Mo_seed ∈ gW := gmT 608 (by decide +kernel) (by decide +kernel)
theorem m_609 : Cond.code y_Mo_seed b_Mo_seed 2 (some .int) ∈ gW := gmT 609 (by decide +kernel) (by decide +kernel)
theorem m_610 : Cond.methodLink R_La 54 y_Mo_begin ∈ gW := gmT 610 (by decide +kernel) (by decide +kernel)
theorem m_611 : Cond.instanceMethod y_Mo_begin ∈ gW := gmT 611 (by decide +kernel) (by decide +kernel)
theorem m_612 : Cond.selects R_Mo y_Mo_begin y_Mo_begin ∈ gW := gmT 612 (by decide +kernel) (by decide +kernel)
theorem m_613 : Cond.code y_Mo_begin b_Mo_begin 4 (some .int) ∈ gW := gmT 613 (by decide +kernel) (by decide +kernel)
theorem m_614 : Cond.methodLink R_Mo 116 y_Mo_look ∈ gW := gmT 614 (by decide +kernel) (by decide +kernel)
theorem m_616 : Cond.instanceMethod y_Mo_look ∈ gW := gmT 616 (by decide +kernel) (by decide +kernel)
theorem m_617 : Cond.code y_Mo_look b_Mo_look 4 none ∈ gW := gmT 617 (by decide +kernel) (by decide +kernel)
theorem m_618 : Cond.methodLink R_Mo 109 y_Mo_judge ∈ gW := gmT 618 (by decide +kernel) (by decide +kernel)
theorem m_620 : Cond.instanceMethod y_Mo_judge ∈ gW := gmT 620 (by decide +kernel) (by decide +kernel)
theorem m_621 : Cond.code y_Mo_judge b_Mo_judge 5 (some .int) ∈ gW := gmT 621 (by decide +kernel) (by decide +kernel)
theorem m_622 : Cond.methodLink R_Mo 105 y_Mo_meets ∈ gW := gmT 622 (by decide +kernel) (by decide +kernel)
theorem m_624 : Cond.instanceMethod y_Mo_meets ∈ gW := gmT 624 (by decide +kernel) (by decide +kernel)
theorem m_625 : Cond.code y_Mo_meets b_Mo_meets 5 (some .boolean) ∈ gW := gmT 625 (by decide +kernel) (by decide +kernel)
theorem m_626 : Cond.methodLink R_Mo 112 y_Mo_place ∈ gW := gmT 626 (by decide +kernel) (by decide +kernel)
theorem m_628 : Cond.instanceMethod y_Mo_place ∈ gW := gmT 628 (by decide +kernel) (by decide +kernel)
theorem m_629 : Cond.code y_Mo_place b_Mo_place 6 (some .int) ∈ gW := gmT 629 (by decide +kernel) (by decide +kernel)
theorem m_630 : Cond.methodLink R_Mo 128 y_Mo_asked ∈ gW := gmT 630 (by decide +kernel) (by decide +kernel)
theorem m_632 : Cond.instanceMethod y_Mo_asked ∈ gW := gmT 632 (by decide +kernel) (by decide +kernel)
theorem m_633 : Cond.code y_Mo_asked b_Mo_asked 4 (some .boolean) ∈ gW := gmT 633 (by decide +kernel) (by decide +kernel)
theorem m_634 : Cond.methodLink R_Mo 131 y_Mo_wrong ∈ gW := gmT 634 (by decide +kernel) (by decide +kernel)
theorem m_636 : Cond.instanceMethod y_Mo_wrong ∈ gW := gmT 636 (by decide +kernel) (by decide +kernel)
theorem m_637 : Cond.code y_Mo_wrong b_Mo_wrong 7 (some .int) ∈ gW := gmT 637 (by decide +kernel) (by decide +kernel)
theorem m_638 : Cond.methodLink R_Mo 134 y_Mo_take ∈ gW := gmT 638 (by decide +kernel) (by decide +kernel)
theorem m_640 : Cond.instanceMethod y_Mo_take ∈ gW := gmT 640 (by decide +kernel) (by decide +kernel)
theorem m_641 : Cond.code y_Mo_take b_Mo_take 2 none ∈ gW := gmT 641 (by decide +kernel) (by decide +kernel)
theorem m_642 : Cond.methodLink R_Mo 138 y_Mo_count ∈ gW := gmT 642 (by decide +kernel) (by decide +kernel)
theorem m_644 : Cond.instanceMethod y_Mo_count ∈ gW := gmT 644 (by decide +kernel) (by decide +kernel)
theorem m_645 : Cond.code y_Mo_count b_Mo_count 7 (some .int) ∈ gW := gmT 645 (by decide +kernel) (by decide +kernel)
theorem m_646 : Cond.methodLink R_La 58 y_Mo_next ∈ gW := gmT 646 (by decide +kernel) (by decide +kernel)
theorem m_647 : Cond.instanceMethod y_Mo_next ∈ gW := gmT 647 (by decide +kernel) (by decide +kernel)
theorem m_648 : Cond.selects R_Mo y_Mo_next y_Mo_next ∈ gW := gmT 648 (by decide +kernel) (by decide +kernel)
theorem m_649 : Cond.code y_Mo_next b_Mo_next 6 (some .int) ∈ gW := gmT 649 (by decide +kernel) (by decide +kernel)
theorem m_650 : Cond.methodLink R_La 62 y_Mo_end ∈ gW := gmT 650 (by decide +kernel) (by decide +kernel)
theorem m_651 : Cond.instanceMethod y_Mo_end ∈ gW := gmT 651 (by decide +kernel) (by decide +kernel)
theorem m_652 : Cond.selects R_Mo y_Mo_end y_Mo_end ∈ gW := gmT 652 (by decide +kernel) (by decide +kernel)
theorem m_653 : Cond.code y_Mo_end b_Mo_end 2 (some .boolean) ∈ gW := gmT 653 (by decide +kernel) (by decide +kernel)
theorem m_654 : Cond.methodLink R_La 66 y_Mo_rows ∈ gW := gmT 654 (by decide +kernel) (by decide +kernel)
theorem m_655 : Cond.instanceMethod y_Mo_rows ∈ gW := gmT 655 (by decide +kernel) (by decide +kernel)
theorem m_656 : Cond.selects R_Mo y_Mo_rows y_Mo_rows ∈ gW := gmT 656 (by decide +kernel) (by decide +kernel)
theorem m_657 : Cond.code y_Mo_rows b_Mo_rows 1 (some .int) ∈ gW := gmT 657 (by decide +kernel) (by decide +kernel)
theorem m_658 : Cond.methodLink R_La 70 y_Mo_row ∈ gW := gmT 658 (by decide +kernel) (by decide +kernel)
theorem m_659 : Cond.instanceMethod y_Mo_row ∈ gW := gmT 659 (by decide +kernel) (by decide +kernel)
theorem m_660 : Cond.selects R_Mo y_Mo_row y_Mo_row ∈ gW := gmT 660 (by decide +kernel) (by decide +kernel)
theorem m_661 : Cond.code y_Mo_row b_Mo_row 2 (some .int) ∈ gW := gmT 661 (by decide +kernel) (by decide +kernel)
theorem m_662 : Cond.methodLink R_Mo 142 y_Mo_noRow ∈ gW := gmT 662 (by decide +kernel) (by decide +kernel)
theorem m_664 : Cond.instanceMethod y_Mo_noRow ∈ gW := gmT 664 (by decide +kernel) (by decide +kernel)
theorem m_665 : Cond.code y_Mo_noRow b_Mo_noRow 2 (some .boolean) ∈ gW := gmT 665 (by decide +kernel) (by decide +kernel)
theorem m_666 : Cond.methodLink R_La 74 y_Mo_gained ∈ gW := gmT 666 (by decide +kernel) (by decide +kernel)
theorem m_667 : Cond.instanceMethod y_Mo_gained ∈ gW := gmT 667 (by decide +kernel) (by decide +kernel)
theorem m_668 : Cond.selects R_Mo y_Mo_gained y_Mo_gained ∈ gW := gmT 668 (by decide +kernel) (by decide +kernel)
theorem m_669 : Cond.code y_Mo_gained b_Mo_gained 2 (some .int) ∈ gW := gmT 669 (by decide +kernel) (by decide +kernel)
theorem m_670 : Cond.methodLink R_La 78 y_Mo_left ∈ gW := gmT 670 (by decide +kernel) (by decide +kernel)
theorem m_671 : Cond.instanceMethod y_Mo_left ∈ gW := gmT 671 (by decide +kernel) (by decide +kernel)
theorem m_672 : Cond.selects R_Mo y_Mo_left y_Mo_left ∈ gW := gmT 672 (by decide +kernel) (by decide +kernel)
theorem m_673 : Cond.code y_Mo_left b_Mo_left 1 (some .int) ∈ gW := gmT 673 (by decide +kernel) (by decide +kernel)
theorem m_674 : Cond.methodLink R_La 82 y_Mo_gain ∈ gW := gmT 674 (by decide +kernel) (by decide +kernel)
theorem m_675 : Cond.instanceMethod y_Mo_gain ∈ gW := gmT 675 (by decide +kernel) (by decide +kernel)
theorem m_676 : Cond.selects R_Mo y_Mo_gain y_Mo_gain ∈ gW := gmT 676 (by decide +kernel) (by decide +kernel)
theorem m_677 : Cond.code y_Mo_gain b_Mo_gain 2 (some .int) ∈ gW := gmT 677 (by decide +kernel) (by decide +kernel)
theorem m_678 : Cond.methodLink R_La 86 y_Mo_kind ∈ gW := gmT 678 (by decide +kernel) (by decide +kernel)
theorem m_679 : Cond.instanceMethod y_Mo_kind ∈ gW := gmT 679 (by decide +kernel) (by decide +kernel)
theorem m_680 : Cond.selects R_Mo y_Mo_kind y_Mo_kind ∈ gW := gmT 680 (by decide +kernel) (by decide +kernel)
theorem m_681 : Cond.code y_Mo_kind b_Mo_kind 2 (some .int) ∈ gW := gmT 681 (by decide +kernel) (by decide +kernel)
theorem m_682 : Cond.methodLink R_La 90 y_Mo_extendable ∈ gW := gmT 682 (by decide +kernel) (by decide +kernel)
theorem m_683 : Cond.instanceMethod y_Mo_extendable ∈ gW := gmT 683 (by decide +kernel) (by decide +kernel)
theorem m_684 : Cond.selects R_Mo y_Mo_extendable y_Mo_extendable ∈ gW := gmT 684 (by decide +kernel) (by decide +kernel)
theorem m_685 : Cond.code y_Mo_extendable b_Mo_extendable 7 (some .int) ∈ gW := gmT 685 (by decide +kernel) (by decide +kernel)
theorem m_686 : Cond.methodLink R_La 94 y_Mo_forbidden ∈ gW := gmT 686 (by decide +kernel) (by decide +kernel)
theorem m_687 : Cond.instanceMethod y_Mo_forbidden ∈ gW := gmT 687 (by decide +kernel) (by decide +kernel)
theorem m_688 : Cond.selects R_Mo y_Mo_forbidden y_Mo_forbidden ∈ gW := gmT 688 (by decide +kernel) (by decide +kernel)
theorem m_689 : Cond.code y_Mo_forbidden b_Mo_forbidden 5 (some .int) ∈ gW := gmT 689 (by decide +kernel) (by decide +kernel)
theorem m_690 : Cond.methodLink R_Mo 145 y_Mo_least ∈ gW := gmT 690 (by decide +kernel) (by decide +kernel)
theorem m_692 : Cond.instanceMethod y_Mo_least ∈ gW := gmT 692 (by decide +kernel) (by decide +kernel)
theorem m_693 : Cond.code y_Mo_least b_Mo_least 8 (some .boolean) ∈ gW := gmT 693 (by decide +kernel) (by decide +kernel)
theorem ms_Sp_sortRows : Cond.selects R_Sp y_Sp_sortRows y_Sp_sortRows ∈ gW := gmS 0 (by decide +kernel) (by decide +kernel)
theorem ms_Sp_wordWith : Cond.selects R_Sp y_Sp_wordWith y_Sp_wordWith ∈ gW := gmS 1 (by decide +kernel) (by decide +kernel)
theorem ms_Ge_countGoalsOf : Cond.selects R_Ge y_Ge_countGoalsOf y_Ge_countGoalsOf ∈ gW := gmS 2 (by decide +kernel) (by decide +kernel)
theorem ms_Ge_isGoal : Cond.selects R_Ge y_Ge_isGoal y_Ge_isGoal ∈ gW := gmS 3 (by decide +kernel) (by decide +kernel)
theorem ms_Ge_setsCoveredBy : Cond.selects R_Ge y_Ge_setsCoveredBy y_Ge_setsCoveredBy ∈ gW := gmS 4 (by decide +kernel) (by decide +kernel)
theorem ms_CR_takeSeeds : Cond.selects R_CR y_CR_takeSeeds y_CR_takeSeeds ∈ gW := gmS 5 (by decide +kernel) (by decide +kernel)
theorem ms_Sp_hasAllValues : Cond.selects R_Sp y_Sp_hasAllValues y_Sp_hasAllValues ∈ gW := gmS 6 (by decide +kernel) (by decide +kernel)
theorem ms_Ge_cover : Cond.selects R_Ge y_Ge_cover y_Ge_cover ∈ gW := gmS 7 (by decide +kernel) (by decide +kernel)
theorem ms_Ge_lowerGains : Cond.selects R_Ge y_Ge_lowerGains y_Ge_lowerGains ∈ gW := gmS 8 (by decide +kernel) (by decide +kernel)
theorem ms_Ge_bestOf : Cond.selects R_Ge y_Ge_bestOf y_Ge_bestOf ∈ gW := gmS 9 (by decide +kernel) (by decide +kernel)
theorem ms_CR_isTaken : Cond.selects R_CR y_CR_isTaken y_CR_isTaken ∈ gW := gmS 10 (by decide +kernel) (by decide +kernel)
theorem ms_Sp_isMinimalForbidden : Cond.selects R_Sp y_Sp_isMinimalForbidden y_Sp_isMinimalForbidden ∈ gW := gmS 11 (by decide +kernel) (by decide +kernel)
theorem ms_Mo_noValue : Cond.selects R_Mo y_Mo_noValue y_Mo_noValue ∈ gW := gmS 12 (by decide +kernel) (by decide +kernel)
theorem ms_Mo_size : Cond.selects R_Mo y_Mo_size y_Mo_size ∈ gW := gmS 13 (by decide +kernel) (by decide +kernel)
theorem ms_Mo_push : Cond.selects R_Mo y_Mo_push y_Mo_push ∈ gW := gmS 14 (by decide +kernel) (by decide +kernel)
theorem ms_Mo_look : Cond.selects R_Mo y_Mo_look y_Mo_look ∈ gW := gmS 15 (by decide +kernel) (by decide +kernel)
theorem ms_Mo_judge : Cond.selects R_Mo y_Mo_judge y_Mo_judge ∈ gW := gmS 16 (by decide +kernel) (by decide +kernel)
theorem ms_Mo_meets : Cond.selects R_Mo y_Mo_meets y_Mo_meets ∈ gW := gmS 17 (by decide +kernel) (by decide +kernel)
theorem ms_Mo_place : Cond.selects R_Mo y_Mo_place y_Mo_place ∈ gW := gmS 18 (by decide +kernel) (by decide +kernel)
theorem ms_Mo_asked : Cond.selects R_Mo y_Mo_asked y_Mo_asked ∈ gW := gmS 19 (by decide +kernel) (by decide +kernel)
theorem ms_Mo_wrong : Cond.selects R_Mo y_Mo_wrong y_Mo_wrong ∈ gW := gmS 20 (by decide +kernel) (by decide +kernel)
theorem ms_Mo_take : Cond.selects R_Mo y_Mo_take y_Mo_take ∈ gW := gmS 21 (by decide +kernel) (by decide +kernel)
theorem ms_Mo_count : Cond.selects R_Mo y_Mo_count y_Mo_count ∈ gW := gmS 22 (by decide +kernel) (by decide +kernel)
theorem ms_Mo_noRow : Cond.selects R_Mo y_Mo_noRow y_Mo_noRow ∈ gW := gmS 23 (by decide +kernel) (by decide +kernel)
theorem ms_Mo_least : Cond.selects R_Mo y_Mo_least y_Mo_least ∈ gW := gmS 24 (by decide +kernel) (by decide +kernel)
theorem in_NS : ∀ w ∈ u_ws R_NS F_NS 1, w ∈ gW := by
  have h : (u_ws R_NS F_NS 1).all (fun w => decide (w ∈ tables_1) && goodWord w) = true := by decide +kernel
  intro w hw
  have h1 := List.all_eq_true.mp h w hw
  simp only [Bool.and_eq_true, decide_eq_true_eq] at h1
  exact List.mem_filter.mpr ⟨List.mem_append_right _ h1.1, h1.2⟩
theorem in_Re : ∀ w ∈ u_ws R_Re F_Re 2, w ∈ gW := by
  have h : (u_ws R_Re F_Re 2).all (fun w => decide (w ∈ tables_1) && goodWord w) = true := by decide +kernel
  intro w hw
  have h1 := List.all_eq_true.mp h w hw
  simp only [Bool.and_eq_true, decide_eq_true_eq] at h1
  exact List.mem_filter.mpr ⟨List.mem_append_right _ h1.1, h1.2⟩
theorem in_Sp : ∀ w ∈ u_ws R_Sp F_Sp 7, w ∈ gW := by
  have h : (u_ws R_Sp F_Sp 7).all (fun w => decide (w ∈ tables_1) && goodWord w) = true := by decide +kernel
  intro w hw
  have h1 := List.all_eq_true.mp h w hw
  simp only [Bool.and_eq_true, decide_eq_true_eq] at h1
  exact List.mem_filter.mpr ⟨List.mem_append_right _ h1.1, h1.2⟩
theorem in_Te : ∀ w ∈ u_ws R_Te F_Te 3, w ∈ gW := by
  have h : (u_ws R_Te F_Te 3).all (fun w => decide (w ∈ tables_1) && goodWord w) = true := by decide +kernel
  intro w hw
  have h1 := List.all_eq_true.mp h w hw
  simp only [Bool.and_eq_true, decide_eq_true_eq] at h1
  exact List.mem_filter.mpr ⟨List.mem_append_right _ h1.1, h1.2⟩
theorem in_Ge : ∀ w ∈ u_ws R_Ge F_Ge 8, w ∈ gW := by
  have h : (u_ws R_Ge F_Ge 8).all (fun w => decide (w ∈ tables_1) && goodWord w) = true := by decide +kernel
  intro w hw
  have h1 := List.all_eq_true.mp h w hw
  simp only [Bool.and_eq_true, decide_eq_true_eq] at h1
  exact List.mem_filter.mpr ⟨List.mem_append_right _ h1.1, h1.2⟩
theorem in_CR : ∀ w ∈ u_ws R_CR F_CR 7, w ∈ gW := by
  have h : (u_ws R_CR F_CR 7).all (fun w => decide (w ∈ tables_1) && goodWord w) = true := by decide +kernel
  intro w hw
  have h1 := List.all_eq_true.mp h w hw
  simp only [Bool.and_eq_true, decide_eq_true_eq] at h1
  exact List.mem_filter.mpr ⟨List.mem_append_right _ h1.1, h1.2⟩
theorem in_Mo : ∀ w ∈ u_ws R_Mo F_Mo 29, w ∈ gW := by
  have h : (u_ws R_Mo F_Mo 29).all (fun w => decide (w ∈ tables_1) && goodWord w) = true := by decide +kernel
  intro w hw
  have h1 := List.all_eq_true.mp h w hw
  simp only [Bool.and_eq_true, decide_eq_true_eq] at h1
  exact List.mem_filter.mpr ⟨List.mem_append_right _ h1.1, h1.2⟩
end
section
theorem d_CR_init_0 : decode b_CR_init 0 = .ok (.aload_n 0, 1) := by decide +kernel
theorem d_CR_init_1 : decode b_CR_init 1 = .ok (.invokespecial 3, 3) := by decide +kernel
theorem d_CR_init_4 : decode b_CR_init 4 = .ok (.aload_n 0, 1) := by decide +kernel
theorem d_CR_init_5 : decode b_CR_init 5 = .ok (.new 9, 3) := by decide +kernel
theorem d_CR_init_8 : decode b_CR_init 8 = .ok (.dup, 1) := by decide +kernel
theorem d_CR_init_9 : decode b_CR_init 9 = .ok (.invokespecial 11, 3) := by decide +kernel
theorem d_CR_init_12 : decode b_CR_init 12 = .ok (.putfield 12, 3) := by decide +kernel
theorem d_CR_init_15 : decode b_CR_init 15 = .ok (.aload_n 0, 1) := by decide +kernel
theorem d_CR_init_16 : decode b_CR_init 16 = .ok (.new 16, 3) := by decide +kernel
theorem d_CR_init_19 : decode b_CR_init 19 = .ok (.dup, 1) := by decide +kernel
theorem d_CR_init_20 : decode b_CR_init 20 = .ok (.invokespecial 18, 3) := by decide +kernel
theorem d_CR_init_23 : decode b_CR_init 23 = .ok (.putfield 19, 3) := by decide +kernel
theorem d_CR_init_26 : decode b_CR_init 26 = .ok (.aload_n 0, 1) := by decide +kernel
theorem d_CR_init_27 : decode b_CR_init 27 = .ok (.new 23, 3) := by decide +kernel
theorem d_CR_init_30 : decode b_CR_init 30 = .ok (.dup, 1) := by decide +kernel
theorem d_CR_init_31 : decode b_CR_init 31 = .ok (.invokespecial 25, 3) := by decide +kernel
theorem d_CR_init_34 : decode b_CR_init 34 = .ok (.putfield 26, 3) := by decide +kernel
theorem d_CR_init_37 : decode b_CR_init 37 = .ok (.aload_n 0, 1) := by decide +kernel
theorem d_CR_init_38 : decode b_CR_init 38 = .ok (.bipush 8, 2) := by decide +kernel
theorem d_CR_init_40 : decode b_CR_init 40 = .ok (.newarray .int, 2) := by decide +kernel
theorem d_CR_init_42 : decode b_CR_init 42 = .ok (.putfield 30, 3) := by decide +kernel
theorem d_CR_init_45 : decode b_CR_init 45 = .ok (.aload_n 0, 1) := by decide +kernel
theorem d_CR_init_46 : decode b_CR_init 46 = .ok (.new 34, 3) := by decide +kernel
theorem d_CR_init_49 : decode b_CR_init 49 = .ok (.dup, 1) := by decide +kernel
theorem d_CR_init_50 : decode b_CR_init 50 = .ok (.aload_n 0, 1) := by decide +kernel
theorem d_CR_init_51 : decode b_CR_init 51 = .ok (.getfield 12, 3) := by decide +kernel
theorem d_CR_init_54 : decode b_CR_init 54 = .ok (.aload_n 0, 1) := by decide +kernel
theorem d_CR_init_55 : decode b_CR_init 55 = .ok (.getfield 19, 3) := by decide +kernel
theorem d_CR_init_58 : decode b_CR_init 58 = .ok (.invokespecial 36, 3) := by decide +kernel
theorem d_CR_init_61 : decode b_CR_init 61 = .ok (.putfield 39, 3) := by decide +kernel
theorem d_CR_init_64 : decode b_CR_init 64 = .ok (.return_, 1) := by decide +kernel
theorem d_Sp_init_0 : decode b_Sp_init 0 = .ok (.aload_n 0, 1) := by decide +kernel
theorem d_Sp_init_1 : decode b_Sp_init 1 = .ok (.invokespecial 3, 3) := by decide +kernel
theorem d_Sp_init_4 : decode b_Sp_init 4 = .ok (.aload_n 0, 1) := by decide +kernel
theorem d_Sp_init_5 : decode b_Sp_init 5 = .ok (.bipush 6, 2) := by decide +kernel
theorem d_Sp_init_7 : decode b_Sp_init 7 = .ok (.newarray .int, 2) := by decide +kernel
theorem d_Sp_init_9 : decode b_Sp_init 9 = .ok (.putfield 9, 3) := by decide +kernel
theorem d_Sp_init_12 : decode b_Sp_init 12 = .ok (.aload_n 0, 1) := by decide +kernel
theorem d_Sp_init_13 : decode b_Sp_init 13 = .ok (.bipush 6, 2) := by decide +kernel
theorem d_Sp_init_15 : decode b_Sp_init 15 = .ok (.newarray .int, 2) := by decide +kernel
theorem d_Sp_init_17 : decode b_Sp_init 17 = .ok (.putfield 15, 3) := by decide +kernel
theorem d_Sp_init_20 : decode b_Sp_init 20 = .ok (.aload_n 0, 1) := by decide +kernel
theorem d_Sp_init_21 : decode b_Sp_init 21 = .ok (.new 18, 3) := by decide +kernel
theorem d_Sp_init_24 : decode b_Sp_init 24 = .ok (.dup, 1) := by decide +kernel
theorem d_Sp_init_25 : decode b_Sp_init 25 = .ok (.invokespecial 20, 3) := by decide +kernel
theorem d_Sp_init_28 : decode b_Sp_init 28 = .ok (.putfield 21, 3) := by decide +kernel
theorem d_Sp_init_31 : decode b_Sp_init 31 = .ok (.aload_n 0, 1) := by decide +kernel
theorem d_Sp_init_32 : decode b_Sp_init 32 = .ok (.new 18, 3) := by decide +kernel
theorem d_Sp_init_35 : decode b_Sp_init 35 = .ok (.dup, 1) := by decide +kernel
theorem d_Sp_init_36 : decode b_Sp_init 36 = .ok (.invokespecial 20, 3) := by decide +kernel
theorem d_Sp_init_39 : decode b_Sp_init 39 = .ok (.putfield 25, 3) := by decide +kernel
theorem d_Sp_init_42 : decode b_Sp_init 42 = .ok (.aload_n 0, 1) := by decide +kernel
theorem d_Sp_init_43 : decode b_Sp_init 43 = .ok (.new 18, 3) := by decide +kernel
theorem d_Sp_init_46 : decode b_Sp_init 46 = .ok (.dup, 1) := by decide +kernel
theorem d_Sp_init_47 : decode b_Sp_init 47 = .ok (.invokespecial 20, 3) := by decide +kernel
theorem d_Sp_init_50 : decode b_Sp_init 50 = .ok (.putfield 28, 3) := by decide +kernel
theorem d_Sp_init_53 : decode b_Sp_init 53 = .ok (.aload_n 0, 1) := by decide +kernel
theorem d_Sp_init_54 : decode b_Sp_init 54 = .ok (.getfield 9, 3) := by decide +kernel
theorem d_Sp_init_57 : decode b_Sp_init 57 = .ok (.iconst 1, 1) := by decide +kernel
theorem d_Sp_init_58 : decode b_Sp_init 58 = .ok (.invokestatic 31, 3) := by decide +kernel
theorem d_Sp_init_61 : decode b_Sp_init 61 = .ok (.aload_n 0, 1) := by decide +kernel
theorem d_Sp_init_62 : decode b_Sp_init 62 = .ok (.getfield 21, 3) := by decide +kernel
theorem d_Sp_init_65 : decode b_Sp_init 65 = .ok (.invokevirtual 37, 3) := by decide +kernel
theorem d_Sp_init_68 : decode b_Sp_init 68 = .ok (.aload_n 0, 1) := by decide +kernel
theorem d_Sp_init_69 : decode b_Sp_init 69 = .ok (.invokevirtual 40, 3) := by decide +kernel
theorem d_Sp_init_72 : decode b_Sp_init 72 = .ok (.return_, 1) := by decide +kernel
theorem d_NS_init_0 : decode b_NS_init 0 = .ok (.aload_n 0, 1) := by decide +kernel
theorem d_NS_init_1 : decode b_NS_init 1 = .ok (.invokespecial 3, 3) := by decide +kernel
theorem d_NS_init_4 : decode b_NS_init 4 = .ok (.aload_n 0, 1) := by decide +kernel
theorem d_NS_init_5 : decode b_NS_init 5 = .ok (.bipush 64, 2) := by decide +kernel
theorem d_NS_init_7 : decode b_NS_init 7 = .ok (.newarray .long, 2) := by decide +kernel
theorem d_NS_init_9 : decode b_NS_init 9 = .ok (.putfield 9, 3) := by decide +kernel
theorem d_NS_init_12 : decode b_NS_init 12 = .ok (.return_, 1) := by decide +kernel
theorem d_JA_fillI_0 : decode b_JA_fillI 0 = .ok (.iconst 0, 1) := by decide +kernel
theorem d_JA_fillI_1 : decode b_JA_fillI 1 = .ok (.istore_n 2, 1) := by decide +kernel
theorem d_JA_fillI_2 : decode b_JA_fillI 2 = .ok (.aload_n 0, 1) := by decide +kernel
theorem d_JA_fillI_3 : decode b_JA_fillI 3 = .ok (.arraylength, 1) := by decide +kernel
theorem d_JA_fillI_4 : decode b_JA_fillI 4 = .ok (.istore_n 3, 1) := by decide +kernel
theorem d_JA_fillI_5 : decode b_JA_fillI 5 = .ok (.iload_n 2, 1) := by decide +kernel
theorem d_JA_fillI_6 : decode b_JA_fillI 6 = .ok (.iload_n 3, 1) := by decide +kernel
theorem d_JA_fillI_7 : decode b_JA_fillI 7 = .ok (.if_icmp .ge 13, 3) := by decide +kernel
theorem d_JA_fillI_10 : decode b_JA_fillI 10 = .ok (.aload_n 0, 1) := by decide +kernel
theorem d_JA_fillI_11 : decode b_JA_fillI 11 = .ok (.iload_n 2, 1) := by decide +kernel
theorem d_JA_fillI_12 : decode b_JA_fillI 12 = .ok (.iload_n 1, 1) := by decide +kernel
theorem d_JA_fillI_13 : decode b_JA_fillI 13 = .ok (.iastore, 1) := by decide +kernel
theorem d_JA_fillI_14 : decode b_JA_fillI 14 = .ok (.iinc 2 1, 3) := by decide +kernel
theorem d_JA_fillI_17 : decode b_JA_fillI 17 = .ok (.goto (-12), 3) := by decide +kernel
theorem d_JA_fillI_20 : decode b_JA_fillI 20 = .ok (.return_, 1) := by decide +kernel
theorem d_NS_becomeAll_0 : decode b_NS_becomeAll 0 = .ok (.aload_n 0, 1) := by decide +kernel
theorem d_NS_becomeAll_1 : decode b_NS_becomeAll 1 = .ok (.getfield 9, 3) := by decide +kernel
theorem d_NS_becomeAll_4 : decode b_NS_becomeAll 4 = .ok (.ldc2_w 33, 3) := by decide +kernel
theorem d_NS_becomeAll_7 : decode b_NS_becomeAll 7 = .ok (.invokestatic 45, 3) := by decide +kernel
theorem d_NS_becomeAll_10 : decode b_NS_becomeAll 10 = .ok (.return_, 1) := by decide +kernel
theorem d_JA_fillL_0 : decode b_JA_fillL 0 = .ok (.iconst 0, 1) := by decide +kernel
theorem d_JA_fillL_1 : decode b_JA_fillL 1 = .ok (.istore_n 3, 1) := by decide +kernel
theorem d_JA_fillL_2 : decode b_JA_fillL 2 = .ok (.aload_n 0, 1) := by decide +kernel
theorem d_JA_fillL_3 : decode b_JA_fillL 3 = .ok (.arraylength, 1) := by decide +kernel
theorem d_JA_fillL_4 : decode b_JA_fillL 4 = .ok (.istore 4, 2) := by decide +kernel
theorem d_JA_fillL_6 : decode b_JA_fillL 6 = .ok (.iload_n 3, 1) := by decide +kernel
theorem d_JA_fillL_7 : decode b_JA_fillL 7 = .ok (.iload 4, 2) := by decide +kernel
theorem d_JA_fillL_9 : decode b_JA_fillL 9 = .ok (.if_icmp .ge 13, 3) := by decide +kernel
theorem d_JA_fillL_12 : decode b_JA_fillL 12 = .ok (.aload_n 0, 1) := by decide +kernel
theorem d_JA_fillL_13 : decode b_JA_fillL 13 = .ok (.iload_n 3, 1) := by decide +kernel
theorem d_JA_fillL_14 : decode b_JA_fillL 14 = .ok (.lload_n 1, 1) := by decide +kernel
theorem d_JA_fillL_15 : decode b_JA_fillL 15 = .ok (.lastore, 1) := by decide +kernel
theorem d_JA_fillL_16 : decode b_JA_fillL 16 = .ok (.iinc 3 1, 3) := by decide +kernel
theorem d_JA_fillL_19 : decode b_JA_fillL 19 = .ok (.goto (-13), 3) := by decide +kernel
theorem d_JA_fillL_22 : decode b_JA_fillL 22 = .ok (.return_, 1) := by decide +kernel
theorem d_Sp_sortRows_0 : decode b_Sp_sortRows 0 = .ok (.iconst 0, 1) := by decide +kernel
theorem d_Sp_sortRows_1 : decode b_Sp_sortRows 1 = .ok (.istore_n 1, 1) := by decide +kernel
theorem d_Sp_sortRows_2 : decode b_Sp_sortRows 2 = .ok (.iload_n 1, 1) := by decide +kernel
theorem d_Sp_sortRows_3 : decode b_Sp_sortRows 3 = .ok (.bipush 64, 2) := by decide +kernel
theorem d_Sp_sortRows_5 : decode b_Sp_sortRows 5 = .ok (.if_icmp .ge 110, 3) := by decide +kernel
theorem d_Sp_sortRows_8 : decode b_Sp_sortRows 8 = .ok (.aload_n 0, 1) := by decide +kernel
theorem d_Sp_sortRows_9 : decode b_Sp_sortRows 9 = .ok (.getfield 21, 3) := by decide +kernel
theorem d_Sp_sortRows_12 : decode b_Sp_sortRows 12 = .ok (.getfield 54, 3) := by decide +kernel
theorem d_Sp_sortRows_15 : decode b_Sp_sortRows 15 = .ok (.iload_n 1, 1) := by decide +kernel
theorem d_Sp_sortRows_16 : decode b_Sp_sortRows 16 = .ok (.laload, 1) := by decide +kernel
theorem d_Sp_sortRows_17 : decode b_Sp_sortRows 17 = .ok (.lstore_n 2, 1) := by decide +kernel
theorem d_Sp_sortRows_18 : decode b_Sp_sortRows 18 = .ok (.lconst 0, 1) := by decide +kernel
theorem d_Sp_sortRows_19 : decode b_Sp_sortRows 19 = .ok (.lstore 4, 2) := by decide +kernel
theorem d_Sp_sortRows_21 : decode b_Sp_sortRows 21 = .ok (.iconst 0, 1) := by decide +kernel
theorem d_Sp_sortRows_22 : decode b_Sp_sortRows 22 = .ok (.istore 6, 2) := by decide +kernel
theorem d_Sp_sortRows_24 : decode b_Sp_sortRows 24 = .ok (.iload 6, 2) := by decide +kernel
theorem d_Sp_sortRows_26 : decode b_Sp_sortRows 26 = .ok (.bipush 6, 2) := by decide +kernel
theorem d_Sp_sortRows_28 : decode b_Sp_sortRows 28 = .ok (.if_icmp .ge 60, 3) := by decide +kernel
theorem d_Sp_sortRows_31 : decode b_Sp_sortRows 31 = .ok (.aload_n 0, 1) := by decide +kernel
theorem d_Sp_sortRows_32 : decode b_Sp_sortRows 32 = .ok (.iload 6, 2) := by decide +kernel
theorem d_Sp_sortRows_34 : decode b_Sp_sortRows 34 = .ok (.aload_n 0, 1) := by decide +kernel
theorem d_Sp_sortRows_35 : decode b_Sp_sortRows 35 = .ok (.getfield 15, 3) := by decide +kernel
theorem d_Sp_sortRows_38 : decode b_Sp_sortRows 38 = .ok (.iload 6, 2) := by decide +kernel
theorem d_Sp_sortRows_40 : decode b_Sp_sortRows 40 = .ok (.iaload, 1) := by decide +kernel
theorem d_Sp_sortRows_41 : decode b_Sp_sortRows 41 = .ok (.iconst (-1), 1) := by decide +kernel
theorem d_Sp_sortRows_42 : decode b_Sp_sortRows 42 = .ok (.ixor, 1) := by decide +kernel
theorem d_Sp_sortRows_43 : decode b_Sp_sortRows 43 = .ok (.iload_n 1, 1) := by decide +kernel
theorem d_Sp_sortRows_44 : decode b_Sp_sortRows 44 = .ok (.invokevirtual 58, 3) := by decide +kernel
theorem d_Sp_sortRows_47 : decode b_Sp_sortRows 47 = .ok (.lstore 7, 2) := by decide +kernel
theorem d_Sp_sortRows_49 : decode b_Sp_sortRows 49 = .ok (.aload_n 0, 1) := by decide +kernel
theorem d_Sp_sortRows_50 : decode b_Sp_sortRows 50 = .ok (.iload 6, 2) := by decide +kernel
theorem d_Sp_sortRows_52 : decode b_Sp_sortRows 52 = .ok (.aload_n 0, 1) := by decide +kernel
theorem d_Sp_sortRows_53 : decode b_Sp_sortRows 53 = .ok (.getfield 15, 3) := by decide +kernel
theorem d_Sp_sortRows_56 : decode b_Sp_sortRows 56 = .ok (.iload 6, 2) := by decide +kernel
theorem d_Sp_sortRows_58 : decode b_Sp_sortRows 58 = .ok (.iaload, 1) := by decide +kernel
theorem d_Sp_sortRows_59 : decode b_Sp_sortRows 59 = .ok (.iload_n 1, 1) := by decide +kernel
theorem d_Sp_sortRows_60 : decode b_Sp_sortRows 60 = .ok (.invokevirtual 58, 3) := by decide +kernel
theorem d_Sp_sortRows_63 : decode b_Sp_sortRows 63 = .ok (.lstore 9, 2) := by decide +kernel
theorem d_Sp_sortRows_65 : decode b_Sp_sortRows 65 = .ok (.lload 4, 2) := by decide +kernel
theorem d_Sp_sortRows_67 : decode b_Sp_sortRows 67 = .ok (.lload 7, 2) := by decide +kernel
theorem d_Sp_sortRows_69 : decode b_Sp_sortRows 69 = .ok (.land, 1) := by decide +kernel
theorem d_Sp_sortRows_70 : decode b_Sp_sortRows 70 = .ok (.lload_n 2, 1) := by decide +kernel
theorem d_Sp_sortRows_71 : decode b_Sp_sortRows 71 = .ok (.lload 9, 2) := by decide +kernel
theorem d_Sp_sortRows_73 : decode b_Sp_sortRows 73 = .ok (.land, 1) := by decide +kernel
theorem d_Sp_sortRows_74 : decode b_Sp_sortRows 74 = .ok (.lor, 1) := by decide +kernel
theorem d_Sp_sortRows_75 : decode b_Sp_sortRows 75 = .ok (.lstore 4, 2) := by decide +kernel
theorem d_Sp_sortRows_77 : decode b_Sp_sortRows 77 = .ok (.lload_n 2, 1) := by decide +kernel
theorem d_Sp_sortRows_78 : decode b_Sp_sortRows 78 = .ok (.lload 7, 2) := by decide +kernel
theorem d_Sp_sortRows_80 : decode b_Sp_sortRows 80 = .ok (.land, 1) := by decide +kernel
theorem d_Sp_sortRows_81 : decode b_Sp_sortRows 81 = .ok (.lstore_n 2, 1) := by decide +kernel
theorem d_Sp_sortRows_82 : decode b_Sp_sortRows 82 = .ok (.iinc 6 1, 3) := by decide +kernel
theorem d_Sp_sortRows_85 : decode b_Sp_sortRows 85 = .ok (.goto (-61), 3) := by decide +kernel
theorem d_Sp_sortRows_88 : decode b_Sp_sortRows 88 = .ok (.aload_n 0, 1) := by decide +kernel
theorem d_Sp_sortRows_89 : decode b_Sp_sortRows 89 = .ok (.getfield 25, 3) := by decide +kernel
theorem d_Sp_sortRows_92 : decode b_Sp_sortRows 92 = .ok (.getfield 54, 3) := by decide +kernel
theorem d_Sp_sortRows_95 : decode b_Sp_sortRows 95 = .ok (.iload_n 1, 1) := by decide +kernel
theorem d_Sp_sortRows_96 : decode b_Sp_sortRows 96 = .ok (.lload_n 2, 1) := by decide +kernel
theorem d_Sp_sortRows_97 : decode b_Sp_sortRows 97 = .ok (.lastore, 1) := by decide +kernel
theorem d_Sp_sortRows_98 : decode b_Sp_sortRows 98 = .ok (.aload_n 0, 1) := by decide +kernel
theorem d_Sp_sortRows_99 : decode b_Sp_sortRows 99 = .ok (.getfield 28, 3) := by decide +kernel
theorem d_Sp_sortRows_102 : decode b_Sp_sortRows 102 = .ok (.getfield 54, 3) := by decide +kernel
theorem d_Sp_sortRows_105 : decode b_Sp_sortRows 105 = .ok (.iload_n 1, 1) := by decide +kernel
theorem d_Sp_sortRows_106 : decode b_Sp_sortRows 106 = .ok (.lload 4, 2) := by decide +kernel
theorem d_Sp_sortRows_108 : decode b_Sp_sortRows 108 = .ok (.lastore, 1) := by decide +kernel
theorem d_Sp_sortRows_109 : decode b_Sp_sortRows 109 = .ok (.iinc 1 1, 3) := by decide +kernel
theorem d_Sp_sortRows_112 : decode b_Sp_sortRows 112 = .ok (.goto (-110), 3) := by decide +kernel
theorem d_Sp_sortRows_115 : decode b_Sp_sortRows 115 = .ok (.return_, 1) := by decide +kernel
theorem d_Sp_wordWith_0 : decode b_Sp_wordWith 0 = .ok (.lconst 0, 1) := by decide +kernel
theorem d_Sp_wordWith_1 : decode b_Sp_wordWith 1 = .ok (.lstore 4, 2) := by decide +kernel
theorem d_Sp_wordWith_3 : decode b_Sp_wordWith 3 = .ok (.iconst 0, 1) := by decide +kernel
theorem d_Sp_wordWith_4 : decode b_Sp_wordWith 4 = .ok (.istore 6, 2) := by decide +kernel
theorem d_Sp_wordWith_6 : decode b_Sp_wordWith 6 = .ok (.iload 6, 2) := by decide +kernel
theorem d_Sp_wordWith_8 : decode b_Sp_wordWith 8 = .ok (.aload_n 0, 1) := by decide +kernel
theorem d_Sp_wordWith_9 : decode b_Sp_wordWith 9 = .ok (.getfield 9, 3) := by decide +kernel
theorem d_Sp_wordWith_12 : decode b_Sp_wordWith 12 = .ok (.iload_n 1, 1) := by decide +kernel
theorem d_Sp_wordWith_13 : decode b_Sp_wordWith 13 = .ok (.iaload, 1) := by decide +kernel
theorem d_Sp_wordWith_14 : decode b_Sp_wordWith 14 = .ok (.if_icmp .ge 30, 3) := by decide +kernel
theorem d_Sp_wordWith_17 : decode b_Sp_wordWith 17 = .ok (.iload_n 2, 1) := by decide +kernel
theorem d_Sp_wordWith_18 : decode b_Sp_wordWith 18 = .ok (.iload 6, 2) := by decide +kernel
theorem d_Sp_wordWith_20 : decode b_Sp_wordWith 20 = .ok (.ishr, 1) := by decide +kernel
theorem d_Sp_wordWith_21 : decode b_Sp_wordWith 21 = .ok (.iconst 1, 1) := by decide +kernel
theorem d_Sp_wordWith_22 : decode b_Sp_wordWith 22 = .ok (.iand, 1) := by decide +kernel
theorem d_Sp_wordWith_23 : decode b_Sp_wordWith 23 = .ok (.ifCond .eq 15, 3) := by decide +kernel
theorem d_Sp_wordWith_26 : decode b_Sp_wordWith 26 = .ok (.lload 4, 2) := by decide +kernel
theorem d_Sp_wordWith_28 : decode b_Sp_wordWith 28 = .ok (.iload_n 1, 1) := by decide +kernel
theorem d_Sp_wordWith_29 : decode b_Sp_wordWith 29 = .ok (.iload 6, 2) := by decide +kernel
theorem d_Sp_wordWith_31 : decode b_Sp_wordWith 31 = .ok (.iload_n 3, 1) := by decide +kernel
theorem d_Sp_wordWith_32 : decode b_Sp_wordWith 32 = .ok (.invokestatic 62, 3) := by decide +kernel
theorem d_Sp_wordWith_35 : decode b_Sp_wordWith 35 = .ok (.lor, 1) := by decide +kernel
theorem d_Sp_wordWith_36 : decode b_Sp_wordWith 36 = .ok (.lstore 4, 2) := by decide +kernel
theorem d_Sp_wordWith_38 : decode b_Sp_wordWith 38 = .ok (.iinc 6 1, 3) := by decide +kernel
theorem d_Sp_wordWith_41 : decode b_Sp_wordWith 41 = .ok (.goto (-35), 3) := by decide +kernel
theorem d_Sp_wordWith_44 : decode b_Sp_wordWith 44 = .ok (.lload 4, 2) := by decide +kernel
theorem d_Sp_wordWith_46 : decode b_Sp_wordWith 46 = .ok (.lreturn, 1) := by decide +kernel
theorem d_NS_wordOf_0 : decode b_NS_wordOf 0 = .ok (.iload_n 0, 1) := by decide +kernel
theorem d_NS_wordOf_1 : decode b_NS_wordOf 1 = .ok (.iconst 3, 1) := by decide +kernel
theorem d_NS_wordOf_2 : decode b_NS_wordOf 2 = .ok (.if_icmp .ge 15, 3) := by decide +kernel
theorem d_NS_wordOf_5 : decode b_NS_wordOf 5 = .ok (.getstatic 38, 3) := by decide +kernel
theorem d_NS_wordOf_8 : decode b_NS_wordOf 8 = .ok (.iload_n 0, 1) := by decide +kernel
theorem d_NS_wordOf_9 : decode b_NS_wordOf 9 = .ok (.laload, 1) := by decide +kernel
theorem d_NS_wordOf_10 : decode b_NS_wordOf 10 = .ok (.iload_n 1, 1) := by decide +kernel
theorem d_NS_wordOf_11 : decode b_NS_wordOf 11 = .ok (.iconst 2, 1) := by decide +kernel
theorem d_NS_wordOf_12 : decode b_NS_wordOf 12 = .ok (.iload_n 0, 1) := by decide +kernel
theorem d_NS_wordOf_13 : decode b_NS_wordOf 13 = .ok (.imul, 1) := by decide +kernel
theorem d_NS_wordOf_14 : decode b_NS_wordOf 14 = .ok (.ishl, 1) := by decide +kernel
theorem d_NS_wordOf_15 : decode b_NS_wordOf 15 = .ok (.lshl, 1) := by decide +kernel
theorem d_NS_wordOf_16 : decode b_NS_wordOf 16 = .ok (.lreturn, 1) := by decide +kernel
theorem d_NS_wordOf_17 : decode b_NS_wordOf 17 = .ok (.iload_n 0, 1) := by decide +kernel
theorem d_NS_wordOf_18 : decode b_NS_wordOf 18 = .ok (.iconst 3, 1) := by decide +kernel
theorem d_NS_wordOf_19 : decode b_NS_wordOf 19 = .ok (.isub, 1) := by decide +kernel
theorem d_NS_wordOf_20 : decode b_NS_wordOf 20 = .ok (.iload_n 2, 1) := by decide +kernel
theorem d_NS_wordOf_21 : decode b_NS_wordOf 21 = .ok (.invokestatic 35, 3) := by decide +kernel
theorem d_NS_wordOf_24 : decode b_NS_wordOf 24 = .ok (.iload_n 1, 1) := by decide +kernel
theorem d_NS_wordOf_25 : decode b_NS_wordOf 25 = .ok (.if_icmp .ne 9, 3) := by decide +kernel
theorem d_NS_wordOf_28 : decode b_NS_wordOf 28 = .ok (.ldc2_w 33, 3) := by decide +kernel
theorem d_NS_wordOf_31 : decode b_NS_wordOf 31 = .ok (.goto 4, 3) := by decide +kernel
theorem d_NS_wordOf_34 : decode b_NS_wordOf 34 = .ok (.lconst 0, 1) := by decide +kernel
theorem d_NS_wordOf_35 : decode b_NS_wordOf 35 = .ok (.lreturn, 1) := by decide +kernel
theorem d_CR_valueOf_0 : decode b_CR_valueOf 0 = .ok (.iload_n 1, 1) := by decide +kernel
theorem d_CR_valueOf_1 : decode b_CR_valueOf 1 = .ok (.iconst 2, 1) := by decide +kernel
theorem d_CR_valueOf_2 : decode b_CR_valueOf 2 = .ok (.iload_n 0, 1) := by decide +kernel
theorem d_CR_valueOf_3 : decode b_CR_valueOf 3 = .ok (.imul, 1) := by decide +kernel
theorem d_CR_valueOf_4 : decode b_CR_valueOf 4 = .ok (.ishr, 1) := by decide +kernel
theorem d_CR_valueOf_5 : decode b_CR_valueOf 5 = .ok (.iconst 3, 1) := by decide +kernel
theorem d_CR_valueOf_6 : decode b_CR_valueOf 6 = .ok (.iand, 1) := by decide +kernel
theorem d_CR_valueOf_7 : decode b_CR_valueOf 7 = .ok (.ireturn, 1) := by decide +kernel
theorem d_Re_init_0 : decode b_Re_init 0 = .ok (.aload_n 0, 1) := by decide +kernel
theorem d_Re_init_1 : decode b_Re_init 1 = .ok (.invokespecial 3, 3) := by decide +kernel
theorem d_Re_init_4 : decode b_Re_init 4 = .ok (.return_, 1) := by decide +kernel
theorem d_Te_init_0 : decode b_Te_init 0 = .ok (.aload_n 0, 1) := by decide +kernel
theorem d_Te_init_1 : decode b_Te_init 1 = .ok (.invokespecial 3, 3) := by decide +kernel
theorem d_Te_init_4 : decode b_Te_init 4 = .ok (.aload_n 0, 1) := by decide +kernel
theorem d_Te_init_5 : decode b_Te_init 5 = .ok (.bipush 8, 2) := by decide +kernel
theorem d_Te_init_7 : decode b_Te_init 7 = .ok (.anewarray 9, 3) := by decide +kernel
theorem d_Te_init_10 : decode b_Te_init 10 = .ok (.putfield 11, 3) := by decide +kernel
theorem d_Te_init_13 : decode b_Te_init 13 = .ok (.aload_n 0, 1) := by decide +kernel
theorem d_Te_init_14 : decode b_Te_init 14 = .ok (.bipush 8, 2) := by decide +kernel
theorem d_Te_init_16 : decode b_Te_init 16 = .ok (.newarray .int, 2) := by decide +kernel
theorem d_Te_init_18 : decode b_Te_init 18 = .ok (.putfield 17, 3) := by decide +kernel
theorem d_Te_init_21 : decode b_Te_init 21 = .ok (.iconst 0, 1) := by decide +kernel
theorem d_Te_init_22 : decode b_Te_init 22 = .ok (.istore_n 1, 1) := by decide +kernel
theorem d_Te_init_23 : decode b_Te_init 23 = .ok (.iload_n 1, 1) := by decide +kernel
theorem d_Te_init_24 : decode b_Te_init 24 = .ok (.bipush 8, 2) := by decide +kernel
theorem d_Te_init_26 : decode b_Te_init 26 = .ok (.if_icmp .ge 22, 3) := by decide +kernel
theorem d_Te_init_29 : decode b_Te_init 29 = .ok (.aload_n 0, 1) := by decide +kernel
theorem d_Te_init_30 : decode b_Te_init 30 = .ok (.getfield 11, 3) := by decide +kernel
theorem d_Te_init_33 : decode b_Te_init 33 = .ok (.iload_n 1, 1) := by decide +kernel
theorem d_Te_init_34 : decode b_Te_init 34 = .ok (.new 9, 3) := by decide +kernel
theorem d_Te_init_37 : decode b_Te_init 37 = .ok (.dup, 1) := by decide +kernel
theorem d_Te_init_38 : decode b_Te_init 38 = .ok (.invokespecial 21, 3) := by decide +kernel
theorem d_Te_init_41 : decode b_Te_init 41 = .ok (.aastore, 1) := by decide +kernel
theorem d_Te_init_42 : decode b_Te_init 42 = .ok (.iinc 1 1, 3) := by decide +kernel
theorem d_Te_init_45 : decode b_Te_init 45 = .ok (.goto (-22), 3) := by decide +kernel
theorem d_Te_init_48 : decode b_Te_init 48 = .ok (.return_, 1) := by decide +kernel
theorem d_Ge_init_0 : decode b_Ge_init 0 = .ok (.aload_n 0, 1) := by decide +kernel
theorem d_Ge_init_1 : decode b_Ge_init 1 = .ok (.invokespecial 3, 3) := by decide +kernel
theorem d_Ge_init_4 : decode b_Ge_init 4 = .ok (.aload_n 0, 1) := by decide +kernel
theorem d_Ge_init_5 : decode b_Ge_init 5 = .ok (.bipush 64, 2) := by decide +kernel
theorem d_Ge_init_7 : decode b_Ge_init 7 = .ok (.newarray .long, 2) := by decide +kernel
theorem d_Ge_init_9 : decode b_Ge_init 9 = .ok (.putfield 9, 3) := by decide +kernel
theorem d_Ge_init_12 : decode b_Ge_init 12 = .ok (.aload_n 0, 1) := by decide +kernel
theorem d_Ge_init_13 : decode b_Ge_init 13 = .ok (.sipush 4096, 3) := by decide +kernel
theorem d_Ge_init_16 : decode b_Ge_init 16 = .ok (.newarray .int, 2) := by decide +kernel
theorem d_Ge_init_18 : decode b_Ge_init 18 = .ok (.putfield 15, 3) := by decide +kernel
theorem d_Ge_init_21 : decode b_Ge_init 21 = .ok (.aload_n 0, 1) := by decide +kernel
theorem d_Ge_init_22 : decode b_Ge_init 22 = .ok (.sipush 520, 3) := by decide +kernel
theorem d_Ge_init_25 : decode b_Ge_init 25 = .ok (.newarray .int, 2) := by decide +kernel
theorem d_Ge_init_27 : decode b_Ge_init 27 = .ok (.putfield 19, 3) := by decide +kernel
theorem d_Ge_init_30 : decode b_Ge_init 30 = .ok (.aload_n 0, 1) := by decide +kernel
theorem d_Ge_init_31 : decode b_Ge_init 31 = .ok (.sipush 520, 3) := by decide +kernel
theorem d_Ge_init_34 : decode b_Ge_init 34 = .ok (.newarray .int, 2) := by decide +kernel
theorem d_Ge_init_36 : decode b_Ge_init 36 = .ok (.putfield 22, 3) := by decide +kernel
theorem d_Ge_init_39 : decode b_Ge_init 39 = .ok (.aload_n 0, 1) := by decide +kernel
theorem d_Ge_init_40 : decode b_Ge_init 40 = .ok (.aload_n 1, 1) := by decide +kernel
theorem d_Ge_init_41 : decode b_Ge_init 41 = .ok (.putfield 25, 3) := by decide +kernel
theorem d_Ge_init_44 : decode b_Ge_init 44 = .ok (.aload_n 0, 1) := by decide +kernel
theorem d_Ge_init_45 : decode b_Ge_init 45 = .ok (.aload_n 2, 1) := by decide +kernel
theorem d_Ge_init_46 : decode b_Ge_init 46 = .ok (.putfield 29, 3) := by decide +kernel
theorem d_Ge_init_49 : decode b_Ge_init 49 = .ok (.return_, 1) := by decide +kernel
theorem d_CR_parameter_0 : decode b_CR_parameter 0 = .ok (.aload_n 0, 1) := by decide +kernel
theorem d_CR_parameter_1 : decode b_CR_parameter 1 = .ok (.getfield 43, 3) := by decide +kernel
theorem d_CR_parameter_4 : decode b_CR_parameter 4 = .ok (.ifCond .eq 5, 3) := by decide +kernel
theorem d_CR_parameter_7 : decode b_CR_parameter 7 = .ok (.iconst (-1), 1) := by decide +kernel
theorem d_CR_parameter_8 : decode b_CR_parameter 8 = .ok (.ireturn, 1) := by decide +kernel
theorem d_CR_parameter_9 : decode b_CR_parameter 9 = .ok (.iload_n 1, 1) := by decide +kernel
theorem d_CR_parameter_10 : decode b_CR_parameter 10 = .ok (.iconst 2, 1) := by decide +kernel
theorem d_CR_parameter_11 : decode b_CR_parameter 11 = .ok (.if_icmp .lt 20, 3) := by decide +kernel
theorem d_CR_parameter_14 : decode b_CR_parameter 14 = .ok (.iload_n 1, 1) := by decide +kernel
theorem d_CR_parameter_15 : decode b_CR_parameter 15 = .ok (.iconst 4, 1) := by decide +kernel
theorem d_CR_parameter_16 : decode b_CR_parameter 16 = .ok (.if_icmp .gt 15, 3) := by decide +kernel
theorem d_CR_parameter_19 : decode b_CR_parameter 19 = .ok (.aload_n 0, 1) := by decide +kernel
theorem d_CR_parameter_20 : decode b_CR_parameter 20 = .ok (.getfield 12, 3) := by decide +kernel
theorem d_CR_parameter_23 : decode b_CR_parameter 23 = .ok (.getfield 47, 3) := by decide +kernel
theorem d_CR_parameter_26 : decode b_CR_parameter 26 = .ok (.bipush 6, 2) := by decide +kernel
theorem d_CR_parameter_28 : decode b_CR_parameter 28 = .ok (.if_icmp .ne 6, 3) := by decide +kernel
theorem d_CR_parameter_31 : decode b_CR_parameter 31 = .ok (.bipush (-2), 2) := by decide +kernel
theorem d_CR_parameter_33 : decode b_CR_parameter 33 = .ok (.ireturn, 1) := by decide +kernel
theorem d_CR_parameter_34 : decode b_CR_parameter 34 = .ok (.aload_n 0, 1) := by decide +kernel
theorem d_CR_parameter_35 : decode b_CR_parameter 35 = .ok (.getfield 12, 3) := by decide +kernel
theorem d_CR_parameter_38 : decode b_CR_parameter 38 = .ok (.iload_n 1, 1) := by decide +kernel
theorem d_CR_parameter_39 : decode b_CR_parameter 39 = .ok (.invokevirtual 51, 3) := by decide +kernel
theorem d_CR_parameter_42 : decode b_CR_parameter 42 = .ok (.aload_n 0, 1) := by decide +kernel
theorem d_CR_parameter_43 : decode b_CR_parameter 43 = .ok (.getfield 12, 3) := by decide +kernel
theorem d_CR_parameter_46 : decode b_CR_parameter 46 = .ok (.getfield 47, 3) := by decide +kernel
theorem d_CR_parameter_49 : decode b_CR_parameter 49 = .ok (.iconst 1, 1) := by decide +kernel
theorem d_CR_parameter_50 : decode b_CR_parameter 50 = .ok (.isub, 1) := by decide +kernel
theorem d_CR_parameter_51 : decode b_CR_parameter 51 = .ok (.ireturn, 1) := by decide +kernel
theorem d_Sp_addParameter_0 : decode b_Sp_addParameter 0 = .ok (.aload_n 0, 1) := by decide +kernel
theorem d_Sp_addParameter_1 : decode b_Sp_addParameter 1 = .ok (.getfield 9, 3) := by decide +kernel
theorem d_Sp_addParameter_4 : decode b_Sp_addParameter 4 = .ok (.aload_n 0, 1) := by decide +kernel
theorem d_Sp_addParameter_5 : decode b_Sp_addParameter 5 = .ok (.getfield 43, 3) := by decide +kernel
theorem d_Sp_addParameter_8 : decode b_Sp_addParameter 8 = .ok (.iload_n 1, 1) := by decide +kernel
theorem d_Sp_addParameter_9 : decode b_Sp_addParameter 9 = .ok (.iastore, 1) := by decide +kernel
theorem d_Sp_addParameter_10 : decode b_Sp_addParameter 10 = .ok (.aload_n 0, 1) := by decide +kernel
theorem d_Sp_addParameter_11 : decode b_Sp_addParameter 11 = .ok (.dup, 1) := by decide +kernel
theorem d_Sp_addParameter_12 : decode b_Sp_addParameter 12 = .ok (.getfield 43, 3) := by decide +kernel
theorem d_Sp_addParameter_15 : decode b_Sp_addParameter 15 = .ok (.iconst 1, 1) := by decide +kernel
theorem d_Sp_addParameter_16 : decode b_Sp_addParameter 16 = .ok (.iadd, 1) := by decide +kernel
theorem d_Sp_addParameter_17 : decode b_Sp_addParameter 17 = .ok (.putfield 43, 3) := by decide +kernel
theorem d_Sp_addParameter_20 : decode b_Sp_addParameter 20 = .ok (.aload_n 0, 1) := by decide +kernel
theorem d_Sp_addParameter_21 : decode b_Sp_addParameter 21 = .ok (.invokevirtual 40, 3) := by decide +kernel
theorem d_Sp_addParameter_24 : decode b_Sp_addParameter 24 = .ok (.return_, 1) := by decide +kernel
theorem d_CR_invalid_0 : decode b_CR_invalid 0 = .ok (.aload_n 0, 1) := by decide +kernel
theorem d_CR_invalid_1 : decode b_CR_invalid 1 = .ok (.getfield 43, 3) := by decide +kernel
theorem d_CR_invalid_4 : decode b_CR_invalid 4 = .ok (.ifCond .ne 27, 3) := by decide +kernel
theorem d_CR_invalid_7 : decode b_CR_invalid 7 = .ok (.aload_n 0, 1) := by decide +kernel
theorem d_CR_invalid_8 : decode b_CR_invalid 8 = .ok (.getfield 12, 3) := by decide +kernel
theorem d_CR_invalid_11 : decode b_CR_invalid 11 = .ok (.iload_n 1, 1) := by decide +kernel
theorem d_CR_invalid_12 : decode b_CR_invalid 12 = .ok (.iload_n 2, 1) := by decide +kernel
theorem d_CR_invalid_13 : decode b_CR_invalid 13 = .ok (.invokevirtual 55, 3) := by decide +kernel
theorem d_CR_invalid_16 : decode b_CR_invalid 16 = .ok (.ifCond .eq 15, 3) := by decide +kernel
theorem d_CR_invalid_19 : decode b_CR_invalid 19 = .ok (.aload_n 0, 1) := by decide +kernel
theorem d_CR_invalid_20 : decode b_CR_invalid 20 = .ok (.getfield 12, 3) := by decide +kernel
theorem d_CR_invalid_23 : decode b_CR_invalid 23 = .ok (.iload_n 1, 1) := by decide +kernel
theorem d_CR_invalid_24 : decode b_CR_invalid 24 = .ok (.iload_n 2, 1) := by decide +kernel
theorem d_CR_invalid_25 : decode b_CR_invalid 25 = .ok (.invokevirtual 59, 3) := by decide +kernel
theorem d_CR_invalid_28 : decode b_CR_invalid 28 = .ok (.ifCond .eq 5, 3) := by decide +kernel
theorem d_CR_invalid_31 : decode b_CR_invalid 31 = .ok (.iconst 0, 1) := by decide +kernel
theorem d_CR_invalid_32 : decode b_CR_invalid 32 = .ok (.ireturn, 1) := by decide +kernel
theorem d_CR_invalid_33 : decode b_CR_invalid 33 = .ok (.aload_n 0, 1) := by decide +kernel
theorem d_CR_invalid_34 : decode b_CR_invalid 34 = .ok (.getfield 12, 3) := by decide +kernel
theorem d_CR_invalid_37 : decode b_CR_invalid 37 = .ok (.iload_n 1, 1) := by decide +kernel
theorem d_CR_invalid_38 : decode b_CR_invalid 38 = .ok (.iload_n 2, 1) := by decide +kernel
theorem d_CR_invalid_39 : decode b_CR_invalid 39 = .ok (.invokevirtual 62, 3) := by decide +kernel
theorem d_CR_invalid_42 : decode b_CR_invalid 42 = .ok (.iconst 1, 1) := by decide +kernel
theorem d_CR_invalid_43 : decode b_CR_invalid 43 = .ok (.ireturn, 1) := by decide +kernel
theorem d_Sp_hasValue_0 : decode b_Sp_hasValue 0 = .ok (.iload_n 1, 1) := by decide +kernel
theorem d_Sp_hasValue_1 : decode b_Sp_hasValue 1 = .ok (.ifCond .lt 29, 3) := by decide +kernel
theorem d_Sp_hasValue_4 : decode b_Sp_hasValue 4 = .ok (.iload_n 1, 1) := by decide +kernel
theorem d_Sp_hasValue_5 : decode b_Sp_hasValue 5 = .ok (.aload_n 0, 1) := by decide +kernel
theorem d_Sp_hasValue_6 : decode b_Sp_hasValue 6 = .ok (.getfield 43, 3) := by decide +kernel
theorem d_Sp_hasValue_9 : decode b_Sp_hasValue 9 = .ok (.if_icmp .ge 21, 3) := by decide +kernel
theorem d_Sp_hasValue_12 : decode b_Sp_hasValue 12 = .ok (.iload_n 2, 1) := by decide +kernel
theorem d_Sp_hasValue_13 : decode b_Sp_hasValue 13 = .ok (.ifCond .lt 17, 3) := by decide +kernel
theorem d_Sp_hasValue_16 : decode b_Sp_hasValue 16 = .ok (.iload_n 2, 1) := by decide +kernel
theorem d_Sp_hasValue_17 : decode b_Sp_hasValue 17 = .ok (.aload_n 0, 1) := by decide +kernel
theorem d_Sp_hasValue_18 : decode b_Sp_hasValue 18 = .ok (.getfield 9, 3) := by decide +kernel
theorem d_Sp_hasValue_21 : decode b_Sp_hasValue 21 = .ok (.iload_n 1, 1) := by decide +kernel
theorem d_Sp_hasValue_22 : decode b_Sp_hasValue 22 = .ok (.iaload, 1) := by decide +kernel
theorem d_Sp_hasValue_23 : decode b_Sp_hasValue 23 = .ok (.if_icmp .ge 7, 3) := by decide +kernel
theorem d_Sp_hasValue_26 : decode b_Sp_hasValue 26 = .ok (.iconst 1, 1) := by decide +kernel
theorem d_Sp_hasValue_27 : decode b_Sp_hasValue 27 = .ok (.goto 4, 3) := by decide +kernel
theorem d_Sp_hasValue_30 : decode b_Sp_hasValue 30 = .ok (.iconst 0, 1) := by decide +kernel
theorem d_Sp_hasValue_31 : decode b_Sp_hasValue 31 = .ok (.ireturn, 1) := by decide +kernel
theorem d_Sp_isInvalid_0 : decode b_Sp_isInvalid 0 = .ok (.aload_n 0, 1) := by decide +kernel
theorem d_Sp_isInvalid_1 : decode b_Sp_isInvalid 1 = .ok (.getfield 15, 3) := by decide +kernel
theorem d_Sp_isInvalid_4 : decode b_Sp_isInvalid 4 = .ok (.iload_n 1, 1) := by decide +kernel
theorem d_Sp_isInvalid_5 : decode b_Sp_isInvalid 5 = .ok (.iaload, 1) := by decide +kernel
theorem d_Sp_isInvalid_6 : decode b_Sp_isInvalid 6 = .ok (.iload_n 2, 1) := by decide +kernel
theorem d_Sp_isInvalid_7 : decode b_Sp_isInvalid 7 = .ok (.ishr, 1) := by decide +kernel
theorem d_Sp_isInvalid_8 : decode b_Sp_isInvalid 8 = .ok (.iconst 1, 1) := by decide +kernel
theorem d_Sp_isInvalid_9 : decode b_Sp_isInvalid 9 = .ok (.iand, 1) := by decide +kernel
theorem d_Sp_isInvalid_10 : decode b_Sp_isInvalid 10 = .ok (.ifCond .eq 7, 3) := by decide +kernel
theorem d_Sp_isInvalid_13 : decode b_Sp_isInvalid 13 = .ok (.iconst 1, 1) := by decide +kernel
theorem d_Sp_isInvalid_14 : decode b_Sp_isInvalid 14 = .ok (.goto 4, 3) := by decide +kernel
theorem d_Sp_isInvalid_17 : decode b_Sp_isInvalid 17 = .ok (.iconst 0, 1) := by decide +kernel
theorem d_Sp_isInvalid_18 : decode b_Sp_isInvalid 18 = .ok (.ireturn, 1) := by decide +kernel
theorem d_Sp_makeInvalid_0 : decode b_Sp_makeInvalid 0 = .ok (.aload_n 0, 1) := by decide +kernel
theorem d_Sp_makeInvalid_1 : decode b_Sp_makeInvalid 1 = .ok (.getfield 15, 3) := by decide +kernel
theorem d_Sp_makeInvalid_4 : decode b_Sp_makeInvalid 4 = .ok (.iload_n 1, 1) := by decide +kernel
theorem d_Sp_makeInvalid_5 : decode b_Sp_makeInvalid 5 = .ok (.dup2, 1) := by decide +kernel
theorem d_Sp_makeInvalid_6 : decode b_Sp_makeInvalid 6 = .ok (.iaload, 1) := by decide +kernel
theorem d_Sp_makeInvalid_7 : decode b_Sp_makeInvalid 7 = .ok (.iconst 1, 1) := by decide +kernel
theorem d_Sp_makeInvalid_8 : decode b_Sp_makeInvalid 8 = .ok (.iload_n 2, 1) := by decide +kernel
theorem d_Sp_makeInvalid_9 : decode b_Sp_makeInvalid 9 = .ok (.ishl, 1) := by decide +kernel
theorem d_Sp_makeInvalid_10 : decode b_Sp_makeInvalid 10 = .ok (.ior, 1) := by decide +kernel
theorem d_Sp_makeInvalid_11 : decode b_Sp_makeInvalid 11 = .ok (.iastore, 1) := by decide +kernel
theorem d_Sp_makeInvalid_12 : decode b_Sp_makeInvalid 12 = .ok (.aload_n 0, 1) := by decide +kernel
theorem d_Sp_makeInvalid_13 : decode b_Sp_makeInvalid 13 = .ok (.invokevirtual 40, 3) := by decide +kernel
theorem d_Sp_makeInvalid_16 : decode b_Sp_makeInvalid 16 = .ok (.return_, 1) := by decide +kernel
theorem d_CR_relation_0 : decode b_CR_relation 0 = .ok (.aload_n 0, 1) := by decide +kernel
theorem d_CR_relation_1 : decode b_CR_relation 1 = .ok (.getfield 43, 3) := by decide +kernel
theorem d_CR_relation_4 : decode b_CR_relation 4 = .ok (.ifCond .eq 5, 3) := by decide +kernel
theorem d_CR_relation_7 : decode b_CR_relation 7 = .ok (.iconst (-1), 1) := by decide +kernel
theorem d_CR_relation_8 : decode b_CR_relation 8 = .ok (.ireturn, 1) := by decide +kernel
theorem d_CR_relation_9 : decode b_CR_relation 9 = .ok (.aload_n 0, 1) := by decide +kernel
theorem d_CR_relation_10 : decode b_CR_relation 10 = .ok (.getfield 12, 3) := by decide +kernel
theorem d_CR_relation_13 : decode b_CR_relation 13 = .ok (.iload_n 1, 1) := by decide +kernel
theorem d_CR_relation_14 : decode b_CR_relation 14 = .ok (.invokevirtual 66, 3) := by decide +kernel
theorem d_CR_relation_17 : decode b_CR_relation 17 = .ok (.ifCond .eq 21, 3) := by decide +kernel
theorem d_CR_relation_20 : decode b_CR_relation 20 = .ok (.iload_n 2, 1) := by decide +kernel
theorem d_CR_relation_21 : decode b_CR_relation 21 = .ok (.iconst 1, 1) := by decide +kernel
theorem d_CR_relation_22 : decode b_CR_relation 22 = .ok (.if_icmp .lt 16, 3) := by decide +kernel
theorem d_CR_relation_25 : decode b_CR_relation 25 = .ok (.iload_n 2, 1) := by decide +kernel
theorem d_CR_relation_26 : decode b_CR_relation 26 = .ok (.iconst 3, 1) := by decide +kernel
theorem d_CR_relation_27 : decode b_CR_relation 27 = .ok (.if_icmp .gt 11, 3) := by decide +kernel
theorem d_CR_relation_30 : decode b_CR_relation 30 = .ok (.iload_n 1, 1) := by decide +kernel
theorem d_CR_relation_31 : decode b_CR_relation 31 = .ok (.invokestatic 70, 3) := by decide +kernel
theorem d_CR_relation_34 : decode b_CR_relation 34 = .ok (.iload_n 2, 1) := by decide +kernel
theorem d_CR_relation_35 : decode b_CR_relation 35 = .ok (.if_icmp .ge 6, 3) := by decide +kernel
theorem d_CR_relation_38 : decode b_CR_relation 38 = .ok (.bipush (-2), 2) := by decide +kernel
theorem d_CR_relation_40 : decode b_CR_relation 40 = .ok (.ireturn, 1) := by decide +kernel
theorem d_CR_relation_41 : decode b_CR_relation 41 = .ok (.aload_n 0, 1) := by decide +kernel
theorem d_CR_relation_42 : decode b_CR_relation 42 = .ok (.getfield 19, 3) := by decide +kernel
theorem d_CR_relation_45 : decode b_CR_relation 45 = .ok (.getfield 76, 3) := by decide +kernel
theorem d_CR_relation_48 : decode b_CR_relation 48 = .ok (.bipush 8, 2) := by decide +kernel
theorem d_CR_relation_50 : decode b_CR_relation 50 = .ok (.if_icmp .ne 6, 3) := by decide +kernel
theorem d_CR_relation_53 : decode b_CR_relation 53 = .ok (.bipush (-3), 2) := by decide +kernel
theorem d_CR_relation_55 : decode b_CR_relation 55 = .ok (.ireturn, 1) := by decide +kernel
theorem d_CR_relation_56 : decode b_CR_relation 56 = .ok (.aload_n 0, 1) := by decide +kernel
theorem d_CR_relation_57 : decode b_CR_relation 57 = .ok (.getfield 19, 3) := by decide +kernel
theorem d_CR_relation_60 : decode b_CR_relation 60 = .ok (.iload_n 1, 1) := by decide +kernel
theorem d_CR_relation_61 : decode b_CR_relation 61 = .ok (.iload_n 2, 1) := by decide +kernel
theorem d_CR_relation_62 : decode b_CR_relation 62 = .ok (.invokevirtual 79, 3) := by decide +kernel
theorem d_CR_relation_65 : decode b_CR_relation 65 = .ok (.aload_n 0, 1) := by decide +kernel
theorem d_CR_relation_66 : decode b_CR_relation 66 = .ok (.getfield 19, 3) := by decide +kernel
theorem d_CR_relation_69 : decode b_CR_relation 69 = .ok (.getfield 76, 3) := by decide +kernel
theorem d_CR_relation_72 : decode b_CR_relation 72 = .ok (.ireturn, 1) := by decide +kernel
theorem d_Sp_isSet_0 : decode b_Sp_isSet 0 = .ok (.iload_n 1, 1) := by decide +kernel
theorem d_Sp_isSet_1 : decode b_Sp_isSet 1 = .ok (.ifCond .le 17, 3) := by decide +kernel
theorem d_Sp_isSet_4 : decode b_Sp_isSet 4 = .ok (.iload_n 1, 1) := by decide +kernel
theorem d_Sp_isSet_5 : decode b_Sp_isSet 5 = .ok (.iconst 1, 1) := by decide +kernel
theorem d_Sp_isSet_6 : decode b_Sp_isSet 6 = .ok (.aload_n 0, 1) := by decide +kernel
theorem d_Sp_isSet_7 : decode b_Sp_isSet 7 = .ok (.getfield 43, 3) := by decide +kernel
theorem d_Sp_isSet_10 : decode b_Sp_isSet 10 = .ok (.ishl, 1) := by decide +kernel
theorem d_Sp_isSet_11 : decode b_Sp_isSet 11 = .ok (.if_icmp .ge 7, 3) := by decide +kernel
theorem d_Sp_isSet_14 : decode b_Sp_isSet 14 = .ok (.iconst 1, 1) := by decide +kernel
theorem d_Sp_isSet_15 : decode b_Sp_isSet 15 = .ok (.goto 4, 3) := by decide +kernel
theorem d_Sp_isSet_18 : decode b_Sp_isSet 18 = .ok (.iconst 0, 1) := by decide +kernel
theorem d_Sp_isSet_19 : decode b_Sp_isSet 19 = .ok (.ireturn, 1) := by decide +kernel
theorem d_JI_bitCount_0 : decode b_JI_bitCount 0 = .ok (.iload_n 0, 1) := by decide +kernel
theorem d_JI_bitCount_1 : decode b_JI_bitCount 1 = .ok (.iload_n 0, 1) := by decide +kernel
theorem d_JI_bitCount_2 : decode b_JI_bitCount 2 = .ok (.iconst 1, 1) := by decide +kernel
theorem d_JI_bitCount_3 : decode b_JI_bitCount 3 = .ok (.iushr, 1) := by decide +kernel
theorem d_JI_bitCount_4 : decode b_JI_bitCount 4 = .ok (.ldc_w 265, 3) := by decide +kernel
theorem d_JI_bitCount_7 : decode b_JI_bitCount 7 = .ok (.iand, 1) := by decide +kernel
theorem d_JI_bitCount_8 : decode b_JI_bitCount 8 = .ok (.isub, 1) := by decide +kernel
theorem d_JI_bitCount_9 : decode b_JI_bitCount 9 = .ok (.istore_n 0, 1) := by decide +kernel
theorem d_JI_bitCount_10 : decode b_JI_bitCount 10 = .ok (.iload_n 0, 1) := by decide +kernel
theorem d_JI_bitCount_11 : decode b_JI_bitCount 11 = .ok (.ldc_w 266, 3) := by decide +kernel
theorem d_JI_bitCount_14 : decode b_JI_bitCount 14 = .ok (.iand, 1) := by decide +kernel
theorem d_JI_bitCount_15 : decode b_JI_bitCount 15 = .ok (.iload_n 0, 1) := by decide +kernel
theorem d_JI_bitCount_16 : decode b_JI_bitCount 16 = .ok (.iconst 2, 1) := by decide +kernel
theorem d_JI_bitCount_17 : decode b_JI_bitCount 17 = .ok (.iushr, 1) := by decide +kernel
theorem d_JI_bitCount_18 : decode b_JI_bitCount 18 = .ok (.ldc_w 266, 3) := by decide +kernel
theorem d_JI_bitCount_21 : decode b_JI_bitCount 21 = .ok (.iand, 1) := by decide +kernel
theorem d_JI_bitCount_22 : decode b_JI_bitCount 22 = .ok (.iadd, 1) := by decide +kernel
theorem d_JI_bitCount_23 : decode b_JI_bitCount 23 = .ok (.istore_n 0, 1) := by decide +kernel
theorem d_JI_bitCount_24 : decode b_JI_bitCount 24 = .ok (.iload_n 0, 1) := by decide +kernel
theorem d_JI_bitCount_25 : decode b_JI_bitCount 25 = .ok (.iload_n 0, 1) := by decide +kernel
theorem d_JI_bitCount_26 : decode b_JI_bitCount 26 = .ok (.iconst 4, 1) := by decide +kernel
theorem d_JI_bitCount_27 : decode b_JI_bitCount 27 = .ok (.iushr, 1) := by decide +kernel
theorem d_JI_bitCount_28 : decode b_JI_bitCount 28 = .ok (.iadd, 1) := by decide +kernel
theorem d_JI_bitCount_29 : decode b_JI_bitCount 29 = .ok (.ldc_w 267, 3) := by decide +kernel
theorem d_JI_bitCount_32 : decode b_JI_bitCount 32 = .ok (.iand, 1) := by decide +kernel
theorem d_JI_bitCount_33 : decode b_JI_bitCount 33 = .ok (.istore_n 0, 1) := by decide +kernel
theorem d_JI_bitCount_34 : decode b_JI_bitCount 34 = .ok (.iload_n 0, 1) := by decide +kernel
theorem d_JI_bitCount_35 : decode b_JI_bitCount 35 = .ok (.iload_n 0, 1) := by decide +kernel
theorem d_JI_bitCount_36 : decode b_JI_bitCount 36 = .ok (.bipush 8, 2) := by decide +kernel
theorem d_JI_bitCount_38 : decode b_JI_bitCount 38 = .ok (.iushr, 1) := by decide +kernel
theorem d_JI_bitCount_39 : decode b_JI_bitCount 39 = .ok (.iadd, 1) := by decide +kernel
theorem d_JI_bitCount_40 : decode b_JI_bitCount 40 = .ok (.istore_n 0, 1) := by decide +kernel
theorem d_JI_bitCount_41 : decode b_JI_bitCount 41 = .ok (.iload_n 0, 1) := by decide +kernel
theorem d_JI_bitCount_42 : decode b_JI_bitCount 42 = .ok (.iload_n 0, 1) := by decide +kernel
theorem d_JI_bitCount_43 : decode b_JI_bitCount 43 = .ok (.bipush 16, 2) := by decide +kernel
theorem d_JI_bitCount_45 : decode b_JI_bitCount 45 = .ok (.iushr, 1) := by decide +kernel
theorem d_JI_bitCount_46 : decode b_JI_bitCount 46 = .ok (.iadd, 1) := by decide +kernel
theorem d_JI_bitCount_47 : decode b_JI_bitCount 47 = .ok (.istore_n 0, 1) := by decide +kernel
theorem d_JI_bitCount_48 : decode b_JI_bitCount 48 = .ok (.iload_n 0, 1) := by decide +kernel
theorem d_JI_bitCount_49 : decode b_JI_bitCount 49 = .ok (.bipush 63, 2) := by decide +kernel
theorem d_JI_bitCount_51 : decode b_JI_bitCount 51 = .ok (.iand, 1) := by decide +kernel
theorem d_JI_bitCount_52 : decode b_JI_bitCount 52 = .ok (.ireturn, 1) := by decide +kernel
theorem d_Re_add_0 : decode b_Re_add 0 = .ok (.iconst 1, 1) := by decide +kernel
theorem d_Re_add_1 : decode b_Re_add 1 = .ok (.istore_n 3, 1) := by decide +kernel
theorem d_Re_add_2 : decode b_Re_add 2 = .ok (.iload_n 3, 1) := by decide +kernel
theorem d_Re_add_3 : decode b_Re_add 3 = .ok (.bipush 64, 2) := by decide +kernel
theorem d_Re_add_5 : decode b_Re_add 5 = .ok (.if_icmp .ge 37, 3) := by decide +kernel
theorem d_Re_add_8 : decode b_Re_add 8 = .ok (.iload_n 3, 1) := by decide +kernel
theorem d_Re_add_9 : decode b_Re_add 9 = .ok (.iload_n 1, 1) := by decide +kernel
theorem d_Re_add_10 : decode b_Re_add 10 = .ok (.iconst (-1), 1) := by decide +kernel
theorem d_Re_add_11 : decode b_Re_add 11 = .ok (.ixor, 1) := by decide +kernel
theorem d_Re_add_12 : decode b_Re_add 12 = .ok (.iand, 1) := by decide +kernel
theorem d_Re_add_13 : decode b_Re_add 13 = .ok (.ifCond .ne 23, 3) := by decide +kernel
theorem d_Re_add_16 : decode b_Re_add 16 = .ok (.iload_n 3, 1) := by decide +kernel
theorem d_Re_add_17 : decode b_Re_add 17 = .ok (.invokestatic 9, 3) := by decide +kernel
theorem d_Re_add_20 : decode b_Re_add 20 = .ok (.iload_n 2, 1) := by decide +kernel
theorem d_Re_add_21 : decode b_Re_add 21 = .ok (.if_icmp .ne 15, 3) := by decide +kernel
theorem d_Re_add_24 : decode b_Re_add 24 = .ok (.aload_n 0, 1) := by decide +kernel
theorem d_Re_add_25 : decode b_Re_add 25 = .ok (.dup, 1) := by decide +kernel
theorem d_Re_add_26 : decode b_Re_add 26 = .ok (.getfield 15, 3) := by decide +kernel
theorem d_Re_add_29 : decode b_Re_add 29 = .ok (.lconst 1, 1) := by decide +kernel
theorem d_Re_add_30 : decode b_Re_add 30 = .ok (.iload_n 3, 1) := by decide +kernel
theorem d_Re_add_31 : decode b_Re_add 31 = .ok (.lshl, 1) := by decide +kernel
theorem d_Re_add_32 : decode b_Re_add 32 = .ok (.lor, 1) := by decide +kernel
theorem d_Re_add_33 : decode b_Re_add 33 = .ok (.putfield 15, 3) := by decide +kernel
theorem d_Re_add_36 : decode b_Re_add 36 = .ok (.iinc 3 1, 3) := by decide +kernel
theorem d_Re_add_39 : decode b_Re_add 39 = .ok (.goto (-37), 3) := by decide +kernel
theorem d_Re_add_42 : decode b_Re_add 42 = .ok (.aload_n 0, 1) := by decide +kernel
theorem d_Re_add_43 : decode b_Re_add 43 = .ok (.dup, 1) := by decide +kernel
theorem d_Re_add_44 : decode b_Re_add 44 = .ok (.getfield 21, 3) := by decide +kernel
theorem d_Re_add_47 : decode b_Re_add 47 = .ok (.iconst 1, 1) := by decide +kernel
theorem d_Re_add_48 : decode b_Re_add 48 = .ok (.iadd, 1) := by decide +kernel
theorem d_Re_add_49 : decode b_Re_add 49 = .ok (.putfield 21, 3) := by decide +kernel
theorem d_Re_add_52 : decode b_Re_add 52 = .ok (.return_, 1) := by decide +kernel
theorem d_CR_is_0 : decode b_CR_is 0 = .ok (.aload_n 0, 1) := by decide +kernel
theorem d_CR_is_1 : decode b_CR_is 1 = .ok (.getfield 43, 3) := by decide +kernel
theorem d_CR_is_4 : decode b_CR_is 4 = .ok (.ifCond .ne 31, 3) := by decide +kernel
theorem d_CR_is_7 : decode b_CR_is 7 = .ok (.aload_n 0, 1) := by decide +kernel
theorem d_CR_is_8 : decode b_CR_is 8 = .ok (.getfield 12, 3) := by decide +kernel
theorem d_CR_is_11 : decode b_CR_is 11 = .ok (.iload_n 1, 1) := by decide +kernel
theorem d_CR_is_12 : decode b_CR_is 12 = .ok (.iload_n 2, 1) := by decide +kernel
theorem d_CR_is_13 : decode b_CR_is 13 = .ok (.invokevirtual 55, 3) := by decide +kernel
theorem d_CR_is_16 : decode b_CR_is 16 = .ok (.ifCond .eq 19, 3) := by decide +kernel
theorem d_CR_is_19 : decode b_CR_is 19 = .ok (.aload_n 0, 1) := by decide +kernel
theorem d_CR_is_20 : decode b_CR_is 20 = .ok (.getfield 26, 3) := by decide +kernel
theorem d_CR_is_23 : decode b_CR_is 23 = .ok (.iload_n 1, 1) := by decide +kernel
theorem d_CR_is_24 : decode b_CR_is 24 = .ok (.iload_n 2, 1) := by decide +kernel
theorem d_CR_is_25 : decode b_CR_is 25 = .ok (.invokevirtual 82, 3) := by decide +kernel
theorem d_CR_is_28 : decode b_CR_is 28 = .ok (.ifCond .eq 7, 3) := by decide +kernel
theorem d_CR_is_31 : decode b_CR_is 31 = .ok (.iconst 1, 1) := by decide +kernel
theorem d_CR_is_32 : decode b_CR_is 32 = .ok (.goto 4, 3) := by decide +kernel
theorem d_CR_is_35 : decode b_CR_is 35 = .ok (.iconst 0, 1) := by decide +kernel
theorem d_CR_is_36 : decode b_CR_is 36 = .ok (.ireturn, 1) := by decide +kernel
theorem d_Te_push_0 : decode b_Te_push 0 = .ok (.aload_n 0, 1) := by decide +kernel
theorem d_Te_push_1 : decode b_Te_push 1 = .ok (.getfield 22, 3) := by decide +kernel
theorem d_Te_push_4 : decode b_Te_push 4 = .ok (.bipush 8, 2) := by decide +kernel
theorem d_Te_push_6 : decode b_Te_push 6 = .ok (.if_icmp .ne 5, 3) := by decide +kernel
theorem d_Te_push_9 : decode b_Te_push 9 = .ok (.iconst 0, 1) := by decide +kernel
theorem d_Te_push_10 : decode b_Te_push 10 = .ok (.ireturn, 1) := by decide +kernel
theorem d_Te_push_11 : decode b_Te_push 11 = .ok (.aload_n 0, 1) := by decide +kernel
theorem d_Te_push_12 : decode b_Te_push 12 = .ok (.getfield 11, 3) := by decide +kernel
theorem d_Te_push_15 : decode b_Te_push 15 = .ok (.aload_n 0, 1) := by decide +kernel
theorem d_Te_push_16 : decode b_Te_push 16 = .ok (.getfield 22, 3) := by decide +kernel
theorem d_Te_push_19 : decode b_Te_push 19 = .ok (.aaload, 1) := by decide +kernel
theorem d_Te_push_20 : decode b_Te_push 20 = .ok (.iload_n 1, 1) := by decide +kernel
theorem d_Te_push_21 : decode b_Te_push 21 = .ok (.iload_n 2, 1) := by decide +kernel
theorem d_Te_push_22 : decode b_Te_push 22 = .ok (.invokevirtual 26, 3) := by decide +kernel
theorem d_Te_push_25 : decode b_Te_push 25 = .ok (.aload_n 0, 1) := by decide +kernel
theorem d_Te_push_26 : decode b_Te_push 26 = .ok (.getfield 17, 3) := by decide +kernel
theorem d_Te_push_29 : decode b_Te_push 29 = .ok (.aload_n 0, 1) := by decide +kernel
theorem d_Te_push_30 : decode b_Te_push 30 = .ok (.getfield 22, 3) := by decide +kernel
theorem d_Te_push_33 : decode b_Te_push 33 = .ok (.iconst 1, 1) := by decide +kernel
theorem d_Te_push_34 : decode b_Te_push 34 = .ok (.iastore, 1) := by decide +kernel
theorem d_Te_push_35 : decode b_Te_push 35 = .ok (.aload_n 0, 1) := by decide +kernel
theorem d_Te_push_36 : decode b_Te_push 36 = .ok (.dup, 1) := by decide +kernel
theorem d_Te_push_37 : decode b_Te_push 37 = .ok (.getfield 22, 3) := by decide +kernel
theorem d_Te_push_40 : decode b_Te_push 40 = .ok (.iconst 1, 1) := by decide +kernel
theorem d_Te_push_41 : decode b_Te_push 41 = .ok (.iadd, 1) := by decide +kernel
theorem d_Te_push_42 : decode b_Te_push 42 = .ok (.putfield 22, 3) := by decide +kernel
theorem d_Te_push_45 : decode b_Te_push 45 = .ok (.iconst 1, 1) := by decide +kernel
theorem d_Te_push_46 : decode b_Te_push 46 = .ok (.ireturn, 1) := by decide +kernel
theorem d_NS_becomeIs_0 : decode b_NS_becomeIs 0 = .ok (.iconst 0, 1) := by decide +kernel
theorem d_NS_becomeIs_1 : decode b_NS_becomeIs 1 = .ok (.istore_n 3, 1) := by decide +kernel
theorem d_NS_becomeIs_2 : decode b_NS_becomeIs 2 = .ok (.iload_n 3, 1) := by decide +kernel
theorem d_NS_becomeIs_3 : decode b_NS_becomeIs 3 = .ok (.bipush 64, 2) := by decide +kernel
theorem d_NS_becomeIs_5 : decode b_NS_becomeIs 5 = .ok (.if_icmp .ge 21, 3) := by decide +kernel
theorem d_NS_becomeIs_8 : decode b_NS_becomeIs 8 = .ok (.aload_n 0, 1) := by decide +kernel
theorem d_NS_becomeIs_9 : decode b_NS_becomeIs 9 = .ok (.getfield 9, 3) := by decide +kernel
theorem d_NS_becomeIs_12 : decode b_NS_becomeIs 12 = .ok (.iload_n 3, 1) := by decide +kernel
theorem d_NS_becomeIs_13 : decode b_NS_becomeIs 13 = .ok (.iload_n 1, 1) := by decide +kernel
theorem d_NS_becomeIs_14 : decode b_NS_becomeIs 14 = .ok (.iload_n 2, 1) := by decide +kernel
theorem d_NS_becomeIs_15 : decode b_NS_becomeIs 15 = .ok (.iload_n 3, 1) := by decide +kernel
theorem d_NS_becomeIs_16 : decode b_NS_becomeIs 16 = .ok (.invokestatic 41, 3) := by decide +kernel
theorem d_NS_becomeIs_19 : decode b_NS_becomeIs 19 = .ok (.lastore, 1) := by decide +kernel
theorem d_NS_becomeIs_20 : decode b_NS_becomeIs 20 = .ok (.iinc 3 1, 3) := by decide +kernel
theorem d_NS_becomeIs_23 : decode b_NS_becomeIs 23 = .ok (.goto (-21), 3) := by decide +kernel
theorem d_NS_becomeIs_26 : decode b_NS_becomeIs 26 = .ok (.return_, 1) := by decide +kernel
theorem d_CR_not_0 : decode b_CR_not 0 = .ok (.aload_n 0, 1) := by decide +kernel
theorem d_CR_not_1 : decode b_CR_not 1 = .ok (.getfield 43, 3) := by decide +kernel
theorem d_CR_not_4 : decode b_CR_not 4 = .ok (.ifCond .ne 17, 3) := by decide +kernel
theorem d_CR_not_7 : decode b_CR_not 7 = .ok (.aload_n 0, 1) := by decide +kernel
theorem d_CR_not_8 : decode b_CR_not 8 = .ok (.getfield 26, 3) := by decide +kernel
theorem d_CR_not_11 : decode b_CR_not 11 = .ok (.invokevirtual 85, 3) := by decide +kernel
theorem d_CR_not_14 : decode b_CR_not 14 = .ok (.ifCond .eq 7, 3) := by decide +kernel
theorem d_CR_not_17 : decode b_CR_not 17 = .ok (.iconst 1, 1) := by decide +kernel
theorem d_CR_not_18 : decode b_CR_not 18 = .ok (.goto 4, 3) := by decide +kernel
theorem d_CR_not_21 : decode b_CR_not 21 = .ok (.iconst 0, 1) := by decide +kernel
theorem d_CR_not_22 : decode b_CR_not 22 = .ok (.ireturn, 1) := by decide +kernel
theorem d_Te_negate_0 : decode b_Te_negate 0 = .ok (.aload_n 0, 1) := by decide +kernel
theorem d_Te_negate_1 : decode b_Te_negate 1 = .ok (.getfield 22, 3) := by decide +kernel
theorem d_Te_negate_4 : decode b_Te_negate 4 = .ok (.ifCond .eq 19, 3) := by decide +kernel
theorem d_Te_negate_7 : decode b_Te_negate 7 = .ok (.aload_n 0, 1) := by decide +kernel
theorem d_Te_negate_8 : decode b_Te_negate 8 = .ok (.getfield 17, 3) := by decide +kernel
theorem d_Te_negate_11 : decode b_Te_negate 11 = .ok (.aload_n 0, 1) := by decide +kernel
theorem d_Te_negate_12 : decode b_Te_negate 12 = .ok (.getfield 22, 3) := by decide +kernel
theorem d_Te_negate_15 : decode b_Te_negate 15 = .ok (.iconst 1, 1) := by decide +kernel
theorem d_Te_negate_16 : decode b_Te_negate 16 = .ok (.isub, 1) := by decide +kernel
theorem d_Te_negate_17 : decode b_Te_negate 17 = .ok (.iaload, 1) := by decide +kernel
theorem d_Te_negate_18 : decode b_Te_negate 18 = .ok (.bipush 8, 2) := by decide +kernel
theorem d_Te_negate_20 : decode b_Te_negate 20 = .ok (.if_icmp .ne 5, 3) := by decide +kernel
theorem d_Te_negate_23 : decode b_Te_negate 23 = .ok (.iconst 0, 1) := by decide +kernel
theorem d_Te_negate_24 : decode b_Te_negate 24 = .ok (.ireturn, 1) := by decide +kernel
theorem d_Te_negate_25 : decode b_Te_negate 25 = .ok (.aload_n 0, 1) := by decide +kernel
theorem d_Te_negate_26 : decode b_Te_negate 26 = .ok (.getfield 11, 3) := by decide +kernel
theorem d_Te_negate_29 : decode b_Te_negate 29 = .ok (.aload_n 0, 1) := by decide +kernel
theorem d_Te_negate_30 : decode b_Te_negate 30 = .ok (.getfield 22, 3) := by decide +kernel
theorem d_Te_negate_33 : decode b_Te_negate 33 = .ok (.iconst 1, 1) := by decide +kernel
theorem d_Te_negate_34 : decode b_Te_negate 34 = .ok (.isub, 1) := by decide +kernel
theorem d_Te_negate_35 : decode b_Te_negate 35 = .ok (.aaload, 1) := by decide +kernel
theorem d_Te_negate_36 : decode b_Te_negate 36 = .ok (.invokevirtual 30, 3) := by decide +kernel
theorem d_Te_negate_39 : decode b_Te_negate 39 = .ok (.aload_n 0, 1) := by decide +kernel
theorem d_Te_negate_40 : decode b_Te_negate 40 = .ok (.getfield 17, 3) := by decide +kernel
theorem d_Te_negate_43 : decode b_Te_negate 43 = .ok (.aload_n 0, 1) := by decide +kernel
theorem d_Te_negate_44 : decode b_Te_negate 44 = .ok (.getfield 22, 3) := by decide +kernel
theorem d_Te_negate_47 : decode b_Te_negate 47 = .ok (.iconst 1, 1) := by decide +kernel
theorem d_Te_negate_48 : decode b_Te_negate 48 = .ok (.isub, 1) := by decide +kernel
theorem d_Te_negate_49 : decode b_Te_negate 49 = .ok (.dup2, 1) := by decide +kernel
theorem d_Te_negate_50 : decode b_Te_negate 50 = .ok (.iaload, 1) := by decide +kernel
theorem d_Te_negate_51 : decode b_Te_negate 51 = .ok (.iconst 1, 1) := by decide +kernel
theorem d_Te_negate_52 : decode b_Te_negate 52 = .ok (.iadd, 1) := by decide +kernel
theorem d_Te_negate_53 : decode b_Te_negate 53 = .ok (.iastore, 1) := by decide +kernel
theorem d_Te_negate_54 : decode b_Te_negate 54 = .ok (.iconst 1, 1) := by decide +kernel
theorem d_Te_negate_55 : decode b_Te_negate 55 = .ok (.ireturn, 1) := by decide +kernel
theorem d_NS_becomeNot_0 : decode b_NS_becomeNot 0 = .ok (.iconst 0, 1) := by decide +kernel
theorem d_NS_becomeNot_1 : decode b_NS_becomeNot 1 = .ok (.istore_n 1, 1) := by decide +kernel
theorem d_NS_becomeNot_2 : decode b_NS_becomeNot 2 = .ok (.iload_n 1, 1) := by decide +kernel
theorem d_NS_becomeNot_3 : decode b_NS_becomeNot 3 = .ok (.bipush 64, 2) := by decide +kernel
theorem d_NS_becomeNot_5 : decode b_NS_becomeNot 5 = .ok (.if_icmp .ge 25, 3) := by decide +kernel
theorem d_NS_becomeNot_8 : decode b_NS_becomeNot 8 = .ok (.aload_n 0, 1) := by decide +kernel
theorem d_NS_becomeNot_9 : decode b_NS_becomeNot 9 = .ok (.getfield 9, 3) := by decide +kernel
theorem d_NS_becomeNot_12 : decode b_NS_becomeNot 12 = .ok (.iload_n 1, 1) := by decide +kernel
theorem d_NS_becomeNot_13 : decode b_NS_becomeNot 13 = .ok (.aload_n 0, 1) := by decide +kernel
theorem d_NS_becomeNot_14 : decode b_NS_becomeNot 14 = .ok (.getfield 9, 3) := by decide +kernel
theorem d_NS_becomeNot_17 : decode b_NS_becomeNot 17 = .ok (.iload_n 1, 1) := by decide +kernel
theorem d_NS_becomeNot_18 : decode b_NS_becomeNot 18 = .ok (.laload, 1) := by decide +kernel
theorem d_NS_becomeNot_19 : decode b_NS_becomeNot 19 = .ok (.ldc2_w 33, 3) := by decide +kernel
theorem d_NS_becomeNot_22 : decode b_NS_becomeNot 22 = .ok (.lxor, 1) := by decide +kernel
theorem d_NS_becomeNot_23 : decode b_NS_becomeNot 23 = .ok (.lastore, 1) := by decide +kernel
theorem d_NS_becomeNot_24 : decode b_NS_becomeNot 24 = .ok (.iinc 1 1, 3) := by decide +kernel
theorem d_NS_becomeNot_27 : decode b_NS_becomeNot 27 = .ok (.goto (-25), 3) := by decide +kernel
theorem d_NS_becomeNot_30 : decode b_NS_becomeNot 30 = .ok (.return_, 1) := by decide +kernel
theorem d_CR_join_0 : decode b_CR_join 0 = .ok (.aload_n 0, 1) := by decide +kernel
theorem d_CR_join_1 : decode b_CR_join 1 = .ok (.getfield 43, 3) := by decide +kernel
theorem d_CR_join_4 : decode b_CR_join 4 = .ok (.ifCond .ne 27, 3) := by decide +kernel
theorem d_CR_join_7 : decode b_CR_join 7 = .ok (.iload_n 1, 1) := by decide +kernel
theorem d_CR_join_8 : decode b_CR_join 8 = .ok (.ifCond .lt 23, 3) := by decide +kernel
theorem d_CR_join_11 : decode b_CR_join 11 = .ok (.iload_n 1, 1) := by decide +kernel
theorem d_CR_join_12 : decode b_CR_join 12 = .ok (.iconst 2, 1) := by decide +kernel
theorem d_CR_join_13 : decode b_CR_join 13 = .ok (.if_icmp .gt 18, 3) := by decide +kernel
theorem d_CR_join_16 : decode b_CR_join 16 = .ok (.aload_n 0, 1) := by decide +kernel
theorem d_CR_join_17 : decode b_CR_join 17 = .ok (.getfield 26, 3) := by decide +kernel
theorem d_CR_join_20 : decode b_CR_join 20 = .ok (.iload_n 1, 1) := by decide +kernel
theorem d_CR_join_21 : decode b_CR_join 21 = .ok (.invokevirtual 89, 3) := by decide +kernel
theorem d_CR_join_24 : decode b_CR_join 24 = .ok (.ifCond .eq 7, 3) := by decide +kernel
theorem d_CR_join_27 : decode b_CR_join 27 = .ok (.iconst 1, 1) := by decide +kernel
theorem d_CR_join_28 : decode b_CR_join 28 = .ok (.goto 4, 3) := by decide +kernel
theorem d_CR_join_31 : decode b_CR_join 31 = .ok (.iconst 0, 1) := by decide +kernel
theorem d_CR_join_32 : decode b_CR_join 32 = .ok (.ireturn, 1) := by decide +kernel
theorem d_Te_combine_0 : decode b_Te_combine 0 = .ok (.aload_n 0, 1) := by decide +kernel
theorem d_Te_combine_1 : decode b_Te_combine 1 = .ok (.getfield 22, 3) := by decide +kernel
theorem d_Te_combine_4 : decode b_Te_combine 4 = .ok (.iconst 2, 1) := by decide +kernel
theorem d_Te_combine_5 : decode b_Te_combine 5 = .ok (.if_icmp .ge 5, 3) := by decide +kernel
theorem d_Te_combine_8 : decode b_Te_combine 8 = .ok (.iconst 0, 1) := by decide +kernel
theorem d_Te_combine_9 : decode b_Te_combine 9 = .ok (.ireturn, 1) := by decide +kernel
theorem d_Te_combine_10 : decode b_Te_combine 10 = .ok (.aload_n 0, 1) := by decide +kernel
theorem d_Te_combine_11 : decode b_Te_combine 11 = .ok (.getfield 17, 3) := by decide +kernel
theorem d_Te_combine_14 : decode b_Te_combine 14 = .ok (.aload_n 0, 1) := by decide +kernel
theorem d_Te_combine_15 : decode b_Te_combine 15 = .ok (.getfield 22, 3) := by decide +kernel
theorem d_Te_combine_18 : decode b_Te_combine 18 = .ok (.iconst 2, 1) := by decide +kernel
theorem d_Te_combine_19 : decode b_Te_combine 19 = .ok (.isub, 1) := by decide +kernel
theorem d_Te_combine_20 : decode b_Te_combine 20 = .ok (.iaload, 1) := by decide +kernel
theorem d_Te_combine_21 : decode b_Te_combine 21 = .ok (.aload_n 0, 1) := by decide +kernel
theorem d_Te_combine_22 : decode b_Te_combine 22 = .ok (.getfield 17, 3) := by decide +kernel
theorem d_Te_combine_25 : decode b_Te_combine 25 = .ok (.aload_n 0, 1) := by decide +kernel
theorem d_Te_combine_26 : decode b_Te_combine 26 = .ok (.getfield 22, 3) := by decide +kernel
theorem d_Te_combine_29 : decode b_Te_combine 29 = .ok (.iconst 1, 1) := by decide +kernel
theorem d_Te_combine_30 : decode b_Te_combine 30 = .ok (.isub, 1) := by decide +kernel
theorem d_Te_combine_31 : decode b_Te_combine 31 = .ok (.iaload, 1) := by decide +kernel
theorem d_Te_combine_32 : decode b_Te_combine 32 = .ok (.invokestatic 33, 3) := by decide +kernel
theorem d_Te_combine_35 : decode b_Te_combine 35 = .ok (.istore_n 2, 1) := by decide +kernel
theorem d_Te_combine_36 : decode b_Te_combine 36 = .ok (.iload_n 2, 1) := by decide +kernel
theorem d_Te_combine_37 : decode b_Te_combine 37 = .ok (.bipush 8, 2) := by decide +kernel
theorem d_Te_combine_39 : decode b_Te_combine 39 = .ok (.if_icmp .ne 5, 3) := by decide +kernel
theorem d_Te_combine_42 : decode b_Te_combine 42 = .ok (.iconst 0, 1) := by decide +kernel
theorem d_Te_combine_43 : decode b_Te_combine 43 = .ok (.ireturn, 1) := by decide +kernel
theorem d_Te_combine_44 : decode b_Te_combine 44 = .ok (.iload_n 1, 1) := by decide +kernel
theorem d_Te_combine_45 : decode b_Te_combine 45 = .ok (.aload_n 0, 1) := by decide +kernel
theorem d_Te_combine_46 : decode b_Te_combine 46 = .ok (.getfield 11, 3) := by decide +kernel
theorem d_Te_combine_49 : decode b_Te_combine 49 = .ok (.aload_n 0, 1) := by decide +kernel
theorem d_Te_combine_50 : decode b_Te_combine 50 = .ok (.getfield 22, 3) := by decide +kernel
theorem d_Te_combine_53 : decode b_Te_combine 53 = .ok (.iconst 2, 1) := by decide +kernel
theorem d_Te_combine_54 : decode b_Te_combine 54 = .ok (.isub, 1) := by decide +kernel
end
section
theorem d_Te_combine_55 : decode b_Te_combine 55 = .ok (.aaload, 1) := by decide +kernel
theorem d_Te_combine_56 : decode b_Te_combine 56 = .ok (.aload_n 0, 1) := by decide +kernel
theorem d_Te_combine_57 : decode b_Te_combine 57 = .ok (.getfield 11, 3) := by decide +kernel
theorem d_Te_combine_60 : decode b_Te_combine 60 = .ok (.aload_n 0, 1) := by decide +kernel
theorem d_Te_combine_61 : decode b_Te_combine 61 = .ok (.getfield 22, 3) := by decide +kernel
theorem d_Te_combine_64 : decode b_Te_combine 64 = .ok (.iconst 1, 1) := by decide +kernel
theorem d_Te_combine_65 : decode b_Te_combine 65 = .ok (.isub, 1) := by decide +kernel
theorem d_Te_combine_66 : decode b_Te_combine 66 = .ok (.aaload, 1) := by decide +kernel
theorem d_Te_combine_67 : decode b_Te_combine 67 = .ok (.invokestatic 39, 3) := by decide +kernel
theorem d_Te_combine_70 : decode b_Te_combine 70 = .ok (.aload_n 0, 1) := by decide +kernel
theorem d_Te_combine_71 : decode b_Te_combine 71 = .ok (.getfield 17, 3) := by decide +kernel
theorem d_Te_combine_74 : decode b_Te_combine 74 = .ok (.aload_n 0, 1) := by decide +kernel
theorem d_Te_combine_75 : decode b_Te_combine 75 = .ok (.getfield 22, 3) := by decide +kernel
theorem d_Te_combine_78 : decode b_Te_combine 78 = .ok (.iconst 2, 1) := by decide +kernel
theorem d_Te_combine_79 : decode b_Te_combine 79 = .ok (.isub, 1) := by decide +kernel
theorem d_Te_combine_80 : decode b_Te_combine 80 = .ok (.iload_n 2, 1) := by decide +kernel
theorem d_Te_combine_81 : decode b_Te_combine 81 = .ok (.iconst 1, 1) := by decide +kernel
theorem d_Te_combine_82 : decode b_Te_combine 82 = .ok (.iadd, 1) := by decide +kernel
theorem d_Te_combine_83 : decode b_Te_combine 83 = .ok (.iastore, 1) := by decide +kernel
theorem d_Te_combine_84 : decode b_Te_combine 84 = .ok (.aload_n 0, 1) := by decide +kernel
theorem d_Te_combine_85 : decode b_Te_combine 85 = .ok (.dup, 1) := by decide +kernel
theorem d_Te_combine_86 : decode b_Te_combine 86 = .ok (.getfield 22, 3) := by decide +kernel
theorem d_Te_combine_89 : decode b_Te_combine 89 = .ok (.iconst 1, 1) := by decide +kernel
theorem d_Te_combine_90 : decode b_Te_combine 90 = .ok (.isub, 1) := by decide +kernel
theorem d_Te_combine_91 : decode b_Te_combine 91 = .ok (.putfield 22, 3) := by decide +kernel
theorem d_Te_combine_94 : decode b_Te_combine 94 = .ok (.iconst 1, 1) := by decide +kernel
theorem d_Te_combine_95 : decode b_Te_combine 95 = .ok (.ireturn, 1) := by decide +kernel
theorem d_JM_max_0 : decode b_JM_max 0 = .ok (.iload_n 0, 1) := by decide +kernel
theorem d_JM_max_1 : decode b_JM_max 1 = .ok (.iload_n 1, 1) := by decide +kernel
theorem d_JM_max_2 : decode b_JM_max 2 = .ok (.if_icmp .lt 7, 3) := by decide +kernel
theorem d_JM_max_5 : decode b_JM_max 5 = .ok (.iload_n 0, 1) := by decide +kernel
theorem d_JM_max_6 : decode b_JM_max 6 = .ok (.goto 4, 3) := by decide +kernel
theorem d_JM_max_9 : decode b_JM_max 9 = .ok (.iload_n 1, 1) := by decide +kernel
theorem d_JM_max_10 : decode b_JM_max 10 = .ok (.ireturn, 1) := by decide +kernel
theorem d_Te_combineSets_0 : decode b_Te_combineSets 0 = .ok (.iload_n 0, 1) := by decide +kernel
theorem d_Te_combineSets_1 : decode b_Te_combineSets 1 = .ok (.ifCond .ne 11, 3) := by decide +kernel
theorem d_Te_combineSets_4 : decode b_Te_combineSets 4 = .ok (.aload_n 1, 1) := by decide +kernel
theorem d_Te_combineSets_5 : decode b_Te_combineSets 5 = .ok (.aload_n 2, 1) := by decide +kernel
theorem d_Te_combineSets_6 : decode b_Te_combineSets 6 = .ok (.invokevirtual 43, 3) := by decide +kernel
theorem d_Te_combineSets_9 : decode b_Te_combineSets 9 = .ok (.goto 25, 3) := by decide +kernel
theorem d_Te_combineSets_12 : decode b_Te_combineSets 12 = .ok (.iload_n 0, 1) := by decide +kernel
theorem d_Te_combineSets_13 : decode b_Te_combineSets 13 = .ok (.iconst 1, 1) := by decide +kernel
theorem d_Te_combineSets_14 : decode b_Te_combineSets 14 = .ok (.if_icmp .ne 11, 3) := by decide +kernel
theorem d_Te_combineSets_17 : decode b_Te_combineSets 17 = .ok (.aload_n 1, 1) := by decide +kernel
theorem d_Te_combineSets_18 : decode b_Te_combineSets 18 = .ok (.aload_n 2, 1) := by decide +kernel
theorem d_Te_combineSets_19 : decode b_Te_combineSets 19 = .ok (.invokevirtual 47, 3) := by decide +kernel
theorem d_Te_combineSets_22 : decode b_Te_combineSets 22 = .ok (.goto 12, 3) := by decide +kernel
theorem d_Te_combineSets_25 : decode b_Te_combineSets 25 = .ok (.aload_n 1, 1) := by decide +kernel
theorem d_Te_combineSets_26 : decode b_Te_combineSets 26 = .ok (.invokevirtual 30, 3) := by decide +kernel
theorem d_Te_combineSets_29 : decode b_Te_combineSets 29 = .ok (.aload_n 1, 1) := by decide +kernel
theorem d_Te_combineSets_30 : decode b_Te_combineSets 30 = .ok (.aload_n 2, 1) := by decide +kernel
theorem d_Te_combineSets_31 : decode b_Te_combineSets 31 = .ok (.invokevirtual 47, 3) := by decide +kernel
theorem d_Te_combineSets_34 : decode b_Te_combineSets 34 = .ok (.return_, 1) := by decide +kernel
theorem d_NS_becomeAnd_0 : decode b_NS_becomeAnd 0 = .ok (.iconst 0, 1) := by decide +kernel
theorem d_NS_becomeAnd_1 : decode b_NS_becomeAnd 1 = .ok (.istore_n 2, 1) := by decide +kernel
theorem d_NS_becomeAnd_2 : decode b_NS_becomeAnd 2 = .ok (.iload_n 2, 1) := by decide +kernel
theorem d_NS_becomeAnd_3 : decode b_NS_becomeAnd 3 = .ok (.bipush 64, 2) := by decide +kernel
theorem d_NS_becomeAnd_5 : decode b_NS_becomeAnd 5 = .ok (.if_icmp .ge 24, 3) := by decide +kernel
theorem d_NS_becomeAnd_8 : decode b_NS_becomeAnd 8 = .ok (.aload_n 0, 1) := by decide +kernel
theorem d_NS_becomeAnd_9 : decode b_NS_becomeAnd 9 = .ok (.getfield 9, 3) := by decide +kernel
theorem d_NS_becomeAnd_12 : decode b_NS_becomeAnd 12 = .ok (.iload_n 2, 1) := by decide +kernel
theorem d_NS_becomeAnd_13 : decode b_NS_becomeAnd 13 = .ok (.dup2, 1) := by decide +kernel
theorem d_NS_becomeAnd_14 : decode b_NS_becomeAnd 14 = .ok (.laload, 1) := by decide +kernel
theorem d_NS_becomeAnd_15 : decode b_NS_becomeAnd 15 = .ok (.aload_n 1, 1) := by decide +kernel
theorem d_NS_becomeAnd_16 : decode b_NS_becomeAnd 16 = .ok (.getfield 9, 3) := by decide +kernel
theorem d_NS_becomeAnd_19 : decode b_NS_becomeAnd 19 = .ok (.iload_n 2, 1) := by decide +kernel
theorem d_NS_becomeAnd_20 : decode b_NS_becomeAnd 20 = .ok (.laload, 1) := by decide +kernel
theorem d_NS_becomeAnd_21 : decode b_NS_becomeAnd 21 = .ok (.land, 1) := by decide +kernel
theorem d_NS_becomeAnd_22 : decode b_NS_becomeAnd 22 = .ok (.lastore, 1) := by decide +kernel
theorem d_NS_becomeAnd_23 : decode b_NS_becomeAnd 23 = .ok (.iinc 2 1, 3) := by decide +kernel
theorem d_NS_becomeAnd_26 : decode b_NS_becomeAnd 26 = .ok (.goto (-24), 3) := by decide +kernel
theorem d_NS_becomeAnd_29 : decode b_NS_becomeAnd 29 = .ok (.return_, 1) := by decide +kernel
theorem d_NS_becomeOr_0 : decode b_NS_becomeOr 0 = .ok (.iconst 0, 1) := by decide +kernel
theorem d_NS_becomeOr_1 : decode b_NS_becomeOr 1 = .ok (.istore_n 2, 1) := by decide +kernel
theorem d_NS_becomeOr_2 : decode b_NS_becomeOr 2 = .ok (.iload_n 2, 1) := by decide +kernel
theorem d_NS_becomeOr_3 : decode b_NS_becomeOr 3 = .ok (.bipush 64, 2) := by decide +kernel
theorem d_NS_becomeOr_5 : decode b_NS_becomeOr 5 = .ok (.if_icmp .ge 24, 3) := by decide +kernel
theorem d_NS_becomeOr_8 : decode b_NS_becomeOr 8 = .ok (.aload_n 0, 1) := by decide +kernel
theorem d_NS_becomeOr_9 : decode b_NS_becomeOr 9 = .ok (.getfield 9, 3) := by decide +kernel
theorem d_NS_becomeOr_12 : decode b_NS_becomeOr 12 = .ok (.iload_n 2, 1) := by decide +kernel
theorem d_NS_becomeOr_13 : decode b_NS_becomeOr 13 = .ok (.dup2, 1) := by decide +kernel
theorem d_NS_becomeOr_14 : decode b_NS_becomeOr 14 = .ok (.laload, 1) := by decide +kernel
theorem d_NS_becomeOr_15 : decode b_NS_becomeOr 15 = .ok (.aload_n 1, 1) := by decide +kernel
theorem d_NS_becomeOr_16 : decode b_NS_becomeOr 16 = .ok (.getfield 9, 3) := by decide +kernel
theorem d_NS_becomeOr_19 : decode b_NS_becomeOr 19 = .ok (.iload_n 2, 1) := by decide +kernel
theorem d_NS_becomeOr_20 : decode b_NS_becomeOr 20 = .ok (.laload, 1) := by decide +kernel
theorem d_NS_becomeOr_21 : decode b_NS_becomeOr 21 = .ok (.lor, 1) := by decide +kernel
theorem d_NS_becomeOr_22 : decode b_NS_becomeOr 22 = .ok (.lastore, 1) := by decide +kernel
theorem d_NS_becomeOr_23 : decode b_NS_becomeOr 23 = .ok (.iinc 2 1, 3) := by decide +kernel
theorem d_NS_becomeOr_26 : decode b_NS_becomeOr 26 = .ok (.goto (-24), 3) := by decide +kernel
theorem d_NS_becomeOr_29 : decode b_NS_becomeOr 29 = .ok (.return_, 1) := by decide +kernel
theorem d_CR_require_0 : decode b_CR_require 0 = .ok (.aload_n 0, 1) := by decide +kernel
theorem d_CR_require_1 : decode b_CR_require 1 = .ok (.getfield 43, 3) := by decide +kernel
theorem d_CR_require_4 : decode b_CR_require 4 = .ok (.ifCond .eq 5, 3) := by decide +kernel
theorem d_CR_require_7 : decode b_CR_require 7 = .ok (.iconst (-1), 1) := by decide +kernel
theorem d_CR_require_8 : decode b_CR_require 8 = .ok (.ireturn, 1) := by decide +kernel
theorem d_CR_require_9 : decode b_CR_require 9 = .ok (.aload_n 0, 1) := by decide +kernel
theorem d_CR_require_10 : decode b_CR_require 10 = .ok (.getfield 26, 3) := by decide +kernel
theorem d_CR_require_13 : decode b_CR_require 13 = .ok (.getfield 92, 3) := by decide +kernel
theorem d_CR_require_16 : decode b_CR_require 16 = .ok (.ifCond .ne 6, 3) := by decide +kernel
theorem d_CR_require_19 : decode b_CR_require 19 = .ok (.bipush (-2), 2) := by decide +kernel
theorem d_CR_require_21 : decode b_CR_require 21 = .ok (.ireturn, 1) := by decide +kernel
theorem d_CR_require_22 : decode b_CR_require 22 = .ok (.aload_n 0, 1) := by decide +kernel
theorem d_CR_require_23 : decode b_CR_require 23 = .ok (.getfield 12, 3) := by decide +kernel
theorem d_CR_require_26 : decode b_CR_require 26 = .ok (.getfield 93, 3) := by decide +kernel
theorem d_CR_require_29 : decode b_CR_require 29 = .ok (.bipush 8, 2) := by decide +kernel
theorem d_CR_require_31 : decode b_CR_require 31 = .ok (.if_icmp .ne 6, 3) := by decide +kernel
theorem d_CR_require_34 : decode b_CR_require 34 = .ok (.bipush (-3), 2) := by decide +kernel
theorem d_CR_require_36 : decode b_CR_require 36 = .ok (.ireturn, 1) := by decide +kernel
theorem d_CR_require_37 : decode b_CR_require 37 = .ok (.aload_n 0, 1) := by decide +kernel
theorem d_CR_require_38 : decode b_CR_require 38 = .ok (.getfield 12, 3) := by decide +kernel
theorem d_CR_require_41 : decode b_CR_require 41 = .ok (.aload_n 0, 1) := by decide +kernel
theorem d_CR_require_42 : decode b_CR_require 42 = .ok (.getfield 26, 3) := by decide +kernel
theorem d_CR_require_45 : decode b_CR_require 45 = .ok (.invokevirtual 96, 3) := by decide +kernel
theorem d_CR_require_48 : decode b_CR_require 48 = .ok (.invokevirtual 100, 3) := by decide +kernel
theorem d_CR_require_51 : decode b_CR_require 51 = .ok (.aload_n 0, 1) := by decide +kernel
theorem d_CR_require_52 : decode b_CR_require 52 = .ok (.getfield 12, 3) := by decide +kernel
theorem d_CR_require_55 : decode b_CR_require 55 = .ok (.getfield 93, 3) := by decide +kernel
theorem d_CR_require_58 : decode b_CR_require 58 = .ok (.ireturn, 1) := by decide +kernel
theorem d_Te_pop_0 : decode b_Te_pop 0 = .ok (.aload_n 0, 1) := by decide +kernel
theorem d_Te_pop_1 : decode b_Te_pop 1 = .ok (.getfield 22, 3) := by decide +kernel
theorem d_Te_pop_4 : decode b_Te_pop 4 = .ok (.ifCond .le 13, 3) := by decide +kernel
theorem d_Te_pop_7 : decode b_Te_pop 7 = .ok (.aload_n 0, 1) := by decide +kernel
theorem d_Te_pop_8 : decode b_Te_pop 8 = .ok (.dup, 1) := by decide +kernel
theorem d_Te_pop_9 : decode b_Te_pop 9 = .ok (.getfield 22, 3) := by decide +kernel
theorem d_Te_pop_12 : decode b_Te_pop 12 = .ok (.iconst 1, 1) := by decide +kernel
theorem d_Te_pop_13 : decode b_Te_pop 13 = .ok (.isub, 1) := by decide +kernel
theorem d_Te_pop_14 : decode b_Te_pop 14 = .ok (.putfield 22, 3) := by decide +kernel
theorem d_Te_pop_17 : decode b_Te_pop 17 = .ok (.aload_n 0, 1) := by decide +kernel
theorem d_Te_pop_18 : decode b_Te_pop 18 = .ok (.getfield 11, 3) := by decide +kernel
theorem d_Te_pop_21 : decode b_Te_pop 21 = .ok (.aload_n 0, 1) := by decide +kernel
theorem d_Te_pop_22 : decode b_Te_pop 22 = .ok (.getfield 22, 3) := by decide +kernel
theorem d_Te_pop_25 : decode b_Te_pop 25 = .ok (.aaload, 1) := by decide +kernel
theorem d_Te_pop_26 : decode b_Te_pop 26 = .ok (.areturn, 1) := by decide +kernel
theorem d_Sp_addRule_0 : decode b_Sp_addRule 0 = .ok (.aload_n 0, 1) := by decide +kernel
theorem d_Sp_addRule_1 : decode b_Sp_addRule 1 = .ok (.getfield 21, 3) := by decide +kernel
theorem d_Sp_addRule_4 : decode b_Sp_addRule 4 = .ok (.aload_n 1, 1) := by decide +kernel
theorem d_Sp_addRule_5 : decode b_Sp_addRule 5 = .ok (.invokevirtual 47, 3) := by decide +kernel
theorem d_Sp_addRule_8 : decode b_Sp_addRule 8 = .ok (.aload_n 0, 1) := by decide +kernel
theorem d_Sp_addRule_9 : decode b_Sp_addRule 9 = .ok (.dup, 1) := by decide +kernel
theorem d_Sp_addRule_10 : decode b_Sp_addRule 10 = .ok (.getfield 51, 3) := by decide +kernel
theorem d_Sp_addRule_13 : decode b_Sp_addRule 13 = .ok (.iconst 1, 1) := by decide +kernel
theorem d_Sp_addRule_14 : decode b_Sp_addRule 14 = .ok (.iadd, 1) := by decide +kernel
theorem d_Sp_addRule_15 : decode b_Sp_addRule 15 = .ok (.putfield 51, 3) := by decide +kernel
theorem d_Sp_addRule_18 : decode b_Sp_addRule 18 = .ok (.aload_n 0, 1) := by decide +kernel
theorem d_Sp_addRule_19 : decode b_Sp_addRule 19 = .ok (.invokevirtual 40, 3) := by decide +kernel
theorem d_Sp_addRule_22 : decode b_Sp_addRule 22 = .ok (.return_, 1) := by decide +kernel
theorem d_CR_seed_0 : decode b_CR_seed 0 = .ok (.aload_n 0, 1) := by decide +kernel
theorem d_CR_seed_1 : decode b_CR_seed 1 = .ok (.getfield 43, 3) := by decide +kernel
theorem d_CR_seed_4 : decode b_CR_seed 4 = .ok (.ifCond .eq 5, 3) := by decide +kernel
theorem d_CR_seed_7 : decode b_CR_seed 7 = .ok (.iconst (-1), 1) := by decide +kernel
theorem d_CR_seed_8 : decode b_CR_seed 8 = .ok (.ireturn, 1) := by decide +kernel
theorem d_CR_seed_9 : decode b_CR_seed 9 = .ok (.aload_n 0, 1) := by decide +kernel
theorem d_CR_seed_10 : decode b_CR_seed 10 = .ok (.getfield 104, 3) := by decide +kernel
theorem d_CR_seed_13 : decode b_CR_seed 13 = .ok (.bipush 8, 2) := by decide +kernel
theorem d_CR_seed_15 : decode b_CR_seed 15 = .ok (.if_icmp .ne 6, 3) := by decide +kernel
theorem d_CR_seed_18 : decode b_CR_seed 18 = .ok (.bipush (-2), 2) := by decide +kernel
theorem d_CR_seed_20 : decode b_CR_seed 20 = .ok (.ireturn, 1) := by decide +kernel
theorem d_CR_seed_21 : decode b_CR_seed 21 = .ok (.aload_n 0, 1) := by decide +kernel
theorem d_CR_seed_22 : decode b_CR_seed 22 = .ok (.getfield 30, 3) := by decide +kernel
theorem d_CR_seed_25 : decode b_CR_seed 25 = .ok (.aload_n 0, 1) := by decide +kernel
theorem d_CR_seed_26 : decode b_CR_seed 26 = .ok (.getfield 104, 3) := by decide +kernel
theorem d_CR_seed_29 : decode b_CR_seed 29 = .ok (.iload_n 1, 1) := by decide +kernel
theorem d_CR_seed_30 : decode b_CR_seed 30 = .ok (.iastore, 1) := by decide +kernel
theorem d_CR_seed_31 : decode b_CR_seed 31 = .ok (.aload_n 0, 1) := by decide +kernel
theorem d_CR_seed_32 : decode b_CR_seed 32 = .ok (.dup, 1) := by decide +kernel
theorem d_CR_seed_33 : decode b_CR_seed 33 = .ok (.getfield 104, 3) := by decide +kernel
theorem d_CR_seed_36 : decode b_CR_seed 36 = .ok (.iconst 1, 1) := by decide +kernel
theorem d_CR_seed_37 : decode b_CR_seed 37 = .ok (.iadd, 1) := by decide +kernel
theorem d_CR_seed_38 : decode b_CR_seed 38 = .ok (.putfield 104, 3) := by decide +kernel
theorem d_CR_seed_41 : decode b_CR_seed 41 = .ok (.aload_n 0, 1) := by decide +kernel
theorem d_CR_seed_42 : decode b_CR_seed 42 = .ok (.getfield 104, 3) := by decide +kernel
theorem d_CR_seed_45 : decode b_CR_seed 45 = .ok (.ireturn, 1) := by decide +kernel
theorem d_CR_begin_0 : decode b_CR_begin 0 = .ok (.aload_n 0, 1) := by decide +kernel
theorem d_CR_begin_1 : decode b_CR_begin 1 = .ok (.getfield 43, 3) := by decide +kernel
theorem d_CR_begin_4 : decode b_CR_begin 4 = .ok (.ifCond .eq 5, 3) := by decide +kernel
theorem d_CR_begin_7 : decode b_CR_begin 7 = .ok (.iconst (-1), 1) := by decide +kernel
theorem d_CR_begin_8 : decode b_CR_begin 8 = .ok (.ireturn, 1) := by decide +kernel
theorem d_CR_begin_9 : decode b_CR_begin 9 = .ok (.aload_n 0, 1) := by decide +kernel
theorem d_CR_begin_10 : decode b_CR_begin 10 = .ok (.getfield 12, 3) := by decide +kernel
theorem d_CR_begin_13 : decode b_CR_begin 13 = .ok (.getfield 47, 3) := by decide +kernel
theorem d_CR_begin_16 : decode b_CR_begin 16 = .ok (.ifCond .ne 6, 3) := by decide +kernel
theorem d_CR_begin_19 : decode b_CR_begin 19 = .ok (.bipush (-2), 2) := by decide +kernel
theorem d_CR_begin_21 : decode b_CR_begin 21 = .ok (.ireturn, 1) := by decide +kernel
theorem d_CR_begin_22 : decode b_CR_begin 22 = .ok (.aload_n 0, 1) := by decide +kernel
theorem d_CR_begin_23 : decode b_CR_begin 23 = .ok (.getfield 12, 3) := by decide +kernel
theorem d_CR_begin_26 : decode b_CR_begin 26 = .ok (.getfield 107, 3) := by decide +kernel
theorem d_CR_begin_29 : decode b_CR_begin 29 = .ok (.invokevirtual 111, 3) := by decide +kernel
theorem d_CR_begin_32 : decode b_CR_begin 32 = .ok (.ifCond .eq 6, 3) := by decide +kernel
theorem d_CR_begin_35 : decode b_CR_begin 35 = .ok (.bipush (-3), 2) := by decide +kernel
theorem d_CR_begin_37 : decode b_CR_begin 37 = .ok (.ireturn, 1) := by decide +kernel
theorem d_CR_begin_38 : decode b_CR_begin 38 = .ok (.aload_n 0, 1) := by decide +kernel
theorem d_CR_begin_39 : decode b_CR_begin 39 = .ok (.iconst 1, 1) := by decide +kernel
theorem d_CR_begin_40 : decode b_CR_begin 40 = .ok (.putfield 43, 3) := by decide +kernel
theorem d_CR_begin_43 : decode b_CR_begin 43 = .ok (.aload_n 0, 1) := by decide +kernel
theorem d_CR_begin_44 : decode b_CR_begin 44 = .ok (.getfield 39, 3) := by decide +kernel
theorem d_CR_begin_47 : decode b_CR_begin 47 = .ok (.invokevirtual 116, 3) := by decide +kernel
theorem d_CR_begin_50 : decode b_CR_begin 50 = .ok (.istore_n 1, 1) := by decide +kernel
theorem d_CR_begin_51 : decode b_CR_begin 51 = .ok (.aload_n 0, 1) := by decide +kernel
theorem d_CR_begin_52 : decode b_CR_begin 52 = .ok (.getfield 39, 3) := by decide +kernel
theorem d_CR_begin_55 : decode b_CR_begin 55 = .ok (.iload_n 1, 1) := by decide +kernel
theorem d_CR_begin_56 : decode b_CR_begin 56 = .ok (.invokevirtual 120, 3) := by decide +kernel
theorem d_CR_begin_59 : decode b_CR_begin 59 = .ok (.aload_n 0, 1) := by decide +kernel
theorem d_CR_begin_60 : decode b_CR_begin 60 = .ok (.invokevirtual 123, 3) := by decide +kernel
theorem d_CR_begin_63 : decode b_CR_begin 63 = .ok (.iload_n 1, 1) := by decide +kernel
theorem d_CR_begin_64 : decode b_CR_begin 64 = .ok (.ireturn, 1) := by decide +kernel
theorem d_NS_isEmpty_0 : decode b_NS_isEmpty 0 = .ok (.aload_n 0, 1) := by decide +kernel
theorem d_NS_isEmpty_1 : decode b_NS_isEmpty 1 = .ok (.iconst 0, 1) := by decide +kernel
theorem d_NS_isEmpty_2 : decode b_NS_isEmpty 2 = .ok (.iconst 0, 1) := by decide +kernel
theorem d_NS_isEmpty_3 : decode b_NS_isEmpty 3 = .ok (.invokevirtual 15, 3) := by decide +kernel
theorem d_NS_isEmpty_6 : decode b_NS_isEmpty 6 = .ok (.ifCond .ne 7, 3) := by decide +kernel
theorem d_NS_isEmpty_9 : decode b_NS_isEmpty 9 = .ok (.iconst 1, 1) := by decide +kernel
theorem d_NS_isEmpty_10 : decode b_NS_isEmpty 10 = .ok (.goto 4, 3) := by decide +kernel
theorem d_NS_isEmpty_13 : decode b_NS_isEmpty 13 = .ok (.iconst 0, 1) := by decide +kernel
theorem d_NS_isEmpty_14 : decode b_NS_isEmpty 14 = .ok (.ireturn, 1) := by decide +kernel
theorem d_NS_hasRowWith_0 : decode b_NS_hasRowWith 0 = .ok (.iload_n 1, 1) := by decide +kernel
theorem d_NS_hasRowWith_1 : decode b_NS_hasRowWith 1 = .ok (.iload_n 2, 1) := by decide +kernel
theorem d_NS_hasRowWith_2 : decode b_NS_hasRowWith 2 = .ok (.invokestatic 19, 3) := by decide +kernel
theorem d_NS_hasRowWith_5 : decode b_NS_hasRowWith 5 = .ok (.lstore_n 3, 1) := by decide +kernel
theorem d_NS_hasRowWith_6 : decode b_NS_hasRowWith 6 = .ok (.iload_n 2, 1) := by decide +kernel
theorem d_NS_hasRowWith_7 : decode b_NS_hasRowWith 7 = .ok (.bipush 6, 2) := by decide +kernel
theorem d_NS_hasRowWith_9 : decode b_NS_hasRowWith 9 = .ok (.ishr, 1) := by decide +kernel
theorem d_NS_hasRowWith_10 : decode b_NS_hasRowWith 10 = .ok (.bipush 63, 2) := by decide +kernel
theorem d_NS_hasRowWith_12 : decode b_NS_hasRowWith 12 = .ok (.iand, 1) := by decide +kernel
theorem d_NS_hasRowWith_13 : decode b_NS_hasRowWith 13 = .ok (.istore 5, 2) := by decide +kernel
theorem d_NS_hasRowWith_15 : decode b_NS_hasRowWith 15 = .ok (.iload_n 1, 1) := by decide +kernel
theorem d_NS_hasRowWith_16 : decode b_NS_hasRowWith 16 = .ok (.bipush 6, 2) := by decide +kernel
theorem d_NS_hasRowWith_18 : decode b_NS_hasRowWith 18 = .ok (.ishr, 1) := by decide +kernel
theorem d_NS_hasRowWith_19 : decode b_NS_hasRowWith 19 = .ok (.iconst (-1), 1) := by decide +kernel
theorem d_NS_hasRowWith_20 : decode b_NS_hasRowWith 20 = .ok (.ixor, 1) := by decide +kernel
theorem d_NS_hasRowWith_21 : decode b_NS_hasRowWith 21 = .ok (.bipush 63, 2) := by decide +kernel
theorem d_NS_hasRowWith_23 : decode b_NS_hasRowWith 23 = .ok (.iand, 1) := by decide +kernel
theorem d_NS_hasRowWith_24 : decode b_NS_hasRowWith 24 = .ok (.istore 6, 2) := by decide +kernel
theorem d_NS_hasRowWith_26 : decode b_NS_hasRowWith 26 = .ok (.iconst 1, 1) := by decide +kernel
theorem d_NS_hasRowWith_27 : decode b_NS_hasRowWith 27 = .ok (.iload 6, 2) := by decide +kernel
theorem d_NS_hasRowWith_29 : decode b_NS_hasRowWith 29 = .ok (.invokestatic 23, 3) := by decide +kernel
theorem d_NS_hasRowWith_32 : decode b_NS_hasRowWith 32 = .ok (.ishl, 1) := by decide +kernel
theorem d_NS_hasRowWith_33 : decode b_NS_hasRowWith 33 = .ok (.istore 7, 2) := by decide +kernel
theorem d_NS_hasRowWith_35 : decode b_NS_hasRowWith 35 = .ok (.iconst 0, 1) := by decide +kernel
theorem d_NS_hasRowWith_36 : decode b_NS_hasRowWith 36 = .ok (.istore 8, 2) := by decide +kernel
theorem d_NS_hasRowWith_38 : decode b_NS_hasRowWith 38 = .ok (.iconst 0, 1) := by decide +kernel
theorem d_NS_hasRowWith_39 : decode b_NS_hasRowWith 39 = .ok (.istore 9, 2) := by decide +kernel
theorem d_NS_hasRowWith_41 : decode b_NS_hasRowWith 41 = .ok (.iload 9, 2) := by decide +kernel
theorem d_NS_hasRowWith_43 : decode b_NS_hasRowWith 43 = .ok (.iload 7, 2) := by decide +kernel
theorem d_NS_hasRowWith_45 : decode b_NS_hasRowWith 45 = .ok (.if_icmp .ge 37, 3) := by decide +kernel
theorem d_NS_hasRowWith_48 : decode b_NS_hasRowWith 48 = .ok (.aload_n 0, 1) := by decide +kernel
theorem d_NS_hasRowWith_49 : decode b_NS_hasRowWith 49 = .ok (.getfield 9, 3) := by decide +kernel
theorem d_NS_hasRowWith_52 : decode b_NS_hasRowWith 52 = .ok (.iload 5, 2) := by decide +kernel
theorem d_NS_hasRowWith_54 : decode b_NS_hasRowWith 54 = .ok (.iload 8, 2) := by decide +kernel
theorem d_NS_hasRowWith_56 : decode b_NS_hasRowWith 56 = .ok (.ior, 1) := by decide +kernel
theorem d_NS_hasRowWith_57 : decode b_NS_hasRowWith 57 = .ok (.laload, 1) := by decide +kernel
theorem d_NS_hasRowWith_58 : decode b_NS_hasRowWith 58 = .ok (.lload_n 3, 1) := by decide +kernel
theorem d_NS_hasRowWith_59 : decode b_NS_hasRowWith 59 = .ok (.land, 1) := by decide +kernel
theorem d_NS_hasRowWith_60 : decode b_NS_hasRowWith 60 = .ok (.lconst 0, 1) := by decide +kernel
theorem d_NS_hasRowWith_61 : decode b_NS_hasRowWith 61 = .ok (.lcmp, 1) := by decide +kernel
theorem d_NS_hasRowWith_62 : decode b_NS_hasRowWith 62 = .ok (.ifCond .eq 5, 3) := by decide +kernel
theorem d_NS_hasRowWith_65 : decode b_NS_hasRowWith 65 = .ok (.iconst 1, 1) := by decide +kernel
theorem d_NS_hasRowWith_66 : decode b_NS_hasRowWith 66 = .ok (.ireturn, 1) := by decide +kernel
theorem d_NS_hasRowWith_67 : decode b_NS_hasRowWith 67 = .ok (.iload 6, 2) := by decide +kernel
theorem d_NS_hasRowWith_69 : decode b_NS_hasRowWith 69 = .ok (.iload 8, 2) := by decide +kernel
theorem d_NS_hasRowWith_71 : decode b_NS_hasRowWith 71 = .ok (.invokestatic 29, 3) := by decide +kernel
theorem d_NS_hasRowWith_74 : decode b_NS_hasRowWith 74 = .ok (.istore 8, 2) := by decide +kernel
theorem d_NS_hasRowWith_76 : decode b_NS_hasRowWith 76 = .ok (.iinc 9 1, 3) := by decide +kernel
theorem d_NS_hasRowWith_79 : decode b_NS_hasRowWith 79 = .ok (.goto (-38), 3) := by decide +kernel
theorem d_NS_hasRowWith_82 : decode b_NS_hasRowWith 82 = .ok (.iconst 0, 1) := by decide +kernel
theorem d_NS_hasRowWith_83 : decode b_NS_hasRowWith 83 = .ok (.ireturn, 1) := by decide +kernel
theorem d_NS_inWordWith_0 : decode b_NS_inWordWith 0 = .ok (.ldc2_w 33, 3) := by decide +kernel
theorem d_NS_inWordWith_3 : decode b_NS_inWordWith 3 = .ok (.lstore_n 2, 1) := by decide +kernel
theorem d_NS_inWordWith_4 : decode b_NS_inWordWith 4 = .ok (.iconst 0, 1) := by decide +kernel
theorem d_NS_inWordWith_5 : decode b_NS_inWordWith 5 = .ok (.istore 4, 2) := by decide +kernel
theorem d_NS_inWordWith_7 : decode b_NS_inWordWith 7 = .ok (.iload 4, 2) := by decide +kernel
theorem d_NS_inWordWith_9 : decode b_NS_inWordWith 9 = .ok (.iconst 3, 1) := by decide +kernel
theorem d_NS_inWordWith_10 : decode b_NS_inWordWith 10 = .ok (.if_icmp .ge 39, 3) := by decide +kernel
theorem d_NS_inWordWith_13 : decode b_NS_inWordWith 13 = .ok (.iload 4, 2) := by decide +kernel
theorem d_NS_inWordWith_15 : decode b_NS_inWordWith 15 = .ok (.iload_n 0, 1) := by decide +kernel
theorem d_NS_inWordWith_16 : decode b_NS_inWordWith 16 = .ok (.invokestatic 35, 3) := by decide +kernel
theorem d_NS_inWordWith_19 : decode b_NS_inWordWith 19 = .ok (.ifCond .eq 24, 3) := by decide +kernel
theorem d_NS_inWordWith_22 : decode b_NS_inWordWith 22 = .ok (.lload_n 2, 1) := by decide +kernel
theorem d_NS_inWordWith_23 : decode b_NS_inWordWith 23 = .ok (.getstatic 38, 3) := by decide +kernel
theorem d_NS_inWordWith_26 : decode b_NS_inWordWith 26 = .ok (.iload 4, 2) := by decide +kernel
theorem d_NS_inWordWith_28 : decode b_NS_inWordWith 28 = .ok (.laload, 1) := by decide +kernel
theorem d_NS_inWordWith_29 : decode b_NS_inWordWith 29 = .ok (.iload 4, 2) := by decide +kernel
theorem d_NS_inWordWith_31 : decode b_NS_inWordWith 31 = .ok (.iload_n 1, 1) := by decide +kernel
theorem d_NS_inWordWith_32 : decode b_NS_inWordWith 32 = .ok (.invokestatic 35, 3) := by decide +kernel
theorem d_NS_inWordWith_35 : decode b_NS_inWordWith 35 = .ok (.iconst 2, 1) := by decide +kernel
theorem d_NS_inWordWith_36 : decode b_NS_inWordWith 36 = .ok (.iload 4, 2) := by decide +kernel
theorem d_NS_inWordWith_38 : decode b_NS_inWordWith 38 = .ok (.imul, 1) := by decide +kernel
theorem d_NS_inWordWith_39 : decode b_NS_inWordWith 39 = .ok (.ishl, 1) := by decide +kernel
theorem d_NS_inWordWith_40 : decode b_NS_inWordWith 40 = .ok (.lshl, 1) := by decide +kernel
theorem d_NS_inWordWith_41 : decode b_NS_inWordWith 41 = .ok (.land, 1) := by decide +kernel
theorem d_NS_inWordWith_42 : decode b_NS_inWordWith 42 = .ok (.lstore_n 2, 1) := by decide +kernel
theorem d_NS_inWordWith_43 : decode b_NS_inWordWith 43 = .ok (.iinc 4 1, 3) := by decide +kernel
theorem d_NS_inWordWith_46 : decode b_NS_inWordWith 46 = .ok (.goto (-39), 3) := by decide +kernel
theorem d_NS_inWordWith_49 : decode b_NS_inWordWith 49 = .ok (.lload_n 2, 1) := by decide +kernel
theorem d_NS_inWordWith_50 : decode b_NS_inWordWith 50 = .ok (.lreturn, 1) := by decide +kernel
theorem d_CR_nextWithin_0 : decode b_CR_nextWithin 0 = .ok (.iload_n 1, 1) := by decide +kernel
theorem d_CR_nextWithin_1 : decode b_CR_nextWithin 1 = .ok (.iload_n 0, 1) := by decide +kernel
theorem d_CR_nextWithin_2 : decode b_CR_nextWithin 2 = .ok (.isub, 1) := by decide +kernel
theorem d_CR_nextWithin_3 : decode b_CR_nextWithin 3 = .ok (.iload_n 0, 1) := by decide +kernel
theorem d_CR_nextWithin_4 : decode b_CR_nextWithin 4 = .ok (.iand, 1) := by decide +kernel
theorem d_CR_nextWithin_5 : decode b_CR_nextWithin 5 = .ok (.ireturn, 1) := by decide +kernel
theorem d_Ge_countGoals_0 : decode b_Ge_countGoals 0 = .ok (.aload_n 0, 1) := by decide +kernel
theorem d_Ge_countGoals_1 : decode b_Ge_countGoals 1 = .ok (.getfield 29, 3) := by decide +kernel
theorem d_Ge_countGoals_4 : decode b_Ge_countGoals 4 = .ok (.iconst 0, 1) := by decide +kernel
theorem d_Ge_countGoals_5 : decode b_Ge_countGoals 5 = .ok (.invokevirtual 62, 3) := by decide +kernel
theorem d_Ge_countGoals_8 : decode b_Ge_countGoals 8 = .ok (.lstore_n 1, 1) := by decide +kernel
theorem d_Ge_countGoals_9 : decode b_Ge_countGoals 9 = .ok (.iconst 0, 1) := by decide +kernel
theorem d_Ge_countGoals_10 : decode b_Ge_countGoals 10 = .ok (.istore_n 3, 1) := by decide +kernel
theorem d_Ge_countGoals_11 : decode b_Ge_countGoals 11 = .ok (.iconst 1, 1) := by decide +kernel
theorem d_Ge_countGoals_12 : decode b_Ge_countGoals 12 = .ok (.istore 4, 2) := by decide +kernel
theorem d_Ge_countGoals_14 : decode b_Ge_countGoals 14 = .ok (.iload 4, 2) := by decide +kernel
theorem d_Ge_countGoals_16 : decode b_Ge_countGoals 16 = .ok (.bipush 64, 2) := by decide +kernel
theorem d_Ge_countGoals_18 : decode b_Ge_countGoals 18 = .ok (.if_icmp .ge 32, 3) := by decide +kernel
theorem d_Ge_countGoals_21 : decode b_Ge_countGoals 21 = .ok (.lload_n 1, 1) := by decide +kernel
theorem d_Ge_countGoals_22 : decode b_Ge_countGoals 22 = .ok (.iload 4, 2) := by decide +kernel
theorem d_Ge_countGoals_24 : decode b_Ge_countGoals 24 = .ok (.lushr, 1) := by decide +kernel
theorem d_Ge_countGoals_25 : decode b_Ge_countGoals 25 = .ok (.lconst 1, 1) := by decide +kernel
theorem d_Ge_countGoals_26 : decode b_Ge_countGoals 26 = .ok (.land, 1) := by decide +kernel
theorem d_Ge_countGoals_27 : decode b_Ge_countGoals 27 = .ok (.lconst 0, 1) := by decide +kernel
theorem d_Ge_countGoals_28 : decode b_Ge_countGoals 28 = .ok (.lcmp, 1) := by decide +kernel
theorem d_Ge_countGoals_29 : decode b_Ge_countGoals 29 = .ok (.ifCond .eq 15, 3) := by decide +kernel
theorem d_Ge_countGoals_32 : decode b_Ge_countGoals 32 = .ok (.iload_n 3, 1) := by decide +kernel
theorem d_Ge_countGoals_33 : decode b_Ge_countGoals 33 = .ok (.aload_n 0, 1) := by decide +kernel
theorem d_Ge_countGoals_34 : decode b_Ge_countGoals 34 = .ok (.iload 4, 2) := by decide +kernel
theorem d_Ge_countGoals_36 : decode b_Ge_countGoals 36 = .ok (.invokestatic 67, 3) := by decide +kernel
theorem d_Ge_countGoals_39 : decode b_Ge_countGoals 39 = .ok (.invokevirtual 71, 3) := by decide +kernel
theorem d_Ge_countGoals_42 : decode b_Ge_countGoals 42 = .ok (.iadd, 1) := by decide +kernel
theorem d_Ge_countGoals_43 : decode b_Ge_countGoals 43 = .ok (.istore_n 3, 1) := by decide +kernel
theorem d_Ge_countGoals_44 : decode b_Ge_countGoals 44 = .ok (.iinc 4 1, 3) := by decide +kernel
theorem d_Ge_countGoals_47 : decode b_Ge_countGoals 47 = .ok (.goto (-33), 3) := by decide +kernel
theorem d_Ge_countGoals_50 : decode b_Ge_countGoals 50 = .ok (.iload_n 3, 1) := by decide +kernel
theorem d_Ge_countGoals_51 : decode b_Ge_countGoals 51 = .ok (.ireturn, 1) := by decide +kernel
theorem d_Re_askedWith_0 : decode b_Re_askedWith 0 = .ok (.aload_n 0, 1) := by decide +kernel
theorem d_Re_askedWith_1 : decode b_Re_askedWith 1 = .ok (.getfield 15, 3) := by decide +kernel
theorem d_Re_askedWith_4 : decode b_Re_askedWith 4 = .ok (.lstore_n 2, 1) := by decide +kernel
theorem d_Re_askedWith_5 : decode b_Re_askedWith 5 = .ok (.iconst 0, 1) := by decide +kernel
theorem d_Re_askedWith_6 : decode b_Re_askedWith 6 = .ok (.istore 4, 2) := by decide +kernel
theorem d_Re_askedWith_8 : decode b_Re_askedWith 8 = .ok (.iload 4, 2) := by decide +kernel
theorem d_Re_askedWith_10 : decode b_Re_askedWith 10 = .ok (.bipush 6, 2) := by decide +kernel
theorem d_Re_askedWith_12 : decode b_Re_askedWith 12 = .ok (.if_icmp .ge 27, 3) := by decide +kernel
theorem d_Re_askedWith_15 : decode b_Re_askedWith 15 = .ok (.iload_n 1, 1) := by decide +kernel
theorem d_Re_askedWith_16 : decode b_Re_askedWith 16 = .ok (.iload 4, 2) := by decide +kernel
theorem d_Re_askedWith_18 : decode b_Re_askedWith 18 = .ok (.ishr, 1) := by decide +kernel
theorem d_Re_askedWith_19 : decode b_Re_askedWith 19 = .ok (.iconst 1, 1) := by decide +kernel
theorem d_Re_askedWith_20 : decode b_Re_askedWith 20 = .ok (.iand, 1) := by decide +kernel
theorem d_Re_askedWith_21 : decode b_Re_askedWith 21 = .ok (.ifCond .eq 12, 3) := by decide +kernel
theorem d_Re_askedWith_24 : decode b_Re_askedWith 24 = .ok (.lload_n 2, 1) := by decide +kernel
theorem d_Re_askedWith_25 : decode b_Re_askedWith 25 = .ok (.getstatic 25, 3) := by decide +kernel
theorem d_Re_askedWith_28 : decode b_Re_askedWith 28 = .ok (.iload 4, 2) := by decide +kernel
theorem d_Re_askedWith_30 : decode b_Re_askedWith 30 = .ok (.laload, 1) := by decide +kernel
theorem d_Re_askedWith_31 : decode b_Re_askedWith 31 = .ok (.land, 1) := by decide +kernel
theorem d_Re_askedWith_32 : decode b_Re_askedWith 32 = .ok (.lstore_n 2, 1) := by decide +kernel
theorem d_Re_askedWith_33 : decode b_Re_askedWith 33 = .ok (.iinc 4 1, 3) := by decide +kernel
theorem d_Re_askedWith_36 : decode b_Re_askedWith 36 = .ok (.goto (-28), 3) := by decide +kernel
theorem d_Re_askedWith_39 : decode b_Re_askedWith 39 = .ok (.lload_n 2, 1) := by decide +kernel
theorem d_Re_askedWith_40 : decode b_Re_askedWith 40 = .ok (.lreturn, 1) := by decide +kernel
theorem d_CR_fieldsOf_0 : decode b_CR_fieldsOf 0 = .ok (.iconst 0, 1) := by decide +kernel
theorem d_CR_fieldsOf_1 : decode b_CR_fieldsOf 1 = .ok (.istore_n 1, 1) := by decide +kernel
theorem d_CR_fieldsOf_2 : decode b_CR_fieldsOf 2 = .ok (.iconst 0, 1) := by decide +kernel
theorem d_CR_fieldsOf_3 : decode b_CR_fieldsOf 3 = .ok (.istore_n 2, 1) := by decide +kernel
theorem d_CR_fieldsOf_4 : decode b_CR_fieldsOf 4 = .ok (.iload_n 2, 1) := by decide +kernel
theorem d_CR_fieldsOf_5 : decode b_CR_fieldsOf 5 = .ok (.bipush 6, 2) := by decide +kernel
theorem d_CR_fieldsOf_7 : decode b_CR_fieldsOf 7 = .ok (.if_icmp .ge 25, 3) := by decide +kernel
theorem d_CR_fieldsOf_10 : decode b_CR_fieldsOf 10 = .ok (.iload_n 0, 1) := by decide +kernel
theorem d_CR_fieldsOf_11 : decode b_CR_fieldsOf 11 = .ok (.iload_n 2, 1) := by decide +kernel
theorem d_CR_fieldsOf_12 : decode b_CR_fieldsOf 12 = .ok (.ishr, 1) := by decide +kernel
theorem d_CR_fieldsOf_13 : decode b_CR_fieldsOf 13 = .ok (.iconst 1, 1) := by decide +kernel
theorem d_CR_fieldsOf_14 : decode b_CR_fieldsOf 14 = .ok (.iand, 1) := by decide +kernel
theorem d_CR_fieldsOf_15 : decode b_CR_fieldsOf 15 = .ok (.ifCond .eq 11, 3) := by decide +kernel
theorem d_CR_fieldsOf_18 : decode b_CR_fieldsOf 18 = .ok (.iload_n 1, 1) := by decide +kernel
theorem d_CR_fieldsOf_19 : decode b_CR_fieldsOf 19 = .ok (.iconst 3, 1) := by decide +kernel
theorem d_CR_fieldsOf_20 : decode b_CR_fieldsOf 20 = .ok (.iconst 2, 1) := by decide +kernel
theorem d_CR_fieldsOf_21 : decode b_CR_fieldsOf 21 = .ok (.iload_n 2, 1) := by decide +kernel
theorem d_CR_fieldsOf_22 : decode b_CR_fieldsOf 22 = .ok (.imul, 1) := by decide +kernel
theorem d_CR_fieldsOf_23 : decode b_CR_fieldsOf 23 = .ok (.ishl, 1) := by decide +kernel
theorem d_CR_fieldsOf_24 : decode b_CR_fieldsOf 24 = .ok (.ior, 1) := by decide +kernel
theorem d_CR_fieldsOf_25 : decode b_CR_fieldsOf 25 = .ok (.istore_n 1, 1) := by decide +kernel
theorem d_CR_fieldsOf_26 : decode b_CR_fieldsOf 26 = .ok (.iinc 2 1, 3) := by decide +kernel
theorem d_CR_fieldsOf_29 : decode b_CR_fieldsOf 29 = .ok (.goto (-25), 3) := by decide +kernel
theorem d_CR_fieldsOf_32 : decode b_CR_fieldsOf 32 = .ok (.iload_n 1, 1) := by decide +kernel
theorem d_CR_fieldsOf_33 : decode b_CR_fieldsOf 33 = .ok (.ireturn, 1) := by decide +kernel
theorem d_Ge_countGoalsOf_0 : decode b_Ge_countGoalsOf 0 = .ok (.iconst 0, 1) := by decide +kernel
theorem d_Ge_countGoalsOf_1 : decode b_Ge_countGoalsOf 1 = .ok (.istore_n 2, 1) := by decide +kernel
theorem d_Ge_countGoalsOf_2 : decode b_Ge_countGoalsOf 2 = .ok (.iconst 1, 1) := by decide +kernel
theorem d_Ge_countGoalsOf_3 : decode b_Ge_countGoalsOf 3 = .ok (.iload_n 1, 1) := by decide +kernel
theorem d_Ge_countGoalsOf_4 : decode b_Ge_countGoalsOf 4 = .ok (.invokestatic 74, 3) := by decide +kernel
theorem d_Ge_countGoalsOf_7 : decode b_Ge_countGoalsOf 7 = .ok (.ishl, 1) := by decide +kernel
theorem d_Ge_countGoalsOf_8 : decode b_Ge_countGoalsOf 8 = .ok (.istore_n 3, 1) := by decide +kernel
theorem d_Ge_countGoalsOf_9 : decode b_Ge_countGoalsOf 9 = .ok (.iconst 0, 1) := by decide +kernel
theorem d_Ge_countGoalsOf_10 : decode b_Ge_countGoalsOf 10 = .ok (.istore 4, 2) := by decide +kernel
theorem d_Ge_countGoalsOf_12 : decode b_Ge_countGoalsOf 12 = .ok (.iconst 0, 1) := by decide +kernel
theorem d_Ge_countGoalsOf_13 : decode b_Ge_countGoalsOf 13 = .ok (.istore 5, 2) := by decide +kernel
theorem d_Ge_countGoalsOf_15 : decode b_Ge_countGoalsOf 15 = .ok (.iload 5, 2) := by decide +kernel
theorem d_Ge_countGoalsOf_17 : decode b_Ge_countGoalsOf 17 = .ok (.iload_n 3, 1) := by decide +kernel
theorem d_Ge_countGoalsOf_18 : decode b_Ge_countGoalsOf 18 = .ok (.if_icmp .ge 30, 3) := by decide +kernel
theorem d_Ge_countGoalsOf_21 : decode b_Ge_countGoalsOf 21 = .ok (.aload_n 0, 1) := by decide +kernel
theorem d_Ge_countGoalsOf_22 : decode b_Ge_countGoalsOf 22 = .ok (.iload_n 1, 1) := by decide +kernel
theorem d_Ge_countGoalsOf_23 : decode b_Ge_countGoalsOf 23 = .ok (.iload 4, 2) := by decide +kernel
theorem d_Ge_countGoalsOf_25 : decode b_Ge_countGoalsOf 25 = .ok (.invokevirtual 78, 3) := by decide +kernel
theorem d_Ge_countGoalsOf_28 : decode b_Ge_countGoalsOf 28 = .ok (.ifCond .eq 6, 3) := by decide +kernel
theorem d_Ge_countGoalsOf_31 : decode b_Ge_countGoalsOf 31 = .ok (.iinc 2 1, 3) := by decide +kernel
theorem d_Ge_countGoalsOf_34 : decode b_Ge_countGoalsOf 34 = .ok (.iload_n 1, 1) := by decide +kernel
theorem d_Ge_countGoalsOf_35 : decode b_Ge_countGoalsOf 35 = .ok (.iload 4, 2) := by decide +kernel
theorem d_Ge_countGoalsOf_37 : decode b_Ge_countGoalsOf 37 = .ok (.invokestatic 82, 3) := by decide +kernel
theorem d_Ge_countGoalsOf_40 : decode b_Ge_countGoalsOf 40 = .ok (.istore 4, 2) := by decide +kernel
theorem d_Ge_countGoalsOf_42 : decode b_Ge_countGoalsOf 42 = .ok (.iinc 5 1, 3) := by decide +kernel
theorem d_Ge_countGoalsOf_45 : decode b_Ge_countGoalsOf 45 = .ok (.goto (-30), 3) := by decide +kernel
theorem d_Ge_countGoalsOf_48 : decode b_Ge_countGoalsOf 48 = .ok (.iload_n 2, 1) := by decide +kernel
theorem d_Ge_countGoalsOf_49 : decode b_Ge_countGoalsOf 49 = .ok (.ireturn, 1) := by decide +kernel
theorem d_Ge_isGoal_0 : decode b_Ge_isGoal 0 = .ok (.aload_n 0, 1) := by decide +kernel
theorem d_Ge_isGoal_1 : decode b_Ge_isGoal 1 = .ok (.getfield 25, 3) := by decide +kernel
theorem d_Ge_isGoal_4 : decode b_Ge_isGoal 4 = .ok (.iload_n 1, 1) := by decide +kernel
theorem d_Ge_isGoal_5 : decode b_Ge_isGoal 5 = .ok (.iload_n 2, 1) := by decide +kernel
theorem d_Ge_isGoal_6 : decode b_Ge_isGoal 6 = .ok (.invokevirtual 86, 3) := by decide +kernel
theorem d_Ge_isGoal_9 : decode b_Ge_isGoal 9 = .ok (.istore_n 3, 1) := by decide +kernel
theorem d_Ge_isGoal_10 : decode b_Ge_isGoal 10 = .ok (.iload_n 3, 1) := by decide +kernel
theorem d_Ge_isGoal_11 : decode b_Ge_isGoal 11 = .ok (.ifCond .ne 16, 3) := by decide +kernel
theorem d_Ge_isGoal_14 : decode b_Ge_isGoal 14 = .ok (.aload_n 0, 1) := by decide +kernel
theorem d_Ge_isGoal_15 : decode b_Ge_isGoal 15 = .ok (.getfield 25, 3) := by decide +kernel
theorem d_Ge_isGoal_18 : decode b_Ge_isGoal 18 = .ok (.getfield 89, 3) := by decide +kernel
theorem d_Ge_isGoal_21 : decode b_Ge_isGoal 21 = .ok (.iload_n 1, 1) := by decide +kernel
theorem d_Ge_isGoal_22 : decode b_Ge_isGoal 22 = .ok (.iload_n 2, 1) := by decide +kernel
theorem d_Ge_isGoal_23 : decode b_Ge_isGoal 23 = .ok (.invokevirtual 93, 3) := by decide +kernel
theorem d_Ge_isGoal_26 : decode b_Ge_isGoal 26 = .ok (.ireturn, 1) := by decide +kernel
theorem d_Ge_isGoal_27 : decode b_Ge_isGoal 27 = .ok (.iload_n 3, 1) := by decide +kernel
theorem d_Ge_isGoal_28 : decode b_Ge_isGoal 28 = .ok (.invokestatic 74, 3) := by decide +kernel
theorem d_Ge_isGoal_31 : decode b_Ge_isGoal 31 = .ok (.iconst 1, 1) := by decide +kernel
theorem d_Ge_isGoal_32 : decode b_Ge_isGoal 32 = .ok (.if_icmp .ne 22, 3) := by decide +kernel
theorem d_Ge_isGoal_35 : decode b_Ge_isGoal 35 = .ok (.aload_n 0, 1) := by decide +kernel
theorem d_Ge_isGoal_36 : decode b_Ge_isGoal 36 = .ok (.getfield 25, 3) := by decide +kernel
theorem d_Ge_isGoal_39 : decode b_Ge_isGoal 39 = .ok (.getfield 98, 3) := by decide +kernel
theorem d_Ge_isGoal_42 : decode b_Ge_isGoal 42 = .ok (.iload_n 1, 1) := by decide +kernel
theorem d_Ge_isGoal_43 : decode b_Ge_isGoal 43 = .ok (.iload_n 2, 1) := by decide +kernel
theorem d_Ge_isGoal_44 : decode b_Ge_isGoal 44 = .ok (.invokevirtual 93, 3) := by decide +kernel
theorem d_Ge_isGoal_47 : decode b_Ge_isGoal 47 = .ok (.ifCond .eq 7, 3) := by decide +kernel
theorem d_Ge_isGoal_50 : decode b_Ge_isGoal 50 = .ok (.iconst 1, 1) := by decide +kernel
theorem d_Ge_isGoal_51 : decode b_Ge_isGoal 51 = .ok (.goto 4, 3) := by decide +kernel
theorem d_Ge_isGoal_54 : decode b_Ge_isGoal 54 = .ok (.iconst 0, 1) := by decide +kernel
theorem d_Ge_isGoal_55 : decode b_Ge_isGoal 55 = .ok (.ireturn, 1) := by decide +kernel
theorem d_Sp_invalidIn_0 : decode b_Sp_invalidIn 0 = .ok (.iconst 0, 1) := by decide +kernel
theorem d_Sp_invalidIn_1 : decode b_Sp_invalidIn 1 = .ok (.istore_n 3, 1) := by decide +kernel
theorem d_Sp_invalidIn_2 : decode b_Sp_invalidIn 2 = .ok (.iconst 0, 1) := by decide +kernel
theorem d_Sp_invalidIn_3 : decode b_Sp_invalidIn 3 = .ok (.istore 4, 2) := by decide +kernel
theorem d_Sp_invalidIn_5 : decode b_Sp_invalidIn 5 = .ok (.iload 4, 2) := by decide +kernel
theorem d_Sp_invalidIn_7 : decode b_Sp_invalidIn 7 = .ok (.bipush 6, 2) := by decide +kernel
theorem d_Sp_invalidIn_9 : decode b_Sp_invalidIn 9 = .ok (.if_icmp .ge 40, 3) := by decide +kernel
theorem d_Sp_invalidIn_12 : decode b_Sp_invalidIn 12 = .ok (.iload 4, 2) := by decide +kernel
theorem d_Sp_invalidIn_14 : decode b_Sp_invalidIn 14 = .ok (.iload_n 1, 1) := by decide +kernel
theorem d_Sp_invalidIn_15 : decode b_Sp_invalidIn 15 = .ok (.invokestatic 76, 3) := by decide +kernel
theorem d_Sp_invalidIn_18 : decode b_Sp_invalidIn 18 = .ok (.ifCond .eq 25, 3) := by decide +kernel
theorem d_Sp_invalidIn_21 : decode b_Sp_invalidIn 21 = .ok (.aload_n 0, 1) := by decide +kernel
theorem d_Sp_invalidIn_22 : decode b_Sp_invalidIn 22 = .ok (.iload 4, 2) := by decide +kernel
theorem d_Sp_invalidIn_24 : decode b_Sp_invalidIn 24 = .ok (.iload 4, 2) := by decide +kernel
theorem d_Sp_invalidIn_26 : decode b_Sp_invalidIn 26 = .ok (.iload_n 2, 1) := by decide +kernel
theorem d_Sp_invalidIn_27 : decode b_Sp_invalidIn 27 = .ok (.invokestatic 76, 3) := by decide +kernel
theorem d_Sp_invalidIn_30 : decode b_Sp_invalidIn 30 = .ok (.invokevirtual 80, 3) := by decide +kernel
theorem d_Sp_invalidIn_33 : decode b_Sp_invalidIn 33 = .ok (.ifCond .eq 10, 3) := by decide +kernel
theorem d_Sp_invalidIn_36 : decode b_Sp_invalidIn 36 = .ok (.iload_n 3, 1) := by decide +kernel
theorem d_Sp_invalidIn_37 : decode b_Sp_invalidIn 37 = .ok (.iconst 1, 1) := by decide +kernel
theorem d_Sp_invalidIn_38 : decode b_Sp_invalidIn 38 = .ok (.iload 4, 2) := by decide +kernel
theorem d_Sp_invalidIn_40 : decode b_Sp_invalidIn 40 = .ok (.ishl, 1) := by decide +kernel
theorem d_Sp_invalidIn_41 : decode b_Sp_invalidIn 41 = .ok (.ior, 1) := by decide +kernel
theorem d_Sp_invalidIn_42 : decode b_Sp_invalidIn 42 = .ok (.istore_n 3, 1) := by decide +kernel
theorem d_Sp_invalidIn_43 : decode b_Sp_invalidIn 43 = .ok (.iinc 4 1, 3) := by decide +kernel
theorem d_Sp_invalidIn_46 : decode b_Sp_invalidIn 46 = .ok (.goto (-41), 3) := by decide +kernel
theorem d_Sp_invalidIn_49 : decode b_Sp_invalidIn 49 = .ok (.iload_n 3, 1) := by decide +kernel
theorem d_Sp_invalidIn_50 : decode b_Sp_invalidIn 50 = .ok (.ireturn, 1) := by decide +kernel
theorem d_Ge_start_0 : decode b_Ge_start 0 = .ok (.aload_n 0, 1) := by decide +kernel
theorem d_Ge_start_1 : decode b_Ge_start 1 = .ok (.getfield 9, 3) := by decide +kernel
theorem d_Ge_start_4 : decode b_Ge_start 4 = .ok (.lconst 0, 1) := by decide +kernel
theorem d_Ge_start_5 : decode b_Ge_start 5 = .ok (.invokestatic 33, 3) := by decide +kernel
theorem d_Ge_start_8 : decode b_Ge_start 8 = .ok (.aload_n 0, 1) := by decide +kernel
theorem d_Ge_start_9 : decode b_Ge_start 9 = .ok (.iconst 0, 1) := by decide +kernel
theorem d_Ge_start_10 : decode b_Ge_start 10 = .ok (.putfield 39, 3) := by decide +kernel
theorem d_Ge_start_13 : decode b_Ge_start 13 = .ok (.aload_n 0, 1) := by decide +kernel
theorem d_Ge_start_14 : decode b_Ge_start 14 = .ok (.iload_n 1, 1) := by decide +kernel
theorem d_Ge_start_15 : decode b_Ge_start 15 = .ok (.putfield 43, 3) := by decide +kernel
theorem d_Ge_start_18 : decode b_Ge_start 18 = .ok (.aload_n 0, 1) := by decide +kernel
theorem d_Ge_start_19 : decode b_Ge_start 19 = .ok (.getfield 25, 3) := by decide +kernel
theorem d_Ge_start_22 : decode b_Ge_start 22 = .ok (.invokevirtual 46, 3) := by decide +kernel
theorem d_Ge_start_25 : decode b_Ge_start 25 = .ok (.istore_n 2, 1) := by decide +kernel
theorem d_Ge_start_26 : decode b_Ge_start 26 = .ok (.iconst 0, 1) := by decide +kernel
theorem d_Ge_start_27 : decode b_Ge_start 27 = .ok (.istore_n 3, 1) := by decide +kernel
theorem d_Ge_start_28 : decode b_Ge_start 28 = .ok (.iload_n 3, 1) := by decide +kernel
theorem d_Ge_start_29 : decode b_Ge_start 29 = .ok (.iload_n 2, 1) := by decide +kernel
theorem d_Ge_start_30 : decode b_Ge_start 30 = .ok (.if_icmp .ge 23, 3) := by decide +kernel
theorem d_Ge_start_33 : decode b_Ge_start 33 = .ok (.aload_n 0, 1) := by decide +kernel
theorem d_Ge_start_34 : decode b_Ge_start 34 = .ok (.getfield 15, 3) := by decide +kernel
theorem d_Ge_start_37 : decode b_Ge_start 37 = .ok (.iload_n 3, 1) := by decide +kernel
theorem d_Ge_start_38 : decode b_Ge_start 38 = .ok (.aload_n 0, 1) := by decide +kernel
theorem d_Ge_start_39 : decode b_Ge_start 39 = .ok (.iload_n 3, 1) := by decide +kernel
theorem d_Ge_start_40 : decode b_Ge_start 40 = .ok (.invokevirtual 52, 3) := by decide +kernel
theorem d_Ge_start_43 : decode b_Ge_start 43 = .ok (.invokestatic 56, 3) := by decide +kernel
theorem d_Ge_start_46 : decode b_Ge_start 46 = .ok (.iastore, 1) := by decide +kernel
theorem d_Ge_start_47 : decode b_Ge_start 47 = .ok (.iinc 3 1, 3) := by decide +kernel
theorem d_Ge_start_50 : decode b_Ge_start 50 = .ok (.goto (-22), 3) := by decide +kernel
theorem d_Ge_start_53 : decode b_Ge_start 53 = .ok (.return_, 1) := by decide +kernel
theorem d_Sp_numberLimit_0 : decode b_Sp_numberLimit 0 = .ok (.iconst 1, 1) := by decide +kernel
theorem d_Sp_numberLimit_1 : decode b_Sp_numberLimit 1 = .ok (.iconst 2, 1) := by decide +kernel
theorem d_Sp_numberLimit_2 : decode b_Sp_numberLimit 2 = .ok (.aload_n 0, 1) := by decide +kernel
theorem d_Sp_numberLimit_3 : decode b_Sp_numberLimit 3 = .ok (.getfield 43, 3) := by decide +kernel
theorem d_Sp_numberLimit_6 : decode b_Sp_numberLimit 6 = .ok (.imul, 1) := by decide +kernel
theorem d_Sp_numberLimit_7 : decode b_Sp_numberLimit 7 = .ok (.ishl, 1) := by decide +kernel
theorem d_Sp_numberLimit_8 : decode b_Sp_numberLimit 8 = .ok (.ireturn, 1) := by decide +kernel
theorem d_Ge_setsCoveredBy_0 : decode b_Ge_setsCoveredBy 0 = .ok (.aload_n 0, 1) := by decide +kernel
theorem d_Ge_setsCoveredBy_1 : decode b_Ge_setsCoveredBy 1 = .ok (.getfield 25, 3) := by decide +kernel
theorem d_Ge_setsCoveredBy_4 : decode b_Ge_setsCoveredBy 4 = .ok (.getfield 89, 3) := by decide +kernel
theorem d_Ge_setsCoveredBy_7 : decode b_Ge_setsCoveredBy 7 = .ok (.iload_n 1, 1) := by decide +kernel
theorem d_Ge_setsCoveredBy_8 : decode b_Ge_setsCoveredBy 8 = .ok (.invokevirtual 101, 3) := by decide +kernel
theorem d_Ge_setsCoveredBy_11 : decode b_Ge_setsCoveredBy 11 = .ok (.ifCond .eq 12, 3) := by decide +kernel
theorem d_Ge_setsCoveredBy_14 : decode b_Ge_setsCoveredBy 14 = .ok (.aload_n 0, 1) := by decide +kernel
theorem d_Ge_setsCoveredBy_15 : decode b_Ge_setsCoveredBy 15 = .ok (.getfield 29, 3) := by decide +kernel
theorem d_Ge_setsCoveredBy_18 : decode b_Ge_setsCoveredBy 18 = .ok (.iconst 0, 1) := by decide +kernel
theorem d_Ge_setsCoveredBy_19 : decode b_Ge_setsCoveredBy 19 = .ok (.invokevirtual 62, 3) := by decide +kernel
theorem d_Ge_setsCoveredBy_22 : decode b_Ge_setsCoveredBy 22 = .ok (.lreturn, 1) := by decide +kernel
theorem d_Ge_setsCoveredBy_23 : decode b_Ge_setsCoveredBy 23 = .ok (.aload_n 0, 1) := by decide +kernel
theorem d_Ge_setsCoveredBy_24 : decode b_Ge_setsCoveredBy 24 = .ok (.getfield 25, 3) := by decide +kernel
theorem d_Ge_setsCoveredBy_27 : decode b_Ge_setsCoveredBy 27 = .ok (.getfield 98, 3) := by decide +kernel
theorem d_Ge_setsCoveredBy_30 : decode b_Ge_setsCoveredBy 30 = .ok (.iload_n 1, 1) := by decide +kernel
theorem d_Ge_setsCoveredBy_31 : decode b_Ge_setsCoveredBy 31 = .ok (.invokevirtual 101, 3) := by decide +kernel
theorem d_Ge_setsCoveredBy_34 : decode b_Ge_setsCoveredBy 34 = .ok (.ifCond .eq 26, 3) := by decide +kernel
theorem d_Ge_setsCoveredBy_37 : decode b_Ge_setsCoveredBy 37 = .ok (.aload_n 0, 1) := by decide +kernel
theorem d_Ge_setsCoveredBy_38 : decode b_Ge_setsCoveredBy 38 = .ok (.getfield 29, 3) := by decide +kernel
theorem d_Ge_setsCoveredBy_41 : decode b_Ge_setsCoveredBy 41 = .ok (.aload_n 0, 1) := by decide +kernel
theorem d_Ge_setsCoveredBy_42 : decode b_Ge_setsCoveredBy 42 = .ok (.getfield 25, 3) := by decide +kernel
theorem d_Ge_setsCoveredBy_45 : decode b_Ge_setsCoveredBy 45 = .ok (.aload_n 0, 1) := by decide +kernel
theorem d_Ge_setsCoveredBy_46 : decode b_Ge_setsCoveredBy 46 = .ok (.getfield 25, 3) := by decide +kernel
theorem d_Ge_setsCoveredBy_49 : decode b_Ge_setsCoveredBy 49 = .ok (.invokevirtual 105, 3) := by decide +kernel
theorem d_Ge_setsCoveredBy_52 : decode b_Ge_setsCoveredBy 52 = .ok (.iload_n 1, 1) := by decide +kernel
theorem d_Ge_setsCoveredBy_53 : decode b_Ge_setsCoveredBy 53 = .ok (.invokevirtual 86, 3) := by decide +kernel
theorem d_Ge_setsCoveredBy_56 : decode b_Ge_setsCoveredBy 56 = .ok (.invokevirtual 62, 3) := by decide +kernel
theorem d_Ge_setsCoveredBy_59 : decode b_Ge_setsCoveredBy 59 = .ok (.lreturn, 1) := by decide +kernel
theorem d_Ge_setsCoveredBy_60 : decode b_Ge_setsCoveredBy 60 = .ok (.lconst 0, 1) := by decide +kernel
theorem d_Ge_setsCoveredBy_61 : decode b_Ge_setsCoveredBy 61 = .ok (.lreturn, 1) := by decide +kernel
theorem d_NS_has_0 : decode b_NS_has 0 = .ok (.iload_n 1, 1) := by decide +kernel
theorem d_NS_has_1 : decode b_NS_has 1 = .ok (.ifCond .lt 35, 3) := by decide +kernel
theorem d_NS_has_4 : decode b_NS_has 4 = .ok (.iload_n 1, 1) := by decide +kernel
theorem d_NS_has_5 : decode b_NS_has 5 = .ok (.sipush 4096, 3) := by decide +kernel
theorem d_NS_has_8 : decode b_NS_has 8 = .ok (.if_icmp .ge 28, 3) := by decide +kernel
theorem d_NS_has_11 : decode b_NS_has 11 = .ok (.aload_n 0, 1) := by decide +kernel
theorem d_NS_has_12 : decode b_NS_has 12 = .ok (.getfield 9, 3) := by decide +kernel
theorem d_NS_has_15 : decode b_NS_has 15 = .ok (.iload_n 1, 1) := by decide +kernel
theorem d_NS_has_16 : decode b_NS_has 16 = .ok (.bipush 6, 2) := by decide +kernel
theorem d_NS_has_18 : decode b_NS_has 18 = .ok (.ishr, 1) := by decide +kernel
theorem d_NS_has_19 : decode b_NS_has 19 = .ok (.laload, 1) := by decide +kernel
theorem d_NS_has_20 : decode b_NS_has 20 = .ok (.iload_n 1, 1) := by decide +kernel
theorem d_NS_has_21 : decode b_NS_has 21 = .ok (.bipush 63, 2) := by decide +kernel
theorem d_NS_has_23 : decode b_NS_has 23 = .ok (.iand, 1) := by decide +kernel
theorem d_NS_has_24 : decode b_NS_has 24 = .ok (.lushr, 1) := by decide +kernel
theorem d_NS_has_25 : decode b_NS_has 25 = .ok (.lconst 1, 1) := by decide +kernel
theorem d_NS_has_26 : decode b_NS_has 26 = .ok (.land, 1) := by decide +kernel
theorem d_NS_has_27 : decode b_NS_has 27 = .ok (.lconst 0, 1) := by decide +kernel
theorem d_NS_has_28 : decode b_NS_has 28 = .ok (.lcmp, 1) := by decide +kernel
theorem d_NS_has_29 : decode b_NS_has 29 = .ok (.ifCond .eq 7, 3) := by decide +kernel
theorem d_NS_has_32 : decode b_NS_has 32 = .ok (.iconst 1, 1) := by decide +kernel
theorem d_NS_has_33 : decode b_NS_has 33 = .ok (.goto 4, 3) := by decide +kernel
theorem d_NS_has_36 : decode b_NS_has 36 = .ok (.iconst 0, 1) := by decide +kernel
theorem d_NS_has_37 : decode b_NS_has 37 = .ok (.ireturn, 1) := by decide +kernel
theorem d_Sp_allFields_0 : decode b_Sp_allFields 0 = .ok (.aload_n 0, 1) := by decide +kernel
theorem d_Sp_allFields_1 : decode b_Sp_allFields 1 = .ok (.invokevirtual 65, 3) := by decide +kernel
theorem d_Sp_allFields_4 : decode b_Sp_allFields 4 = .ok (.iconst 1, 1) := by decide +kernel
theorem d_Sp_allFields_5 : decode b_Sp_allFields 5 = .ok (.isub, 1) := by decide +kernel
theorem d_Sp_allFields_6 : decode b_Sp_allFields 6 = .ok (.ireturn, 1) := by decide +kernel
theorem d_JL_bitCount_0 : decode b_JL_bitCount 0 = .ok (.lload_n 0, 1) := by decide +kernel
theorem d_JL_bitCount_1 : decode b_JL_bitCount 1 = .ok (.lload_n 0, 1) := by decide +kernel
theorem d_JL_bitCount_2 : decode b_JL_bitCount 2 = .ok (.iconst 1, 1) := by decide +kernel
theorem d_JL_bitCount_3 : decode b_JL_bitCount 3 = .ok (.lushr, 1) := by decide +kernel
theorem d_JL_bitCount_4 : decode b_JL_bitCount 4 = .ok (.ldc2_w 314, 3) := by decide +kernel
theorem d_JL_bitCount_7 : decode b_JL_bitCount 7 = .ok (.land, 1) := by decide +kernel
theorem d_JL_bitCount_8 : decode b_JL_bitCount 8 = .ok (.lsub, 1) := by decide +kernel
theorem d_JL_bitCount_9 : decode b_JL_bitCount 9 = .ok (.lstore_n 0, 1) := by decide +kernel
theorem d_JL_bitCount_10 : decode b_JL_bitCount 10 = .ok (.lload_n 0, 1) := by decide +kernel
theorem d_JL_bitCount_11 : decode b_JL_bitCount 11 = .ok (.ldc2_w 316, 3) := by decide +kernel
theorem d_JL_bitCount_14 : decode b_JL_bitCount 14 = .ok (.land, 1) := by decide +kernel
theorem d_JL_bitCount_15 : decode b_JL_bitCount 15 = .ok (.lload_n 0, 1) := by decide +kernel
theorem d_JL_bitCount_16 : decode b_JL_bitCount 16 = .ok (.iconst 2, 1) := by decide +kernel
theorem d_JL_bitCount_17 : decode b_JL_bitCount 17 = .ok (.lushr, 1) := by decide +kernel
theorem d_JL_bitCount_18 : decode b_JL_bitCount 18 = .ok (.ldc2_w 316, 3) := by decide +kernel
theorem d_JL_bitCount_21 : decode b_JL_bitCount 21 = .ok (.land, 1) := by decide +kernel
theorem d_JL_bitCount_22 : decode b_JL_bitCount 22 = .ok (.ladd, 1) := by decide +kernel
theorem d_JL_bitCount_23 : decode b_JL_bitCount 23 = .ok (.lstore_n 0, 1) := by decide +kernel
theorem d_JL_bitCount_24 : decode b_JL_bitCount 24 = .ok (.lload_n 0, 1) := by decide +kernel
theorem d_JL_bitCount_25 : decode b_JL_bitCount 25 = .ok (.lload_n 0, 1) := by decide +kernel
theorem d_JL_bitCount_26 : decode b_JL_bitCount 26 = .ok (.iconst 4, 1) := by decide +kernel
theorem d_JL_bitCount_27 : decode b_JL_bitCount 27 = .ok (.lushr, 1) := by decide +kernel
theorem d_JL_bitCount_28 : decode b_JL_bitCount 28 = .ok (.ladd, 1) := by decide +kernel
theorem d_JL_bitCount_29 : decode b_JL_bitCount 29 = .ok (.ldc2_w 318, 3) := by decide +kernel
theorem d_JL_bitCount_32 : decode b_JL_bitCount 32 = .ok (.land, 1) := by decide +kernel
theorem d_JL_bitCount_33 : decode b_JL_bitCount 33 = .ok (.lstore_n 0, 1) := by decide +kernel
theorem d_JL_bitCount_34 : decode b_JL_bitCount 34 = .ok (.lload_n 0, 1) := by decide +kernel
theorem d_JL_bitCount_35 : decode b_JL_bitCount 35 = .ok (.lload_n 0, 1) := by decide +kernel
theorem d_JL_bitCount_36 : decode b_JL_bitCount 36 = .ok (.bipush 8, 2) := by decide +kernel
theorem d_JL_bitCount_38 : decode b_JL_bitCount 38 = .ok (.lushr, 1) := by decide +kernel
theorem d_JL_bitCount_39 : decode b_JL_bitCount 39 = .ok (.ladd, 1) := by decide +kernel
theorem d_JL_bitCount_40 : decode b_JL_bitCount 40 = .ok (.lstore_n 0, 1) := by decide +kernel
theorem d_JL_bitCount_41 : decode b_JL_bitCount 41 = .ok (.lload_n 0, 1) := by decide +kernel
theorem d_JL_bitCount_42 : decode b_JL_bitCount 42 = .ok (.lload_n 0, 1) := by decide +kernel
theorem d_JL_bitCount_43 : decode b_JL_bitCount 43 = .ok (.bipush 16, 2) := by decide +kernel
theorem d_JL_bitCount_45 : decode b_JL_bitCount 45 = .ok (.lushr, 1) := by decide +kernel
theorem d_JL_bitCount_46 : decode b_JL_bitCount 46 = .ok (.ladd, 1) := by decide +kernel
theorem d_JL_bitCount_47 : decode b_JL_bitCount 47 = .ok (.lstore_n 0, 1) := by decide +kernel
theorem d_JL_bitCount_48 : decode b_JL_bitCount 48 = .ok (.lload_n 0, 1) := by decide +kernel
theorem d_JL_bitCount_49 : decode b_JL_bitCount 49 = .ok (.lload_n 0, 1) := by decide +kernel
theorem d_JL_bitCount_50 : decode b_JL_bitCount 50 = .ok (.bipush 32, 2) := by decide +kernel
theorem d_JL_bitCount_52 : decode b_JL_bitCount 52 = .ok (.lushr, 1) := by decide +kernel
theorem d_JL_bitCount_53 : decode b_JL_bitCount 53 = .ok (.ladd, 1) := by decide +kernel
theorem d_JL_bitCount_54 : decode b_JL_bitCount 54 = .ok (.lstore_n 0, 1) := by decide +kernel
theorem d_JL_bitCount_55 : decode b_JL_bitCount 55 = .ok (.lload_n 0, 1) := by decide +kernel
theorem d_JL_bitCount_56 : decode b_JL_bitCount 56 = .ok (.l2i, 1) := by decide +kernel
theorem d_JL_bitCount_57 : decode b_JL_bitCount 57 = .ok (.bipush 127, 2) := by decide +kernel
theorem d_JL_bitCount_59 : decode b_JL_bitCount 59 = .ok (.iand, 1) := by decide +kernel
theorem d_JL_bitCount_60 : decode b_JL_bitCount 60 = .ok (.ireturn, 1) := by decide +kernel
theorem d_CR_takeSeeds_0 : decode b_CR_takeSeeds 0 = .ok (.iconst 0, 1) := by decide +kernel
theorem d_CR_takeSeeds_1 : decode b_CR_takeSeeds 1 = .ok (.istore_n 1, 1) := by decide +kernel
theorem d_CR_takeSeeds_2 : decode b_CR_takeSeeds 2 = .ok (.iload_n 1, 1) := by decide +kernel
theorem d_CR_takeSeeds_3 : decode b_CR_takeSeeds 3 = .ok (.aload_n 0, 1) := by decide +kernel
theorem d_CR_takeSeeds_4 : decode b_CR_takeSeeds 4 = .ok (.getfield 104, 3) := by decide +kernel
theorem d_CR_takeSeeds_7 : decode b_CR_takeSeeds 7 = .ok (.if_icmp .ge 39, 3) := by decide +kernel
theorem d_CR_takeSeeds_10 : decode b_CR_takeSeeds 10 = .ok (.aload_n 0, 1) := by decide +kernel
theorem d_CR_takeSeeds_11 : decode b_CR_takeSeeds 11 = .ok (.getfield 12, 3) := by decide +kernel
theorem d_CR_takeSeeds_14 : decode b_CR_takeSeeds 14 = .ok (.aload_n 0, 1) := by decide +kernel
theorem d_CR_takeSeeds_15 : decode b_CR_takeSeeds 15 = .ok (.getfield 30, 3) := by decide +kernel
theorem d_CR_takeSeeds_18 : decode b_CR_takeSeeds 18 = .ok (.iload_n 1, 1) := by decide +kernel
theorem d_CR_takeSeeds_19 : decode b_CR_takeSeeds 19 = .ok (.iaload, 1) := by decide +kernel
theorem d_CR_takeSeeds_20 : decode b_CR_takeSeeds 20 = .ok (.invokevirtual 126, 3) := by decide +kernel
theorem d_CR_takeSeeds_23 : decode b_CR_takeSeeds 23 = .ok (.iconst 1, 1) := by decide +kernel
theorem d_CR_takeSeeds_24 : decode b_CR_takeSeeds 24 = .ok (.if_icmp .lt 16, 3) := by decide +kernel
theorem d_CR_takeSeeds_27 : decode b_CR_takeSeeds 27 = .ok (.aload_n 0, 1) := by decide +kernel
theorem d_CR_takeSeeds_28 : decode b_CR_takeSeeds 28 = .ok (.getfield 39, 3) := by decide +kernel
theorem d_CR_takeSeeds_31 : decode b_CR_takeSeeds 31 = .ok (.aload_n 0, 1) := by decide +kernel
theorem d_CR_takeSeeds_32 : decode b_CR_takeSeeds 32 = .ok (.getfield 30, 3) := by decide +kernel
theorem d_CR_takeSeeds_35 : decode b_CR_takeSeeds 35 = .ok (.iload_n 1, 1) := by decide +kernel
theorem d_CR_takeSeeds_36 : decode b_CR_takeSeeds 36 = .ok (.iaload, 1) := by decide +kernel
theorem d_CR_takeSeeds_37 : decode b_CR_takeSeeds 37 = .ok (.invokevirtual 129, 3) := by decide +kernel
theorem d_CR_takeSeeds_40 : decode b_CR_takeSeeds 40 = .ok (.iinc 1 1, 3) := by decide +kernel
theorem d_CR_takeSeeds_43 : decode b_CR_takeSeeds 43 = .ok (.goto (-41), 3) := by decide +kernel
theorem d_CR_takeSeeds_46 : decode b_CR_takeSeeds 46 = .ok (.return_, 1) := by decide +kernel
theorem d_Sp_rank_0 : decode b_Sp_rank 0 = .ok (.iload_n 1, 1) := by decide +kernel
theorem d_Sp_rank_1 : decode b_Sp_rank 1 = .ok (.ifCond .lt 19, 3) := by decide +kernel
theorem d_Sp_rank_4 : decode b_Sp_rank 4 = .ok (.iload_n 1, 1) := by decide +kernel
theorem d_Sp_rank_5 : decode b_Sp_rank 5 = .ok (.aload_n 0, 1) := by decide +kernel
theorem d_Sp_rank_6 : decode b_Sp_rank 6 = .ok (.invokevirtual 65, 3) := by decide +kernel
theorem d_Sp_rank_9 : decode b_Sp_rank 9 = .ok (.if_icmp .ge 11, 3) := by decide +kernel
theorem d_Sp_rank_12 : decode b_Sp_rank 12 = .ok (.aload_n 0, 1) := by decide +kernel
theorem d_Sp_rank_13 : decode b_Sp_rank 13 = .ok (.iload_n 1, 1) := by decide +kernel
theorem d_Sp_rank_14 : decode b_Sp_rank 14 = .ok (.invokevirtual 69, 3) := by decide +kernel
theorem d_Sp_rank_17 : decode b_Sp_rank 17 = .ok (.ifCond .ne 5, 3) := by decide +kernel
theorem d_Sp_rank_20 : decode b_Sp_rank 20 = .ok (.iconst (-1), 1) := by decide +kernel
theorem d_Sp_rank_21 : decode b_Sp_rank 21 = .ok (.ireturn, 1) := by decide +kernel
theorem d_Sp_rank_22 : decode b_Sp_rank 22 = .ok (.aload_n 0, 1) := by decide +kernel
theorem d_Sp_rank_23 : decode b_Sp_rank 23 = .ok (.getfield 25, 3) := by decide +kernel
theorem d_Sp_rank_26 : decode b_Sp_rank 26 = .ok (.iload_n 1, 1) := by decide +kernel
theorem d_Sp_rank_27 : decode b_Sp_rank 27 = .ok (.invokevirtual 73, 3) := by decide +kernel
theorem d_Sp_rank_30 : decode b_Sp_rank 30 = .ok (.ifCond .eq 5, 3) := by decide +kernel
theorem d_Sp_rank_33 : decode b_Sp_rank 33 = .ok (.iconst 2, 1) := by decide +kernel
theorem d_Sp_rank_34 : decode b_Sp_rank 34 = .ok (.ireturn, 1) := by decide +kernel
theorem d_Sp_rank_35 : decode b_Sp_rank 35 = .ok (.aload_n 0, 1) := by decide +kernel
theorem d_Sp_rank_36 : decode b_Sp_rank 36 = .ok (.getfield 28, 3) := by decide +kernel
theorem d_Sp_rank_39 : decode b_Sp_rank 39 = .ok (.iload_n 1, 1) := by decide +kernel
theorem d_Sp_rank_40 : decode b_Sp_rank 40 = .ok (.invokevirtual 73, 3) := by decide +kernel
theorem d_Sp_rank_43 : decode b_Sp_rank 43 = .ok (.ifCond .eq 7, 3) := by decide +kernel
theorem d_Sp_rank_46 : decode b_Sp_rank 46 = .ok (.iconst 1, 1) := by decide +kernel
theorem d_Sp_rank_47 : decode b_Sp_rank 47 = .ok (.goto 4, 3) := by decide +kernel
theorem d_Sp_rank_50 : decode b_Sp_rank 50 = .ok (.iconst 0, 1) := by decide +kernel
theorem d_Sp_rank_51 : decode b_Sp_rank 51 = .ok (.ireturn, 1) := by decide +kernel
theorem d_Sp_hasAllValues_0 : decode b_Sp_hasAllValues 0 = .ok (.iconst 0, 1) := by decide +kernel
theorem d_Sp_hasAllValues_1 : decode b_Sp_hasAllValues 1 = .ok (.istore_n 2, 1) := by decide +kernel
theorem d_Sp_hasAllValues_2 : decode b_Sp_hasAllValues 2 = .ok (.iload_n 2, 1) := by decide +kernel
theorem d_Sp_hasAllValues_3 : decode b_Sp_hasAllValues 3 = .ok (.bipush 6, 2) := by decide +kernel
theorem d_Sp_hasAllValues_5 : decode b_Sp_hasAllValues 5 = .ok (.if_icmp .ge 25, 3) := by decide +kernel
theorem d_Sp_hasAllValues_8 : decode b_Sp_hasAllValues 8 = .ok (.iload_n 2, 1) := by decide +kernel
theorem d_Sp_hasAllValues_9 : decode b_Sp_hasAllValues 9 = .ok (.iload_n 1, 1) := by decide +kernel
theorem d_Sp_hasAllValues_10 : decode b_Sp_hasAllValues 10 = .ok (.invokestatic 76, 3) := by decide +kernel
theorem d_Sp_hasAllValues_13 : decode b_Sp_hasAllValues 13 = .ok (.aload_n 0, 1) := by decide +kernel
theorem d_Sp_hasAllValues_14 : decode b_Sp_hasAllValues 14 = .ok (.getfield 9, 3) := by decide +kernel
theorem d_Sp_hasAllValues_17 : decode b_Sp_hasAllValues 17 = .ok (.iload_n 2, 1) := by decide +kernel
theorem d_Sp_hasAllValues_18 : decode b_Sp_hasAllValues 18 = .ok (.iaload, 1) := by decide +kernel
theorem d_Sp_hasAllValues_19 : decode b_Sp_hasAllValues 19 = .ok (.if_icmp .lt 5, 3) := by decide +kernel
theorem d_Sp_hasAllValues_22 : decode b_Sp_hasAllValues 22 = .ok (.iconst 0, 1) := by decide +kernel
theorem d_Sp_hasAllValues_23 : decode b_Sp_hasAllValues 23 = .ok (.ireturn, 1) := by decide +kernel
theorem d_Sp_hasAllValues_24 : decode b_Sp_hasAllValues 24 = .ok (.iinc 2 1, 3) := by decide +kernel
theorem d_Sp_hasAllValues_27 : decode b_Sp_hasAllValues 27 = .ok (.goto (-25), 3) := by decide +kernel
theorem d_Sp_hasAllValues_30 : decode b_Sp_hasAllValues 30 = .ok (.iconst 1, 1) := by decide +kernel
theorem d_Sp_hasAllValues_31 : decode b_Sp_hasAllValues 31 = .ok (.ireturn, 1) := by decide +kernel
theorem d_Ge_take_0 : decode b_Ge_take 0 = .ok (.aload_n 0, 1) := by decide +kernel
theorem d_Ge_take_1 : decode b_Ge_take 1 = .ok (.getfield 25, 3) := by decide +kernel
theorem d_Ge_take_4 : decode b_Ge_take 4 = .ok (.getfield 89, 3) := by decide +kernel
theorem d_Ge_take_7 : decode b_Ge_take 7 = .ok (.iload_n 1, 1) := by decide +kernel
theorem d_Ge_take_8 : decode b_Ge_take 8 = .ok (.invokevirtual 101, 3) := by decide +kernel
theorem d_Ge_take_11 : decode b_Ge_take 11 = .ok (.ifCond .eq 13, 3) := by decide +kernel
theorem d_Ge_take_14 : decode b_Ge_take 14 = .ok (.aload_n 0, 1) := by decide +kernel
theorem d_Ge_take_15 : decode b_Ge_take 15 = .ok (.getfield 25, 3) := by decide +kernel
theorem d_Ge_take_18 : decode b_Ge_take 18 = .ok (.getfield 89, 3) := by decide +kernel
theorem d_Ge_take_21 : decode b_Ge_take 21 = .ok (.goto 10, 3) := by decide +kernel
theorem d_Ge_take_24 : decode b_Ge_take 24 = .ok (.aload_n 0, 1) := by decide +kernel
theorem d_Ge_take_25 : decode b_Ge_take 25 = .ok (.getfield 25, 3) := by decide +kernel
theorem d_Ge_take_28 : decode b_Ge_take 28 = .ok (.getfield 98, 3) := by decide +kernel
theorem d_Ge_take_31 : decode b_Ge_take 31 = .ok (.astore_n 2, 1) := by decide +kernel
theorem d_Ge_take_32 : decode b_Ge_take 32 = .ok (.aload_n 0, 1) := by decide +kernel
theorem d_Ge_take_33 : decode b_Ge_take 33 = .ok (.iload_n 1, 1) := by decide +kernel
end
section
theorem d_Ge_take_34 : decode b_Ge_take 34 = .ok (.invokevirtual 52, 3) := by decide +kernel
theorem d_Ge_take_37 : decode b_Ge_take 37 = .ok (.lstore_n 3, 1) := by decide +kernel
theorem d_Ge_take_38 : decode b_Ge_take 38 = .ok (.iconst 0, 1) := by decide +kernel
theorem d_Ge_take_39 : decode b_Ge_take 39 = .ok (.istore 5, 2) := by decide +kernel
theorem d_Ge_take_41 : decode b_Ge_take 41 = .ok (.iconst 1, 1) := by decide +kernel
theorem d_Ge_take_42 : decode b_Ge_take 42 = .ok (.istore 6, 2) := by decide +kernel
theorem d_Ge_take_44 : decode b_Ge_take 44 = .ok (.iload 6, 2) := by decide +kernel
theorem d_Ge_take_46 : decode b_Ge_take 46 = .ok (.bipush 64, 2) := by decide +kernel
theorem d_Ge_take_48 : decode b_Ge_take 48 = .ok (.if_icmp .ge 44, 3) := by decide +kernel
theorem d_Ge_take_51 : decode b_Ge_take 51 = .ok (.lload_n 3, 1) := by decide +kernel
theorem d_Ge_take_52 : decode b_Ge_take 52 = .ok (.iload 6, 2) := by decide +kernel
theorem d_Ge_take_54 : decode b_Ge_take 54 = .ok (.lushr, 1) := by decide +kernel
theorem d_Ge_take_55 : decode b_Ge_take 55 = .ok (.lconst 1, 1) := by decide +kernel
theorem d_Ge_take_56 : decode b_Ge_take 56 = .ok (.land, 1) := by decide +kernel
theorem d_Ge_take_57 : decode b_Ge_take 57 = .ok (.lconst 0, 1) := by decide +kernel
theorem d_Ge_take_58 : decode b_Ge_take 58 = .ok (.lcmp, 1) := by decide +kernel
theorem d_Ge_take_59 : decode b_Ge_take 59 = .ok (.ifCond .eq 27, 3) := by decide +kernel
theorem d_Ge_take_62 : decode b_Ge_take 62 = .ok (.aload_n 0, 1) := by decide +kernel
theorem d_Ge_take_63 : decode b_Ge_take 63 = .ok (.iload 6, 2) := by decide +kernel
theorem d_Ge_take_65 : decode b_Ge_take 65 = .ok (.iload_n 1, 1) := by decide +kernel
theorem d_Ge_take_66 : decode b_Ge_take 66 = .ok (.invokevirtual 112, 3) := by decide +kernel
theorem d_Ge_take_69 : decode b_Ge_take 69 = .ok (.ifCond .eq 17, 3) := by decide +kernel
theorem d_Ge_take_72 : decode b_Ge_take 72 = .ok (.aload_n 0, 1) := by decide +kernel
theorem d_Ge_take_73 : decode b_Ge_take 73 = .ok (.iload 6, 2) := by decide +kernel
theorem d_Ge_take_75 : decode b_Ge_take 75 = .ok (.invokestatic 67, 3) := by decide +kernel
theorem d_Ge_take_78 : decode b_Ge_take 78 = .ok (.iload_n 1, 1) := by decide +kernel
theorem d_Ge_take_79 : decode b_Ge_take 79 = .ok (.aload_n 2, 1) := by decide +kernel
theorem d_Ge_take_80 : decode b_Ge_take 80 = .ok (.invokevirtual 115, 3) := by decide +kernel
theorem d_Ge_take_83 : decode b_Ge_take 83 = .ok (.iinc 5 1, 3) := by decide +kernel
theorem d_Ge_take_86 : decode b_Ge_take 86 = .ok (.iinc 6 1, 3) := by decide +kernel
theorem d_Ge_take_89 : decode b_Ge_take 89 = .ok (.goto (-45), 3) := by decide +kernel
theorem d_Ge_take_92 : decode b_Ge_take 92 = .ok (.aload_n 0, 1) := by decide +kernel
theorem d_Ge_take_93 : decode b_Ge_take 93 = .ok (.getfield 19, 3) := by decide +kernel
theorem d_Ge_take_96 : decode b_Ge_take 96 = .ok (.aload_n 0, 1) := by decide +kernel
theorem d_Ge_take_97 : decode b_Ge_take 97 = .ok (.getfield 39, 3) := by decide +kernel
theorem d_Ge_take_100 : decode b_Ge_take 100 = .ok (.iload_n 1, 1) := by decide +kernel
theorem d_Ge_take_101 : decode b_Ge_take 101 = .ok (.iastore, 1) := by decide +kernel
theorem d_Ge_take_102 : decode b_Ge_take 102 = .ok (.aload_n 0, 1) := by decide +kernel
theorem d_Ge_take_103 : decode b_Ge_take 103 = .ok (.getfield 22, 3) := by decide +kernel
theorem d_Ge_take_106 : decode b_Ge_take 106 = .ok (.aload_n 0, 1) := by decide +kernel
theorem d_Ge_take_107 : decode b_Ge_take 107 = .ok (.getfield 39, 3) := by decide +kernel
theorem d_Ge_take_110 : decode b_Ge_take 110 = .ok (.iload 5, 2) := by decide +kernel
theorem d_Ge_take_112 : decode b_Ge_take 112 = .ok (.iastore, 1) := by decide +kernel
theorem d_Ge_take_113 : decode b_Ge_take 113 = .ok (.aload_n 0, 1) := by decide +kernel
theorem d_Ge_take_114 : decode b_Ge_take 114 = .ok (.dup, 1) := by decide +kernel
theorem d_Ge_take_115 : decode b_Ge_take 115 = .ok (.getfield 39, 3) := by decide +kernel
theorem d_Ge_take_118 : decode b_Ge_take 118 = .ok (.iconst 1, 1) := by decide +kernel
theorem d_Ge_take_119 : decode b_Ge_take 119 = .ok (.iadd, 1) := by decide +kernel
theorem d_Ge_take_120 : decode b_Ge_take 120 = .ok (.putfield 39, 3) := by decide +kernel
theorem d_Ge_take_123 : decode b_Ge_take 123 = .ok (.aload_n 0, 1) := by decide +kernel
theorem d_Ge_take_124 : decode b_Ge_take 124 = .ok (.dup, 1) := by decide +kernel
theorem d_Ge_take_125 : decode b_Ge_take 125 = .ok (.getfield 43, 3) := by decide +kernel
theorem d_Ge_take_128 : decode b_Ge_take 128 = .ok (.iload 5, 2) := by decide +kernel
theorem d_Ge_take_130 : decode b_Ge_take 130 = .ok (.isub, 1) := by decide +kernel
theorem d_Ge_take_131 : decode b_Ge_take 131 = .ok (.putfield 43, 3) := by decide +kernel
theorem d_Ge_take_134 : decode b_Ge_take 134 = .ok (.return_, 1) := by decide +kernel
theorem d_Ge_cover_0 : decode b_Ge_cover 0 = .ok (.lconst 1, 1) := by decide +kernel
theorem d_Ge_cover_1 : decode b_Ge_cover 1 = .ok (.iload_n 1, 1) := by decide +kernel
theorem d_Ge_cover_2 : decode b_Ge_cover 2 = .ok (.iload_n 2, 1) := by decide +kernel
theorem d_Ge_cover_3 : decode b_Ge_cover 3 = .ok (.invokestatic 119, 3) := by decide +kernel
theorem d_Ge_cover_6 : decode b_Ge_cover 6 = .ok (.lshl, 1) := by decide +kernel
theorem d_Ge_cover_7 : decode b_Ge_cover 7 = .ok (.lstore_n 3, 1) := by decide +kernel
theorem d_Ge_cover_8 : decode b_Ge_cover 8 = .ok (.aload_n 0, 1) := by decide +kernel
theorem d_Ge_cover_9 : decode b_Ge_cover 9 = .ok (.getfield 9, 3) := by decide +kernel
theorem d_Ge_cover_12 : decode b_Ge_cover 12 = .ok (.iload_n 1, 1) := by decide +kernel
theorem d_Ge_cover_13 : decode b_Ge_cover 13 = .ok (.laload, 1) := by decide +kernel
theorem d_Ge_cover_14 : decode b_Ge_cover 14 = .ok (.lload_n 3, 1) := by decide +kernel
theorem d_Ge_cover_15 : decode b_Ge_cover 15 = .ok (.land, 1) := by decide +kernel
theorem d_Ge_cover_16 : decode b_Ge_cover 16 = .ok (.lconst 0, 1) := by decide +kernel
theorem d_Ge_cover_17 : decode b_Ge_cover 17 = .ok (.lcmp, 1) := by decide +kernel
theorem d_Ge_cover_18 : decode b_Ge_cover 18 = .ok (.ifCond .ne 7, 3) := by decide +kernel
theorem d_Ge_cover_21 : decode b_Ge_cover 21 = .ok (.iconst 1, 1) := by decide +kernel
theorem d_Ge_cover_22 : decode b_Ge_cover 22 = .ok (.goto 4, 3) := by decide +kernel
theorem d_Ge_cover_25 : decode b_Ge_cover 25 = .ok (.iconst 0, 1) := by decide +kernel
theorem d_Ge_cover_26 : decode b_Ge_cover 26 = .ok (.istore 5, 2) := by decide +kernel
theorem d_Ge_cover_28 : decode b_Ge_cover 28 = .ok (.aload_n 0, 1) := by decide +kernel
theorem d_Ge_cover_29 : decode b_Ge_cover 29 = .ok (.getfield 9, 3) := by decide +kernel
theorem d_Ge_cover_32 : decode b_Ge_cover 32 = .ok (.iload_n 1, 1) := by decide +kernel
theorem d_Ge_cover_33 : decode b_Ge_cover 33 = .ok (.dup2, 1) := by decide +kernel
theorem d_Ge_cover_34 : decode b_Ge_cover 34 = .ok (.laload, 1) := by decide +kernel
theorem d_Ge_cover_35 : decode b_Ge_cover 35 = .ok (.lload_n 3, 1) := by decide +kernel
theorem d_Ge_cover_36 : decode b_Ge_cover 36 = .ok (.lor, 1) := by decide +kernel
theorem d_Ge_cover_37 : decode b_Ge_cover 37 = .ok (.lastore, 1) := by decide +kernel
theorem d_Ge_cover_38 : decode b_Ge_cover 38 = .ok (.iload 5, 2) := by decide +kernel
theorem d_Ge_cover_40 : decode b_Ge_cover 40 = .ok (.ireturn, 1) := by decide +kernel
theorem d_Ge_pack_0 : decode b_Ge_pack 0 = .ok (.iconst 0, 1) := by decide +kernel
theorem d_Ge_pack_1 : decode b_Ge_pack 1 = .ok (.istore_n 2, 1) := by decide +kernel
theorem d_Ge_pack_2 : decode b_Ge_pack 2 = .ok (.iconst 0, 1) := by decide +kernel
theorem d_Ge_pack_3 : decode b_Ge_pack 3 = .ok (.istore_n 3, 1) := by decide +kernel
theorem d_Ge_pack_4 : decode b_Ge_pack 4 = .ok (.iload_n 3, 1) := by decide +kernel
theorem d_Ge_pack_5 : decode b_Ge_pack 5 = .ok (.bipush 6, 2) := by decide +kernel
theorem d_Ge_pack_7 : decode b_Ge_pack 7 = .ok (.if_icmp .ge 27, 3) := by decide +kernel
theorem d_Ge_pack_10 : decode b_Ge_pack 10 = .ok (.iload_n 0, 1) := by decide +kernel
theorem d_Ge_pack_11 : decode b_Ge_pack 11 = .ok (.iload_n 3, 1) := by decide +kernel
theorem d_Ge_pack_12 : decode b_Ge_pack 12 = .ok (.ishr, 1) := by decide +kernel
theorem d_Ge_pack_13 : decode b_Ge_pack 13 = .ok (.iconst 1, 1) := by decide +kernel
theorem d_Ge_pack_14 : decode b_Ge_pack 14 = .ok (.iand, 1) := by decide +kernel
theorem d_Ge_pack_15 : decode b_Ge_pack 15 = .ok (.ifCond .eq 13, 3) := by decide +kernel
theorem d_Ge_pack_18 : decode b_Ge_pack 18 = .ok (.iload_n 2, 1) := by decide +kernel
theorem d_Ge_pack_19 : decode b_Ge_pack 19 = .ok (.iconst 2, 1) := by decide +kernel
theorem d_Ge_pack_20 : decode b_Ge_pack 20 = .ok (.ishl, 1) := by decide +kernel
theorem d_Ge_pack_21 : decode b_Ge_pack 21 = .ok (.iload_n 3, 1) := by decide +kernel
theorem d_Ge_pack_22 : decode b_Ge_pack 22 = .ok (.iload_n 1, 1) := by decide +kernel
theorem d_Ge_pack_23 : decode b_Ge_pack 23 = .ok (.invokestatic 122, 3) := by decide +kernel
theorem d_Ge_pack_26 : decode b_Ge_pack 26 = .ok (.ior, 1) := by decide +kernel
theorem d_Ge_pack_27 : decode b_Ge_pack 27 = .ok (.istore_n 2, 1) := by decide +kernel
theorem d_Ge_pack_28 : decode b_Ge_pack 28 = .ok (.iinc 3 1, 3) := by decide +kernel
theorem d_Ge_pack_31 : decode b_Ge_pack 31 = .ok (.goto (-27), 3) := by decide +kernel
theorem d_Ge_pack_34 : decode b_Ge_pack 34 = .ok (.iload_n 2, 1) := by decide +kernel
theorem d_Ge_pack_35 : decode b_Ge_pack 35 = .ok (.ireturn, 1) := by decide +kernel
theorem d_Ge_lowerGains_0 : decode b_Ge_lowerGains 0 = .ok (.aload_n 0, 1) := by decide +kernel
theorem d_Ge_lowerGains_1 : decode b_Ge_lowerGains 1 = .ok (.getfield 25, 3) := by decide +kernel
theorem d_Ge_lowerGains_4 : decode b_Ge_lowerGains 4 = .ok (.invokevirtual 105, 3) := by decide +kernel
theorem d_Ge_lowerGains_7 : decode b_Ge_lowerGains 7 = .ok (.iload_n 1, 1) := by decide +kernel
theorem d_Ge_lowerGains_8 : decode b_Ge_lowerGains 8 = .ok (.iconst (-1), 1) := by decide +kernel
theorem d_Ge_lowerGains_9 : decode b_Ge_lowerGains 9 = .ok (.ixor, 1) := by decide +kernel
theorem d_Ge_lowerGains_10 : decode b_Ge_lowerGains 10 = .ok (.iand, 1) := by decide +kernel
theorem d_Ge_lowerGains_11 : decode b_Ge_lowerGains 11 = .ok (.istore 4, 2) := by decide +kernel
theorem d_Ge_lowerGains_13 : decode b_Ge_lowerGains 13 = .ok (.iconst 1, 1) := by decide +kernel
theorem d_Ge_lowerGains_14 : decode b_Ge_lowerGains 14 = .ok (.iload 4, 2) := by decide +kernel
theorem d_Ge_lowerGains_16 : decode b_Ge_lowerGains 16 = .ok (.invokestatic 74, 3) := by decide +kernel
theorem d_Ge_lowerGains_19 : decode b_Ge_lowerGains 19 = .ok (.ishl, 1) := by decide +kernel
theorem d_Ge_lowerGains_20 : decode b_Ge_lowerGains 20 = .ok (.istore 5, 2) := by decide +kernel
theorem d_Ge_lowerGains_22 : decode b_Ge_lowerGains 22 = .ok (.iconst 0, 1) := by decide +kernel
theorem d_Ge_lowerGains_23 : decode b_Ge_lowerGains 23 = .ok (.istore 6, 2) := by decide +kernel
theorem d_Ge_lowerGains_25 : decode b_Ge_lowerGains 25 = .ok (.iconst 0, 1) := by decide +kernel
theorem d_Ge_lowerGains_26 : decode b_Ge_lowerGains 26 = .ok (.istore 7, 2) := by decide +kernel
theorem d_Ge_lowerGains_28 : decode b_Ge_lowerGains 28 = .ok (.iload 7, 2) := by decide +kernel
theorem d_Ge_lowerGains_30 : decode b_Ge_lowerGains 30 = .ok (.iload 5, 2) := by decide +kernel
theorem d_Ge_lowerGains_32 : decode b_Ge_lowerGains 32 = .ok (.if_icmp .ge 46, 3) := by decide +kernel
theorem d_Ge_lowerGains_35 : decode b_Ge_lowerGains 35 = .ok (.iload_n 2, 1) := by decide +kernel
theorem d_Ge_lowerGains_36 : decode b_Ge_lowerGains 36 = .ok (.iload_n 1, 1) := by decide +kernel
theorem d_Ge_lowerGains_37 : decode b_Ge_lowerGains 37 = .ok (.iand, 1) := by decide +kernel
theorem d_Ge_lowerGains_38 : decode b_Ge_lowerGains 38 = .ok (.iload 6, 2) := by decide +kernel
theorem d_Ge_lowerGains_40 : decode b_Ge_lowerGains 40 = .ok (.ior, 1) := by decide +kernel
theorem d_Ge_lowerGains_41 : decode b_Ge_lowerGains 41 = .ok (.istore 8, 2) := by decide +kernel
theorem d_Ge_lowerGains_43 : decode b_Ge_lowerGains 43 = .ok (.aload_n 3, 1) := by decide +kernel
theorem d_Ge_lowerGains_44 : decode b_Ge_lowerGains 44 = .ok (.iload 8, 2) := by decide +kernel
theorem d_Ge_lowerGains_46 : decode b_Ge_lowerGains 46 = .ok (.invokevirtual 101, 3) := by decide +kernel
theorem d_Ge_lowerGains_49 : decode b_Ge_lowerGains 49 = .ok (.ifCond .eq 14, 3) := by decide +kernel
theorem d_Ge_lowerGains_52 : decode b_Ge_lowerGains 52 = .ok (.aload_n 0, 1) := by decide +kernel
theorem d_Ge_lowerGains_53 : decode b_Ge_lowerGains 53 = .ok (.getfield 15, 3) := by decide +kernel
theorem d_Ge_lowerGains_56 : decode b_Ge_lowerGains 56 = .ok (.iload 8, 2) := by decide +kernel
theorem d_Ge_lowerGains_58 : decode b_Ge_lowerGains 58 = .ok (.dup2, 1) := by decide +kernel
theorem d_Ge_lowerGains_59 : decode b_Ge_lowerGains 59 = .ok (.iaload, 1) := by decide +kernel
theorem d_Ge_lowerGains_60 : decode b_Ge_lowerGains 60 = .ok (.iconst 1, 1) := by decide +kernel
theorem d_Ge_lowerGains_61 : decode b_Ge_lowerGains 61 = .ok (.isub, 1) := by decide +kernel
theorem d_Ge_lowerGains_62 : decode b_Ge_lowerGains 62 = .ok (.iastore, 1) := by decide +kernel
theorem d_Ge_lowerGains_63 : decode b_Ge_lowerGains 63 = .ok (.iload 4, 2) := by decide +kernel
theorem d_Ge_lowerGains_65 : decode b_Ge_lowerGains 65 = .ok (.iload 6, 2) := by decide +kernel
theorem d_Ge_lowerGains_67 : decode b_Ge_lowerGains 67 = .ok (.invokestatic 82, 3) := by decide +kernel
theorem d_Ge_lowerGains_70 : decode b_Ge_lowerGains 70 = .ok (.istore 6, 2) := by decide +kernel
theorem d_Ge_lowerGains_72 : decode b_Ge_lowerGains 72 = .ok (.iinc 7 1, 3) := by decide +kernel
theorem d_Ge_lowerGains_75 : decode b_Ge_lowerGains 75 = .ok (.goto (-47), 3) := by decide +kernel
theorem d_Ge_lowerGains_78 : decode b_Ge_lowerGains 78 = .ok (.return_, 1) := by decide +kernel
theorem d_CR_next_0 : decode b_CR_next 0 = .ok (.aload_n 0, 1) := by decide +kernel
theorem d_CR_next_1 : decode b_CR_next 1 = .ok (.getfield 43, 3) := by decide +kernel
theorem d_CR_next_4 : decode b_CR_next 4 = .ok (.ifCond .ne 5, 3) := by decide +kernel
theorem d_CR_next_7 : decode b_CR_next 7 = .ok (.iconst (-1), 1) := by decide +kernel
theorem d_CR_next_8 : decode b_CR_next 8 = .ok (.ireturn, 1) := by decide +kernel
theorem d_CR_next_9 : decode b_CR_next 9 = .ok (.aload_n 0, 1) := by decide +kernel
theorem d_CR_next_10 : decode b_CR_next 10 = .ok (.getfield 39, 3) := by decide +kernel
theorem d_CR_next_13 : decode b_CR_next 13 = .ok (.invokevirtual 132, 3) := by decide +kernel
theorem d_CR_next_16 : decode b_CR_next 16 = .ok (.istore_n 1, 1) := by decide +kernel
theorem d_CR_next_17 : decode b_CR_next 17 = .ok (.iload_n 1, 1) := by decide +kernel
theorem d_CR_next_18 : decode b_CR_next 18 = .ok (.iconst (-1), 1) := by decide +kernel
theorem d_CR_next_19 : decode b_CR_next 19 = .ok (.if_icmp .eq 13, 3) := by decide +kernel
theorem d_CR_next_22 : decode b_CR_next 22 = .ok (.aload_n 0, 1) := by decide +kernel
theorem d_CR_next_23 : decode b_CR_next 23 = .ok (.getfield 39, 3) := by decide +kernel
theorem d_CR_next_26 : decode b_CR_next 26 = .ok (.invokevirtual 135, 3) := by decide +kernel
theorem d_CR_next_29 : decode b_CR_next 29 = .ok (.ifCond .eq 6, 3) := by decide +kernel
theorem d_CR_next_32 : decode b_CR_next 32 = .ok (.bipush (-2), 2) := by decide +kernel
theorem d_CR_next_34 : decode b_CR_next 34 = .ok (.ireturn, 1) := by decide +kernel
theorem d_CR_next_35 : decode b_CR_next 35 = .ok (.aload_n 0, 1) := by decide +kernel
theorem d_CR_next_36 : decode b_CR_next 36 = .ok (.getfield 39, 3) := by decide +kernel
theorem d_CR_next_39 : decode b_CR_next 39 = .ok (.iload_n 1, 1) := by decide +kernel
theorem d_CR_next_40 : decode b_CR_next 40 = .ok (.invokevirtual 129, 3) := by decide +kernel
theorem d_CR_next_43 : decode b_CR_next 43 = .ok (.iload_n 1, 1) := by decide +kernel
theorem d_CR_next_44 : decode b_CR_next 44 = .ok (.ireturn, 1) := by decide +kernel
theorem d_Ge_best_0 : decode b_Ge_best 0 = .ok (.aload_n 0, 1) := by decide +kernel
theorem d_Ge_best_1 : decode b_Ge_best 1 = .ok (.aload_n 0, 1) := by decide +kernel
theorem d_Ge_best_2 : decode b_Ge_best 2 = .ok (.getfield 25, 3) := by decide +kernel
theorem d_Ge_best_5 : decode b_Ge_best 5 = .ok (.getfield 89, 3) := by decide +kernel
theorem d_Ge_best_8 : decode b_Ge_best 8 = .ok (.invokevirtual 108, 3) := by decide +kernel
theorem d_Ge_best_11 : decode b_Ge_best 11 = .ok (.istore_n 1, 1) := by decide +kernel
theorem d_Ge_best_12 : decode b_Ge_best 12 = .ok (.iload_n 1, 1) := by decide +kernel
theorem d_Ge_best_13 : decode b_Ge_best 13 = .ok (.iconst (-1), 1) := by decide +kernel
theorem d_Ge_best_14 : decode b_Ge_best 14 = .ok (.if_icmp .ne 17, 3) := by decide +kernel
theorem d_Ge_best_17 : decode b_Ge_best 17 = .ok (.aload_n 0, 1) := by decide +kernel
theorem d_Ge_best_18 : decode b_Ge_best 18 = .ok (.aload_n 0, 1) := by decide +kernel
theorem d_Ge_best_19 : decode b_Ge_best 19 = .ok (.getfield 25, 3) := by decide +kernel
theorem d_Ge_best_22 : decode b_Ge_best 22 = .ok (.getfield 98, 3) := by decide +kernel
theorem d_Ge_best_25 : decode b_Ge_best 25 = .ok (.invokevirtual 108, 3) := by decide +kernel
theorem d_Ge_best_28 : decode b_Ge_best 28 = .ok (.goto 4, 3) := by decide +kernel
theorem d_Ge_best_31 : decode b_Ge_best 31 = .ok (.iload_n 1, 1) := by decide +kernel
theorem d_Ge_best_32 : decode b_Ge_best 32 = .ok (.ireturn, 1) := by decide +kernel
theorem d_Ge_bestOf_0 : decode b_Ge_bestOf 0 = .ok (.iconst (-1), 1) := by decide +kernel
theorem d_Ge_bestOf_1 : decode b_Ge_bestOf 1 = .ok (.istore_n 2, 1) := by decide +kernel
theorem d_Ge_bestOf_2 : decode b_Ge_bestOf 2 = .ok (.iconst 0, 1) := by decide +kernel
theorem d_Ge_bestOf_3 : decode b_Ge_bestOf 3 = .ok (.istore_n 3, 1) := by decide +kernel
theorem d_Ge_bestOf_4 : decode b_Ge_bestOf 4 = .ok (.aload_n 0, 1) := by decide +kernel
theorem d_Ge_bestOf_5 : decode b_Ge_bestOf 5 = .ok (.getfield 25, 3) := by decide +kernel
theorem d_Ge_bestOf_8 : decode b_Ge_bestOf 8 = .ok (.invokevirtual 46, 3) := by decide +kernel
theorem d_Ge_bestOf_11 : decode b_Ge_bestOf 11 = .ok (.istore 4, 2) := by decide +kernel
theorem d_Ge_bestOf_13 : decode b_Ge_bestOf 13 = .ok (.iconst 0, 1) := by decide +kernel
theorem d_Ge_bestOf_14 : decode b_Ge_bestOf 14 = .ok (.istore 5, 2) := by decide +kernel
theorem d_Ge_bestOf_16 : decode b_Ge_bestOf 16 = .ok (.iload 5, 2) := by decide +kernel
theorem d_Ge_bestOf_18 : decode b_Ge_bestOf 18 = .ok (.iload 4, 2) := by decide +kernel
theorem d_Ge_bestOf_20 : decode b_Ge_bestOf 20 = .ok (.if_icmp .ge 40, 3) := by decide +kernel
theorem d_Ge_bestOf_23 : decode b_Ge_bestOf 23 = .ok (.aload_n 0, 1) := by decide +kernel
theorem d_Ge_bestOf_24 : decode b_Ge_bestOf 24 = .ok (.getfield 15, 3) := by decide +kernel
theorem d_Ge_bestOf_27 : decode b_Ge_bestOf 27 = .ok (.iload 5, 2) := by decide +kernel
theorem d_Ge_bestOf_29 : decode b_Ge_bestOf 29 = .ok (.iaload, 1) := by decide +kernel
theorem d_Ge_bestOf_30 : decode b_Ge_bestOf 30 = .ok (.iload_n 3, 1) := by decide +kernel
theorem d_Ge_bestOf_31 : decode b_Ge_bestOf 31 = .ok (.if_icmp .le 23, 3) := by decide +kernel
theorem d_Ge_bestOf_34 : decode b_Ge_bestOf 34 = .ok (.aload_n 1, 1) := by decide +kernel
theorem d_Ge_bestOf_35 : decode b_Ge_bestOf 35 = .ok (.iload 5, 2) := by decide +kernel
theorem d_Ge_bestOf_37 : decode b_Ge_bestOf 37 = .ok (.invokevirtual 101, 3) := by decide +kernel
theorem d_Ge_bestOf_40 : decode b_Ge_bestOf 40 = .ok (.ifCond .eq 14, 3) := by decide +kernel
theorem d_Ge_bestOf_43 : decode b_Ge_bestOf 43 = .ok (.aload_n 0, 1) := by decide +kernel
theorem d_Ge_bestOf_44 : decode b_Ge_bestOf 44 = .ok (.getfield 15, 3) := by decide +kernel
theorem d_Ge_bestOf_47 : decode b_Ge_bestOf 47 = .ok (.iload 5, 2) := by decide +kernel
theorem d_Ge_bestOf_49 : decode b_Ge_bestOf 49 = .ok (.iaload, 1) := by decide +kernel
theorem d_Ge_bestOf_50 : decode b_Ge_bestOf 50 = .ok (.istore_n 3, 1) := by decide +kernel
theorem d_Ge_bestOf_51 : decode b_Ge_bestOf 51 = .ok (.iload 5, 2) := by decide +kernel
theorem d_Ge_bestOf_53 : decode b_Ge_bestOf 53 = .ok (.istore_n 2, 1) := by decide +kernel
theorem d_Ge_bestOf_54 : decode b_Ge_bestOf 54 = .ok (.iinc 5 1, 3) := by decide +kernel
theorem d_Ge_bestOf_57 : decode b_Ge_bestOf 57 = .ok (.goto (-41), 3) := by decide +kernel
theorem d_Ge_bestOf_60 : decode b_Ge_bestOf 60 = .ok (.iload_n 2, 1) := by decide +kernel
theorem d_Ge_bestOf_61 : decode b_Ge_bestOf 61 = .ok (.ireturn, 1) := by decide +kernel
theorem d_Ge_isFull_0 : decode b_Ge_isFull 0 = .ok (.aload_n 0, 1) := by decide +kernel
theorem d_Ge_isFull_1 : decode b_Ge_isFull 1 = .ok (.getfield 39, 3) := by decide +kernel
theorem d_Ge_isFull_4 : decode b_Ge_isFull 4 = .ok (.sipush 520, 3) := by decide +kernel
theorem d_Ge_isFull_7 : decode b_Ge_isFull 7 = .ok (.if_icmp .ne 7, 3) := by decide +kernel
theorem d_Ge_isFull_10 : decode b_Ge_isFull 10 = .ok (.iconst 1, 1) := by decide +kernel
theorem d_Ge_isFull_11 : decode b_Ge_isFull 11 = .ok (.goto 4, 3) := by decide +kernel
theorem d_Ge_isFull_14 : decode b_Ge_isFull 14 = .ok (.iconst 0, 1) := by decide +kernel
theorem d_Ge_isFull_15 : decode b_Ge_isFull 15 = .ok (.ireturn, 1) := by decide +kernel
theorem d_CR_end_0 : decode b_CR_end 0 = .ok (.aload_n 0, 1) := by decide +kernel
theorem d_CR_end_1 : decode b_CR_end 1 = .ok (.getfield 43, 3) := by decide +kernel
theorem d_CR_end_4 : decode b_CR_end 4 = .ok (.istore_n 1, 1) := by decide +kernel
theorem d_CR_end_5 : decode b_CR_end 5 = .ok (.aload_n 0, 1) := by decide +kernel
theorem d_CR_end_6 : decode b_CR_end 6 = .ok (.iconst 0, 1) := by decide +kernel
theorem d_CR_end_7 : decode b_CR_end 7 = .ok (.putfield 43, 3) := by decide +kernel
theorem d_CR_end_10 : decode b_CR_end 10 = .ok (.iload_n 1, 1) := by decide +kernel
theorem d_CR_end_11 : decode b_CR_end 11 = .ok (.ireturn, 1) := by decide +kernel
theorem d_CR_rows_0 : decode b_CR_rows 0 = .ok (.aload_n 0, 1) := by decide +kernel
theorem d_CR_rows_1 : decode b_CR_rows 1 = .ok (.getfield 43, 3) := by decide +kernel
theorem d_CR_rows_4 : decode b_CR_rows 4 = .ok (.ifCond .eq 13, 3) := by decide +kernel
theorem d_CR_rows_7 : decode b_CR_rows 7 = .ok (.aload_n 0, 1) := by decide +kernel
theorem d_CR_rows_8 : decode b_CR_rows 8 = .ok (.getfield 39, 3) := by decide +kernel
theorem d_CR_rows_11 : decode b_CR_rows 11 = .ok (.getfield 138, 3) := by decide +kernel
theorem d_CR_rows_14 : decode b_CR_rows 14 = .ok (.goto 4, 3) := by decide +kernel
theorem d_CR_rows_17 : decode b_CR_rows 17 = .ok (.iconst 0, 1) := by decide +kernel
theorem d_CR_rows_18 : decode b_CR_rows 18 = .ok (.ireturn, 1) := by decide +kernel
theorem d_CR_row_0 : decode b_CR_row 0 = .ok (.aload_n 0, 1) := by decide +kernel
theorem d_CR_row_1 : decode b_CR_row 1 = .ok (.iload_n 1, 1) := by decide +kernel
theorem d_CR_row_2 : decode b_CR_row 2 = .ok (.invokevirtual 141, 3) := by decide +kernel
theorem d_CR_row_5 : decode b_CR_row 5 = .ok (.ifCond .eq 15, 3) := by decide +kernel
theorem d_CR_row_8 : decode b_CR_row 8 = .ok (.aload_n 0, 1) := by decide +kernel
theorem d_CR_row_9 : decode b_CR_row 9 = .ok (.getfield 39, 3) := by decide +kernel
theorem d_CR_row_12 : decode b_CR_row 12 = .ok (.getfield 144, 3) := by decide +kernel
theorem d_CR_row_15 : decode b_CR_row 15 = .ok (.iload_n 1, 1) := by decide +kernel
theorem d_CR_row_16 : decode b_CR_row 16 = .ok (.iaload, 1) := by decide +kernel
theorem d_CR_row_17 : decode b_CR_row 17 = .ok (.goto 4, 3) := by decide +kernel
theorem d_CR_row_20 : decode b_CR_row 20 = .ok (.iconst (-1), 1) := by decide +kernel
theorem d_CR_row_21 : decode b_CR_row 21 = .ok (.ireturn, 1) := by decide +kernel
theorem d_CR_isTaken_0 : decode b_CR_isTaken 0 = .ok (.aload_n 0, 1) := by decide +kernel
theorem d_CR_isTaken_1 : decode b_CR_isTaken 1 = .ok (.getfield 43, 3) := by decide +kernel
theorem d_CR_isTaken_4 : decode b_CR_isTaken 4 = .ok (.ifCond .eq 22, 3) := by decide +kernel
theorem d_CR_isTaken_7 : decode b_CR_isTaken 7 = .ok (.iload_n 1, 1) := by decide +kernel
theorem d_CR_isTaken_8 : decode b_CR_isTaken 8 = .ok (.ifCond .lt 18, 3) := by decide +kernel
theorem d_CR_isTaken_11 : decode b_CR_isTaken 11 = .ok (.iload_n 1, 1) := by decide +kernel
theorem d_CR_isTaken_12 : decode b_CR_isTaken 12 = .ok (.aload_n 0, 1) := by decide +kernel
theorem d_CR_isTaken_13 : decode b_CR_isTaken 13 = .ok (.getfield 39, 3) := by decide +kernel
theorem d_CR_isTaken_16 : decode b_CR_isTaken 16 = .ok (.getfield 138, 3) := by decide +kernel
theorem d_CR_isTaken_19 : decode b_CR_isTaken 19 = .ok (.if_icmp .ge 7, 3) := by decide +kernel
theorem d_CR_isTaken_22 : decode b_CR_isTaken 22 = .ok (.iconst 1, 1) := by decide +kernel
theorem d_CR_isTaken_23 : decode b_CR_isTaken 23 = .ok (.goto 4, 3) := by decide +kernel
theorem d_CR_isTaken_26 : decode b_CR_isTaken 26 = .ok (.iconst 0, 1) := by decide +kernel
theorem d_CR_isTaken_27 : decode b_CR_isTaken 27 = .ok (.ireturn, 1) := by decide +kernel
theorem d_CR_gained_0 : decode b_CR_gained 0 = .ok (.aload_n 0, 1) := by decide +kernel
theorem d_CR_gained_1 : decode b_CR_gained 1 = .ok (.iload_n 1, 1) := by decide +kernel
theorem d_CR_gained_2 : decode b_CR_gained 2 = .ok (.invokevirtual 141, 3) := by decide +kernel
theorem d_CR_gained_5 : decode b_CR_gained 5 = .ok (.ifCond .eq 15, 3) := by decide +kernel
theorem d_CR_gained_8 : decode b_CR_gained 8 = .ok (.aload_n 0, 1) := by decide +kernel
theorem d_CR_gained_9 : decode b_CR_gained 9 = .ok (.getfield 39, 3) := by decide +kernel
theorem d_CR_gained_12 : decode b_CR_gained 12 = .ok (.getfield 147, 3) := by decide +kernel
theorem d_CR_gained_15 : decode b_CR_gained 15 = .ok (.iload_n 1, 1) := by decide +kernel
theorem d_CR_gained_16 : decode b_CR_gained 16 = .ok (.iaload, 1) := by decide +kernel
theorem d_CR_gained_17 : decode b_CR_gained 17 = .ok (.goto 4, 3) := by decide +kernel
theorem d_CR_gained_20 : decode b_CR_gained 20 = .ok (.iconst (-1), 1) := by decide +kernel
theorem d_CR_gained_21 : decode b_CR_gained 21 = .ok (.ireturn, 1) := by decide +kernel
theorem d_CR_left_0 : decode b_CR_left 0 = .ok (.aload_n 0, 1) := by decide +kernel
theorem d_CR_left_1 : decode b_CR_left 1 = .ok (.getfield 43, 3) := by decide +kernel
theorem d_CR_left_4 : decode b_CR_left 4 = .ok (.ifCond .eq 13, 3) := by decide +kernel
theorem d_CR_left_7 : decode b_CR_left 7 = .ok (.aload_n 0, 1) := by decide +kernel
theorem d_CR_left_8 : decode b_CR_left 8 = .ok (.getfield 39, 3) := by decide +kernel
theorem d_CR_left_11 : decode b_CR_left 11 = .ok (.getfield 150, 3) := by decide +kernel
theorem d_CR_left_14 : decode b_CR_left 14 = .ok (.goto 4, 3) := by decide +kernel
theorem d_CR_left_17 : decode b_CR_left 17 = .ok (.iconst (-1), 1) := by decide +kernel
theorem d_CR_left_18 : decode b_CR_left 18 = .ok (.ireturn, 1) := by decide +kernel
theorem d_CR_gain_0 : decode b_CR_gain 0 = .ok (.aload_n 0, 1) := by decide +kernel
theorem d_CR_gain_1 : decode b_CR_gain 1 = .ok (.getfield 43, 3) := by decide +kernel
theorem d_CR_gain_4 : decode b_CR_gain 4 = .ok (.ifCond .ne 5, 3) := by decide +kernel
theorem d_CR_gain_7 : decode b_CR_gain 7 = .ok (.iconst (-1), 1) := by decide +kernel
theorem d_CR_gain_8 : decode b_CR_gain 8 = .ok (.ireturn, 1) := by decide +kernel
theorem d_CR_gain_9 : decode b_CR_gain 9 = .ok (.aload_n 0, 1) := by decide +kernel
theorem d_CR_gain_10 : decode b_CR_gain 10 = .ok (.getfield 12, 3) := by decide +kernel
theorem d_CR_gain_13 : decode b_CR_gain 13 = .ok (.iload_n 1, 1) := by decide +kernel
theorem d_CR_gain_14 : decode b_CR_gain 14 = .ok (.invokevirtual 126, 3) := by decide +kernel
theorem d_CR_gain_17 : decode b_CR_gain 17 = .ok (.iconst 1, 1) := by decide +kernel
theorem d_CR_gain_18 : decode b_CR_gain 18 = .ok (.if_icmp .lt 15, 3) := by decide +kernel
theorem d_CR_gain_21 : decode b_CR_gain 21 = .ok (.aload_n 0, 1) := by decide +kernel
theorem d_CR_gain_22 : decode b_CR_gain 22 = .ok (.getfield 39, 3) := by decide +kernel
theorem d_CR_gain_25 : decode b_CR_gain 25 = .ok (.getfield 153, 3) := by decide +kernel
theorem d_CR_gain_28 : decode b_CR_gain 28 = .ok (.iload_n 1, 1) := by decide +kernel
theorem d_CR_gain_29 : decode b_CR_gain 29 = .ok (.iaload, 1) := by decide +kernel
theorem d_CR_gain_30 : decode b_CR_gain 30 = .ok (.goto 5, 3) := by decide +kernel
theorem d_CR_gain_33 : decode b_CR_gain 33 = .ok (.bipush (-2), 2) := by decide +kernel
theorem d_CR_gain_35 : decode b_CR_gain 35 = .ok (.ireturn, 1) := by decide +kernel
theorem d_CR_kind_0 : decode b_CR_kind 0 = .ok (.aload_n 0, 1) := by decide +kernel
theorem d_CR_kind_1 : decode b_CR_kind 1 = .ok (.getfield 12, 3) := by decide +kernel
theorem d_CR_kind_4 : decode b_CR_kind 4 = .ok (.getfield 47, 3) := by decide +kernel
theorem d_CR_kind_7 : decode b_CR_kind 7 = .ok (.ifCond .ne 7, 3) := by decide +kernel
theorem d_CR_kind_10 : decode b_CR_kind 10 = .ok (.iconst (-1), 1) := by decide +kernel
theorem d_CR_kind_11 : decode b_CR_kind 11 = .ok (.goto 11, 3) := by decide +kernel
theorem d_CR_kind_14 : decode b_CR_kind 14 = .ok (.aload_n 0, 1) := by decide +kernel
theorem d_CR_kind_15 : decode b_CR_kind 15 = .ok (.getfield 12, 3) := by decide +kernel
theorem d_CR_kind_18 : decode b_CR_kind 18 = .ok (.iload_n 1, 1) := by decide +kernel
theorem d_CR_kind_19 : decode b_CR_kind 19 = .ok (.invokevirtual 126, 3) := by decide +kernel
theorem d_CR_kind_22 : decode b_CR_kind 22 = .ok (.ireturn, 1) := by decide +kernel
theorem d_CR_extendable_0 : decode b_CR_extendable 0 = .ok (.aload_n 0, 1) := by decide +kernel
theorem d_CR_extendable_1 : decode b_CR_extendable 1 = .ok (.getfield 12, 3) := by decide +kernel
theorem d_CR_extendable_4 : decode b_CR_extendable 4 = .ok (.getfield 47, 3) := by decide +kernel
theorem d_CR_extendable_7 : decode b_CR_extendable 7 = .ok (.ifCond .eq 17, 3) := by decide +kernel
theorem d_CR_extendable_10 : decode b_CR_extendable 10 = .ok (.iload_n 1, 1) := by decide +kernel
theorem d_CR_extendable_11 : decode b_CR_extendable 11 = .ok (.iconst 3, 1) := by decide +kernel
theorem d_CR_extendable_12 : decode b_CR_extendable 12 = .ok (.aload_n 0, 1) := by decide +kernel
theorem d_CR_extendable_13 : decode b_CR_extendable 13 = .ok (.getfield 12, 3) := by decide +kernel
theorem d_CR_extendable_16 : decode b_CR_extendable 16 = .ok (.getfield 47, 3) := by decide +kernel
theorem d_CR_extendable_19 : decode b_CR_extendable 19 = .ok (.imul, 1) := by decide +kernel
theorem d_CR_extendable_20 : decode b_CR_extendable 20 = .ok (.iushr, 1) := by decide +kernel
theorem d_CR_extendable_21 : decode b_CR_extendable 21 = .ok (.ifCond .eq 5, 3) := by decide +kernel
theorem d_CR_extendable_24 : decode b_CR_extendable 24 = .ok (.iconst (-1), 1) := by decide +kernel
theorem d_CR_extendable_25 : decode b_CR_extendable 25 = .ok (.ireturn, 1) := by decide +kernel
theorem d_CR_extendable_26 : decode b_CR_extendable 26 = .ok (.iconst 0, 1) := by decide +kernel
theorem d_CR_extendable_27 : decode b_CR_extendable 27 = .ok (.istore_n 2, 1) := by decide +kernel
theorem d_CR_extendable_28 : decode b_CR_extendable 28 = .ok (.iconst 0, 1) := by decide +kernel
theorem d_CR_extendable_29 : decode b_CR_extendable 29 = .ok (.istore_n 3, 1) := by decide +kernel
theorem d_CR_extendable_30 : decode b_CR_extendable 30 = .ok (.iconst 0, 1) := by decide +kernel
theorem d_CR_extendable_31 : decode b_CR_extendable 31 = .ok (.istore 4, 2) := by decide +kernel
theorem d_CR_extendable_33 : decode b_CR_extendable 33 = .ok (.iload 4, 2) := by decide +kernel
theorem d_CR_extendable_35 : decode b_CR_extendable 35 = .ok (.aload_n 0, 1) := by decide +kernel
theorem d_CR_extendable_36 : decode b_CR_extendable 36 = .ok (.getfield 12, 3) := by decide +kernel
theorem d_CR_extendable_39 : decode b_CR_extendable 39 = .ok (.getfield 47, 3) := by decide +kernel
theorem d_CR_extendable_42 : decode b_CR_extendable 42 = .ok (.if_icmp .ge 62, 3) := by decide +kernel
theorem d_CR_extendable_45 : decode b_CR_extendable 45 = .ok (.iload_n 1, 1) := by decide +kernel
theorem d_CR_extendable_46 : decode b_CR_extendable 46 = .ok (.iconst 3, 1) := by decide +kernel
theorem d_CR_extendable_47 : decode b_CR_extendable 47 = .ok (.iload 4, 2) := by decide +kernel
theorem d_CR_extendable_49 : decode b_CR_extendable 49 = .ok (.imul, 1) := by decide +kernel
theorem d_CR_extendable_50 : decode b_CR_extendable 50 = .ok (.ishr, 1) := by decide +kernel
theorem d_CR_extendable_51 : decode b_CR_extendable 51 = .ok (.bipush 7, 2) := by decide +kernel
theorem d_CR_extendable_53 : decode b_CR_extendable 53 = .ok (.iand, 1) := by decide +kernel
theorem d_CR_extendable_54 : decode b_CR_extendable 54 = .ok (.istore 5, 2) := by decide +kernel
theorem d_CR_extendable_56 : decode b_CR_extendable 56 = .ok (.iload 5, 2) := by decide +kernel
theorem d_CR_extendable_58 : decode b_CR_extendable 58 = .ok (.bipush 7, 2) := by decide +kernel
theorem d_CR_extendable_60 : decode b_CR_extendable 60 = .ok (.if_icmp .eq 38, 3) := by decide +kernel
theorem d_CR_extendable_63 : decode b_CR_extendable 63 = .ok (.aload_n 0, 1) := by decide +kernel
theorem d_CR_extendable_64 : decode b_CR_extendable 64 = .ok (.getfield 12, 3) := by decide +kernel
theorem d_CR_extendable_67 : decode b_CR_extendable 67 = .ok (.iload 4, 2) := by decide +kernel
theorem d_CR_extendable_69 : decode b_CR_extendable 69 = .ok (.iload 5, 2) := by decide +kernel
theorem d_CR_extendable_71 : decode b_CR_extendable 71 = .ok (.invokevirtual 55, 3) := by decide +kernel
theorem d_CR_extendable_74 : decode b_CR_extendable 74 = .ok (.ifCond .ne 5, 3) := by decide +kernel
theorem d_CR_extendable_77 : decode b_CR_extendable 77 = .ok (.iconst (-1), 1) := by decide +kernel
theorem d_CR_extendable_78 : decode b_CR_extendable 78 = .ok (.ireturn, 1) := by decide +kernel
theorem d_CR_extendable_79 : decode b_CR_extendable 79 = .ok (.iload_n 2, 1) := by decide +kernel
theorem d_CR_extendable_80 : decode b_CR_extendable 80 = .ok (.iconst 3, 1) := by decide +kernel
theorem d_CR_extendable_81 : decode b_CR_extendable 81 = .ok (.iconst 2, 1) := by decide +kernel
theorem d_CR_extendable_82 : decode b_CR_extendable 82 = .ok (.iload 4, 2) := by decide +kernel
theorem d_CR_extendable_84 : decode b_CR_extendable 84 = .ok (.imul, 1) := by decide +kernel
theorem d_CR_extendable_85 : decode b_CR_extendable 85 = .ok (.ishl, 1) := by decide +kernel
theorem d_CR_extendable_86 : decode b_CR_extendable 86 = .ok (.ior, 1) := by decide +kernel
theorem d_CR_extendable_87 : decode b_CR_extendable 87 = .ok (.istore_n 2, 1) := by decide +kernel
theorem d_CR_extendable_88 : decode b_CR_extendable 88 = .ok (.iload_n 3, 1) := by decide +kernel
theorem d_CR_extendable_89 : decode b_CR_extendable 89 = .ok (.iload 5, 2) := by decide +kernel
theorem d_CR_extendable_91 : decode b_CR_extendable 91 = .ok (.iconst 2, 1) := by decide +kernel
theorem d_CR_extendable_92 : decode b_CR_extendable 92 = .ok (.iload 4, 2) := by decide +kernel
theorem d_CR_extendable_94 : decode b_CR_extendable 94 = .ok (.imul, 1) := by decide +kernel
theorem d_CR_extendable_95 : decode b_CR_extendable 95 = .ok (.ishl, 1) := by decide +kernel
theorem d_CR_extendable_96 : decode b_CR_extendable 96 = .ok (.ior, 1) := by decide +kernel
theorem d_CR_extendable_97 : decode b_CR_extendable 97 = .ok (.istore_n 3, 1) := by decide +kernel
theorem d_CR_extendable_98 : decode b_CR_extendable 98 = .ok (.iinc 4 1, 3) := by decide +kernel
theorem d_CR_extendable_101 : decode b_CR_extendable 101 = .ok (.goto (-68), 3) := by decide +kernel
theorem d_CR_extendable_104 : decode b_CR_extendable 104 = .ok (.aload_n 0, 1) := by decide +kernel
theorem d_CR_extendable_105 : decode b_CR_extendable 105 = .ok (.getfield 12, 3) := by decide +kernel
theorem d_CR_extendable_108 : decode b_CR_extendable 108 = .ok (.getfield 107, 3) := by decide +kernel
theorem d_CR_extendable_111 : decode b_CR_extendable 111 = .ok (.iload_n 2, 1) := by decide +kernel
theorem d_CR_extendable_112 : decode b_CR_extendable 112 = .ok (.iload_n 3, 1) := by decide +kernel
theorem d_CR_extendable_113 : decode b_CR_extendable 113 = .ok (.invokevirtual 156, 3) := by decide +kernel
theorem d_CR_extendable_116 : decode b_CR_extendable 116 = .ok (.ifCond .eq 5, 3) := by decide +kernel
theorem d_CR_extendable_119 : decode b_CR_extendable 119 = .ok (.iconst 2, 1) := by decide +kernel
theorem d_CR_extendable_120 : decode b_CR_extendable 120 = .ok (.ireturn, 1) := by decide +kernel
theorem d_CR_extendable_121 : decode b_CR_extendable 121 = .ok (.aload_n 0, 1) := by decide +kernel
theorem d_CR_extendable_122 : decode b_CR_extendable 122 = .ok (.getfield 12, 3) := by decide +kernel
theorem d_CR_extendable_125 : decode b_CR_extendable 125 = .ok (.getfield 159, 3) := by decide +kernel
theorem d_CR_extendable_128 : decode b_CR_extendable 128 = .ok (.iload_n 2, 1) := by decide +kernel
theorem d_CR_extendable_129 : decode b_CR_extendable 129 = .ok (.iload_n 3, 1) := by decide +kernel
theorem d_CR_extendable_130 : decode b_CR_extendable 130 = .ok (.invokevirtual 156, 3) := by decide +kernel
theorem d_CR_extendable_133 : decode b_CR_extendable 133 = .ok (.ifCond .eq 7, 3) := by decide +kernel
theorem d_CR_extendable_136 : decode b_CR_extendable 136 = .ok (.iconst 1, 1) := by decide +kernel
theorem d_CR_extendable_137 : decode b_CR_extendable 137 = .ok (.goto 4, 3) := by decide +kernel
theorem d_CR_extendable_140 : decode b_CR_extendable 140 = .ok (.iconst 0, 1) := by decide +kernel
theorem d_CR_extendable_141 : decode b_CR_extendable 141 = .ok (.ireturn, 1) := by decide +kernel
theorem d_CR_forbidden_0 : decode b_CR_forbidden 0 = .ok (.iload_n 1, 1) := by decide +kernel
theorem d_CR_forbidden_1 : decode b_CR_forbidden 1 = .ok (.iconst 1, 1) := by decide +kernel
theorem d_CR_forbidden_2 : decode b_CR_forbidden 2 = .ok (.if_icmp .lt 8, 3) := by decide +kernel
theorem d_CR_forbidden_5 : decode b_CR_forbidden 5 = .ok (.iload_n 1, 1) := by decide +kernel
theorem d_CR_forbidden_6 : decode b_CR_forbidden 6 = .ok (.iconst 3, 1) := by decide +kernel
theorem d_CR_forbidden_7 : decode b_CR_forbidden 7 = .ok (.if_icmp .le 5, 3) := by decide +kernel
theorem d_CR_forbidden_10 : decode b_CR_forbidden 10 = .ok (.iconst (-1), 1) := by decide +kernel
theorem d_CR_forbidden_11 : decode b_CR_forbidden 11 = .ok (.ireturn, 1) := by decide +kernel
theorem d_CR_forbidden_12 : decode b_CR_forbidden 12 = .ok (.iconst 0, 1) := by decide +kernel
theorem d_CR_forbidden_13 : decode b_CR_forbidden 13 = .ok (.istore_n 2, 1) := by decide +kernel
theorem d_CR_forbidden_14 : decode b_CR_forbidden 14 = .ok (.iconst 1, 1) := by decide +kernel
theorem d_CR_forbidden_15 : decode b_CR_forbidden 15 = .ok (.istore_n 3, 1) := by decide +kernel
theorem d_CR_forbidden_16 : decode b_CR_forbidden 16 = .ok (.iload_n 3, 1) := by decide +kernel
theorem d_CR_forbidden_17 : decode b_CR_forbidden 17 = .ok (.bipush 64, 2) := by decide +kernel
theorem d_CR_forbidden_19 : decode b_CR_forbidden 19 = .ok (.if_icmp .ge 42, 3) := by decide +kernel
theorem d_CR_forbidden_22 : decode b_CR_forbidden 22 = .ok (.aload_n 0, 1) := by decide +kernel
theorem d_CR_forbidden_23 : decode b_CR_forbidden 23 = .ok (.getfield 12, 3) := by decide +kernel
theorem d_CR_forbidden_26 : decode b_CR_forbidden 26 = .ok (.iload_n 3, 1) := by decide +kernel
theorem d_CR_forbidden_27 : decode b_CR_forbidden 27 = .ok (.invokevirtual 66, 3) := by decide +kernel
theorem d_CR_forbidden_30 : decode b_CR_forbidden 30 = .ok (.ifCond .eq 25, 3) := by decide +kernel
theorem d_CR_forbidden_33 : decode b_CR_forbidden 33 = .ok (.iload_n 3, 1) := by decide +kernel
theorem d_CR_forbidden_34 : decode b_CR_forbidden 34 = .ok (.invokestatic 70, 3) := by decide +kernel
theorem d_CR_forbidden_37 : decode b_CR_forbidden 37 = .ok (.iload_n 1, 1) := by decide +kernel
theorem d_CR_forbidden_38 : decode b_CR_forbidden 38 = .ok (.if_icmp .ne 17, 3) := by decide +kernel
theorem d_CR_forbidden_41 : decode b_CR_forbidden 41 = .ok (.iload_n 2, 1) := by decide +kernel
theorem d_CR_forbidden_42 : decode b_CR_forbidden 42 = .ok (.aload_n 0, 1) := by decide +kernel
theorem d_CR_forbidden_43 : decode b_CR_forbidden 43 = .ok (.getfield 12, 3) := by decide +kernel
theorem d_CR_forbidden_46 : decode b_CR_forbidden 46 = .ok (.iload_n 3, 1) := by decide +kernel
theorem d_CR_forbidden_47 : decode b_CR_forbidden 47 = .ok (.invokestatic 162, 3) := by decide +kernel
theorem d_CR_forbidden_50 : decode b_CR_forbidden 50 = .ok (.invokevirtual 165, 3) := by decide +kernel
theorem d_CR_forbidden_53 : decode b_CR_forbidden 53 = .ok (.iadd, 1) := by decide +kernel
theorem d_CR_forbidden_54 : decode b_CR_forbidden 54 = .ok (.istore_n 2, 1) := by decide +kernel
theorem d_CR_forbidden_55 : decode b_CR_forbidden 55 = .ok (.iinc 3 1, 3) := by decide +kernel
theorem d_CR_forbidden_58 : decode b_CR_forbidden 58 = .ok (.goto (-42), 3) := by decide +kernel
theorem d_CR_forbidden_61 : decode b_CR_forbidden 61 = .ok (.iload_n 2, 1) := by decide +kernel
theorem d_CR_forbidden_62 : decode b_CR_forbidden 62 = .ok (.ireturn, 1) := by decide +kernel
theorem d_Sp_minimalForbidden_0 : decode b_Sp_minimalForbidden 0 = .ok (.iconst 0, 1) := by decide +kernel
theorem d_Sp_minimalForbidden_1 : decode b_Sp_minimalForbidden 1 = .ok (.istore_n 2, 1) := by decide +kernel
theorem d_Sp_minimalForbidden_2 : decode b_Sp_minimalForbidden 2 = .ok (.iconst 1, 1) := by decide +kernel
theorem d_Sp_minimalForbidden_3 : decode b_Sp_minimalForbidden 3 = .ok (.iload_n 1, 1) := by decide +kernel
theorem d_Sp_minimalForbidden_4 : decode b_Sp_minimalForbidden 4 = .ok (.invokestatic 84, 3) := by decide +kernel
theorem d_Sp_minimalForbidden_7 : decode b_Sp_minimalForbidden 7 = .ok (.ishl, 1) := by decide +kernel
theorem d_Sp_minimalForbidden_8 : decode b_Sp_minimalForbidden 8 = .ok (.istore_n 3, 1) := by decide +kernel
theorem d_Sp_minimalForbidden_9 : decode b_Sp_minimalForbidden 9 = .ok (.iconst 0, 1) := by decide +kernel
theorem d_Sp_minimalForbidden_10 : decode b_Sp_minimalForbidden 10 = .ok (.istore 4, 2) := by decide +kernel
theorem d_Sp_minimalForbidden_12 : decode b_Sp_minimalForbidden 12 = .ok (.iconst 0, 1) := by decide +kernel
theorem d_Sp_minimalForbidden_13 : decode b_Sp_minimalForbidden 13 = .ok (.istore 5, 2) := by decide +kernel
theorem d_Sp_minimalForbidden_15 : decode b_Sp_minimalForbidden 15 = .ok (.iload 5, 2) := by decide +kernel
theorem d_Sp_minimalForbidden_17 : decode b_Sp_minimalForbidden 17 = .ok (.iload_n 3, 1) := by decide +kernel
theorem d_Sp_minimalForbidden_18 : decode b_Sp_minimalForbidden 18 = .ok (.if_icmp .ge 30, 3) := by decide +kernel
theorem d_Sp_minimalForbidden_21 : decode b_Sp_minimalForbidden 21 = .ok (.aload_n 0, 1) := by decide +kernel
theorem d_Sp_minimalForbidden_22 : decode b_Sp_minimalForbidden 22 = .ok (.iload_n 1, 1) := by decide +kernel
theorem d_Sp_minimalForbidden_23 : decode b_Sp_minimalForbidden 23 = .ok (.iload 4, 2) := by decide +kernel
theorem d_Sp_minimalForbidden_25 : decode b_Sp_minimalForbidden 25 = .ok (.invokevirtual 90, 3) := by decide +kernel
theorem d_Sp_minimalForbidden_28 : decode b_Sp_minimalForbidden 28 = .ok (.ifCond .eq 6, 3) := by decide +kernel
theorem d_Sp_minimalForbidden_31 : decode b_Sp_minimalForbidden 31 = .ok (.iinc 2 1, 3) := by decide +kernel
theorem d_Sp_minimalForbidden_34 : decode b_Sp_minimalForbidden 34 = .ok (.iload_n 1, 1) := by decide +kernel
theorem d_Sp_minimalForbidden_35 : decode b_Sp_minimalForbidden 35 = .ok (.iload 4, 2) := by decide +kernel
theorem d_Sp_minimalForbidden_37 : decode b_Sp_minimalForbidden 37 = .ok (.invokestatic 93, 3) := by decide +kernel
theorem d_Sp_minimalForbidden_40 : decode b_Sp_minimalForbidden 40 = .ok (.istore 4, 2) := by decide +kernel
theorem d_Sp_minimalForbidden_42 : decode b_Sp_minimalForbidden 42 = .ok (.iinc 5 1, 3) := by decide +kernel
theorem d_Sp_minimalForbidden_45 : decode b_Sp_minimalForbidden 45 = .ok (.goto (-30), 3) := by decide +kernel
theorem d_Sp_minimalForbidden_48 : decode b_Sp_minimalForbidden 48 = .ok (.iload_n 2, 1) := by decide +kernel
theorem d_Sp_minimalForbidden_49 : decode b_Sp_minimalForbidden 49 = .ok (.ireturn, 1) := by decide +kernel
theorem d_Sp_isMinimalForbidden_0 : decode b_Sp_isMinimalForbidden 0 = .ok (.aload_n 0, 1) := by decide +kernel
theorem d_Sp_isMinimalForbidden_1 : decode b_Sp_isMinimalForbidden 1 = .ok (.iload_n 2, 1) := by decide +kernel
theorem d_Sp_isMinimalForbidden_2 : decode b_Sp_isMinimalForbidden 2 = .ok (.invokevirtual 69, 3) := by decide +kernel
theorem d_Sp_isMinimalForbidden_5 : decode b_Sp_isMinimalForbidden 5 = .ok (.ifCond .eq 24, 3) := by decide +kernel
theorem d_Sp_isMinimalForbidden_8 : decode b_Sp_isMinimalForbidden 8 = .ok (.aload_n 0, 1) := by decide +kernel
theorem d_Sp_isMinimalForbidden_9 : decode b_Sp_isMinimalForbidden 9 = .ok (.iload_n 1, 1) := by decide +kernel
theorem d_Sp_isMinimalForbidden_10 : decode b_Sp_isMinimalForbidden 10 = .ok (.iload_n 2, 1) := by decide +kernel
theorem d_Sp_isMinimalForbidden_11 : decode b_Sp_isMinimalForbidden 11 = .ok (.invokevirtual 96, 3) := by decide +kernel
theorem d_Sp_isMinimalForbidden_14 : decode b_Sp_isMinimalForbidden 14 = .ok (.ifCond .ne 15, 3) := by decide +kernel
theorem d_Sp_isMinimalForbidden_17 : decode b_Sp_isMinimalForbidden 17 = .ok (.aload_n 0, 1) := by decide +kernel
theorem d_Sp_isMinimalForbidden_18 : decode b_Sp_isMinimalForbidden 18 = .ok (.getfield 25, 3) := by decide +kernel
theorem d_Sp_isMinimalForbidden_21 : decode b_Sp_isMinimalForbidden 21 = .ok (.iload_n 1, 1) := by decide +kernel
theorem d_Sp_isMinimalForbidden_22 : decode b_Sp_isMinimalForbidden 22 = .ok (.iload_n 2, 1) := by decide +kernel
theorem d_Sp_isMinimalForbidden_23 : decode b_Sp_isMinimalForbidden 23 = .ok (.invokevirtual 99, 3) := by decide +kernel
theorem d_Sp_isMinimalForbidden_26 : decode b_Sp_isMinimalForbidden 26 = .ok (.ifCond .eq 5, 3) := by decide +kernel
theorem d_Sp_isMinimalForbidden_29 : decode b_Sp_isMinimalForbidden 29 = .ok (.iconst 0, 1) := by decide +kernel
theorem d_Sp_isMinimalForbidden_30 : decode b_Sp_isMinimalForbidden 30 = .ok (.ireturn, 1) := by decide +kernel
theorem d_Sp_isMinimalForbidden_31 : decode b_Sp_isMinimalForbidden 31 = .ok (.iconst 0, 1) := by decide +kernel
theorem d_Sp_isMinimalForbidden_32 : decode b_Sp_isMinimalForbidden 32 = .ok (.istore_n 3, 1) := by decide +kernel
theorem d_Sp_isMinimalForbidden_33 : decode b_Sp_isMinimalForbidden 33 = .ok (.iload_n 3, 1) := by decide +kernel
theorem d_Sp_isMinimalForbidden_34 : decode b_Sp_isMinimalForbidden 34 = .ok (.bipush 6, 2) := by decide +kernel
theorem d_Sp_isMinimalForbidden_36 : decode b_Sp_isMinimalForbidden 36 = .ok (.if_icmp .ge 44, 3) := by decide +kernel
theorem d_Sp_isMinimalForbidden_39 : decode b_Sp_isMinimalForbidden 39 = .ok (.iload_n 1, 1) := by decide +kernel
theorem d_Sp_isMinimalForbidden_40 : decode b_Sp_isMinimalForbidden 40 = .ok (.iconst 3, 1) := by decide +kernel
theorem d_Sp_isMinimalForbidden_41 : decode b_Sp_isMinimalForbidden 41 = .ok (.iconst 2, 1) := by decide +kernel
theorem d_Sp_isMinimalForbidden_42 : decode b_Sp_isMinimalForbidden 42 = .ok (.iload_n 3, 1) := by decide +kernel
theorem d_Sp_isMinimalForbidden_43 : decode b_Sp_isMinimalForbidden 43 = .ok (.imul, 1) := by decide +kernel
theorem d_Sp_isMinimalForbidden_44 : decode b_Sp_isMinimalForbidden 44 = .ok (.ishl, 1) := by decide +kernel
theorem d_Sp_isMinimalForbidden_45 : decode b_Sp_isMinimalForbidden 45 = .ok (.iconst (-1), 1) := by decide +kernel
theorem d_Sp_isMinimalForbidden_46 : decode b_Sp_isMinimalForbidden 46 = .ok (.ixor, 1) := by decide +kernel
theorem d_Sp_isMinimalForbidden_47 : decode b_Sp_isMinimalForbidden 47 = .ok (.iand, 1) := by decide +kernel
theorem d_Sp_isMinimalForbidden_48 : decode b_Sp_isMinimalForbidden 48 = .ok (.istore 4, 2) := by decide +kernel
theorem d_Sp_isMinimalForbidden_50 : decode b_Sp_isMinimalForbidden 50 = .ok (.iload 4, 2) := by decide +kernel
theorem d_Sp_isMinimalForbidden_52 : decode b_Sp_isMinimalForbidden 52 = .ok (.iload_n 1, 1) := by decide +kernel
theorem d_Sp_isMinimalForbidden_53 : decode b_Sp_isMinimalForbidden 53 = .ok (.if_icmp .eq 21, 3) := by decide +kernel
theorem d_Sp_isMinimalForbidden_56 : decode b_Sp_isMinimalForbidden 56 = .ok (.aload_n 0, 1) := by decide +kernel
theorem d_Sp_isMinimalForbidden_57 : decode b_Sp_isMinimalForbidden 57 = .ok (.getfield 25, 3) := by decide +kernel
theorem d_Sp_isMinimalForbidden_60 : decode b_Sp_isMinimalForbidden 60 = .ok (.iload 4, 2) := by decide +kernel
theorem d_Sp_isMinimalForbidden_62 : decode b_Sp_isMinimalForbidden 62 = .ok (.iload_n 2, 1) := by decide +kernel
theorem d_Sp_isMinimalForbidden_63 : decode b_Sp_isMinimalForbidden 63 = .ok (.iload 4, 2) := by decide +kernel
theorem d_Sp_isMinimalForbidden_65 : decode b_Sp_isMinimalForbidden 65 = .ok (.iand, 1) := by decide +kernel
theorem d_Sp_isMinimalForbidden_66 : decode b_Sp_isMinimalForbidden 66 = .ok (.invokevirtual 99, 3) := by decide +kernel
theorem d_Sp_isMinimalForbidden_69 : decode b_Sp_isMinimalForbidden 69 = .ok (.ifCond .ne 5, 3) := by decide +kernel
theorem d_Sp_isMinimalForbidden_72 : decode b_Sp_isMinimalForbidden 72 = .ok (.iconst 0, 1) := by decide +kernel
theorem d_Sp_isMinimalForbidden_73 : decode b_Sp_isMinimalForbidden 73 = .ok (.ireturn, 1) := by decide +kernel
theorem d_Sp_isMinimalForbidden_74 : decode b_Sp_isMinimalForbidden 74 = .ok (.iinc 3 1, 3) := by decide +kernel
theorem d_Sp_isMinimalForbidden_77 : decode b_Sp_isMinimalForbidden 77 = .ok (.goto (-44), 3) := by decide +kernel
theorem d_Sp_isMinimalForbidden_80 : decode b_Sp_isMinimalForbidden 80 = .ok (.iconst 1, 1) := by decide +kernel
theorem d_Sp_isMinimalForbidden_81 : decode b_Sp_isMinimalForbidden 81 = .ok (.ireturn, 1) := by decide +kernel
theorem d_Mo_init_0 : decode b_Mo_init 0 = .ok (.aload_n 0, 1) := by decide +kernel
theorem d_Mo_init_1 : decode b_Mo_init 1 = .ok (.invokespecial 1, 3) := by decide +kernel
theorem d_Mo_init_4 : decode b_Mo_init 4 = .ok (.aload_n 0, 1) := by decide +kernel
theorem d_Mo_init_5 : decode b_Mo_init 5 = .ok (.bipush 6, 2) := by decide +kernel
theorem d_Mo_init_7 : decode b_Mo_init 7 = .ok (.newarray .int, 2) := by decide +kernel
theorem d_Mo_init_9 : decode b_Mo_init 9 = .ok (.putfield 7, 3) := by decide +kernel
theorem d_Mo_init_12 : decode b_Mo_init 12 = .ok (.aload_n 0, 1) := by decide +kernel
theorem d_Mo_init_13 : decode b_Mo_init 13 = .ok (.bipush 24, 2) := by decide +kernel
theorem d_Mo_init_15 : decode b_Mo_init 15 = .ok (.newarray .boolean, 2) := by decide +kernel
theorem d_Mo_init_17 : decode b_Mo_init 17 = .ok (.putfield 13, 3) := by decide +kernel
theorem d_Mo_init_20 : decode b_Mo_init 20 = .ok (.aload_n 0, 1) := by decide +kernel
theorem d_Mo_init_21 : decode b_Mo_init 21 = .ok (.bipush 8, 2) := by decide +kernel
theorem d_Mo_init_23 : decode b_Mo_init 23 = .ok (.newarray .int, 2) := by decide +kernel
theorem d_Mo_init_25 : decode b_Mo_init 25 = .ok (.putfield 17, 3) := by decide +kernel
theorem d_Mo_init_28 : decode b_Mo_init 28 = .ok (.aload_n 0, 1) := by decide +kernel
theorem d_Mo_init_29 : decode b_Mo_init 29 = .ok (.bipush 8, 2) := by decide +kernel
theorem d_Mo_init_31 : decode b_Mo_init 31 = .ok (.newarray .int, 2) := by decide +kernel
theorem d_Mo_init_33 : decode b_Mo_init 33 = .ok (.putfield 20, 3) := by decide +kernel
theorem d_Mo_init_36 : decode b_Mo_init 36 = .ok (.aload_n 0, 1) := by decide +kernel
theorem d_Mo_init_37 : decode b_Mo_init 37 = .ok (.sipush 520, 3) := by decide +kernel
theorem d_Mo_init_40 : decode b_Mo_init 40 = .ok (.newarray .byte, 2) := by decide +kernel
theorem d_Mo_init_42 : decode b_Mo_init 42 = .ok (.putfield 23, 3) := by decide +kernel
theorem d_Mo_init_45 : decode b_Mo_init 45 = .ok (.aload_n 0, 1) := by decide +kernel
theorem d_Mo_init_46 : decode b_Mo_init 46 = .ok (.sipush 520, 3) := by decide +kernel
theorem d_Mo_init_49 : decode b_Mo_init 49 = .ok (.newarray .short, 2) := by decide +kernel
theorem d_Mo_init_51 : decode b_Mo_init 51 = .ok (.putfield 27, 3) := by decide +kernel
theorem d_Mo_init_54 : decode b_Mo_init 54 = .ok (.aload_n 0, 1) := by decide +kernel
theorem d_Mo_init_55 : decode b_Mo_init 55 = .ok (.sipush 520, 3) := by decide +kernel
theorem d_Mo_init_58 : decode b_Mo_init 58 = .ok (.newarray .short, 2) := by decide +kernel
theorem d_Mo_init_60 : decode b_Mo_init 60 = .ok (.putfield 31, 3) := by decide +kernel
theorem d_Mo_init_63 : decode b_Mo_init 63 = .ok (.aload_n 0, 1) := by decide +kernel
theorem d_Mo_init_64 : decode b_Mo_init 64 = .ok (.sipush 520, 3) := by decide +kernel
theorem d_Mo_init_67 : decode b_Mo_init 67 = .ok (.newarray .byte, 2) := by decide +kernel
theorem d_Mo_init_69 : decode b_Mo_init 69 = .ok (.putfield 34, 3) := by decide +kernel
theorem d_Mo_init_72 : decode b_Mo_init 72 = .ok (.aload_n 0, 1) := by decide +kernel
theorem d_Mo_init_73 : decode b_Mo_init 73 = .ok (.sipush 520, 3) := by decide +kernel
theorem d_Mo_init_76 : decode b_Mo_init 76 = .ok (.newarray .boolean, 2) := by decide +kernel
theorem d_Mo_init_78 : decode b_Mo_init 78 = .ok (.putfield 37, 3) := by decide +kernel
theorem d_Mo_init_81 : decode b_Mo_init 81 = .ok (.aload_n 0, 1) := by decide +kernel
theorem d_Mo_init_82 : decode b_Mo_init 82 = .ok (.bipush 8, 2) := by decide +kernel
theorem d_Mo_init_84 : decode b_Mo_init 84 = .ok (.newarray .int, 2) := by decide +kernel
theorem d_Mo_init_86 : decode b_Mo_init 86 = .ok (.putfield 40, 3) := by decide +kernel
theorem d_Mo_init_89 : decode b_Mo_init 89 = .ok (.aload_n 0, 1) := by decide +kernel
theorem d_Mo_init_90 : decode b_Mo_init 90 = .ok (.bipush 8, 2) := by decide +kernel
theorem d_Mo_init_92 : decode b_Mo_init 92 = .ok (.newarray .int, 2) := by decide +kernel
theorem d_Mo_init_94 : decode b_Mo_init 94 = .ok (.putfield 43, 3) := by decide +kernel
theorem d_Mo_init_97 : decode b_Mo_init 97 = .ok (.aload_n 0, 1) := by decide +kernel
theorem d_Mo_init_98 : decode b_Mo_init 98 = .ok (.bipush 8, 2) := by decide +kernel
theorem d_Mo_init_100 : decode b_Mo_init 100 = .ok (.newarray .int, 2) := by decide +kernel
theorem d_Mo_init_102 : decode b_Mo_init 102 = .ok (.putfield 46, 3) := by decide +kernel
theorem d_Mo_init_105 : decode b_Mo_init 105 = .ok (.aload_n 0, 1) := by decide +kernel
theorem d_Mo_init_106 : decode b_Mo_init 106 = .ok (.sipush 4096, 3) := by decide +kernel
theorem d_Mo_init_109 : decode b_Mo_init 109 = .ok (.newarray .byte, 2) := by decide +kernel
theorem d_Mo_init_111 : decode b_Mo_init 111 = .ok (.putfield 49, 3) := by decide +kernel
theorem d_Mo_init_114 : decode b_Mo_init 114 = .ok (.aload_n 0, 1) := by decide +kernel
theorem d_Mo_init_115 : decode b_Mo_init 115 = .ok (.sipush 4096, 3) := by decide +kernel
theorem d_Mo_init_118 : decode b_Mo_init 118 = .ok (.newarray .boolean, 2) := by decide +kernel
theorem d_Mo_init_120 : decode b_Mo_init 120 = .ok (.putfield 52, 3) := by decide +kernel
theorem d_Mo_init_123 : decode b_Mo_init 123 = .ok (.aload_n 0, 1) := by decide +kernel
theorem d_Mo_init_124 : decode b_Mo_init 124 = .ok (.sipush 4096, 3) := by decide +kernel
theorem d_Mo_init_127 : decode b_Mo_init 127 = .ok (.newarray .boolean, 2) := by decide +kernel
theorem d_Mo_init_129 : decode b_Mo_init 129 = .ok (.putfield 55, 3) := by decide +kernel
theorem d_Mo_init_132 : decode b_Mo_init 132 = .ok (.aload_n 0, 1) := by decide +kernel
theorem d_Mo_init_133 : decode b_Mo_init 133 = .ok (.sipush 4096, 3) := by decide +kernel
theorem d_Mo_init_136 : decode b_Mo_init 136 = .ok (.newarray .boolean, 2) := by decide +kernel
theorem d_Mo_init_138 : decode b_Mo_init 138 = .ok (.putfield 58, 3) := by decide +kernel
theorem d_Mo_init_141 : decode b_Mo_init 141 = .ok (.aload_n 0, 1) := by decide +kernel
theorem d_Mo_init_142 : decode b_Mo_init 142 = .ok (.sipush 528, 3) := by decide +kernel
theorem d_Mo_init_145 : decode b_Mo_init 145 = .ok (.newarray .short, 2) := by decide +kernel
theorem d_Mo_init_147 : decode b_Mo_init 147 = .ok (.putfield 61, 3) := by decide +kernel
theorem d_Mo_init_150 : decode b_Mo_init 150 = .ok (.aload_n 0, 1) := by decide +kernel
theorem d_Mo_init_151 : decode b_Mo_init 151 = .ok (.sipush 528, 3) := by decide +kernel
theorem d_Mo_init_154 : decode b_Mo_init 154 = .ok (.newarray .short, 2) := by decide +kernel
theorem d_Mo_init_156 : decode b_Mo_init 156 = .ok (.putfield 64, 3) := by decide +kernel
theorem d_Mo_init_159 : decode b_Mo_init 159 = .ok (.return_, 1) := by decide +kernel
theorem d_Mo_parameter_0 : decode b_Mo_parameter 0 = .ok (.aload_n 0, 1) := by decide +kernel
theorem d_Mo_parameter_1 : decode b_Mo_parameter 1 = .ok (.getfield 67, 3) := by decide +kernel
theorem d_Mo_parameter_4 : decode b_Mo_parameter 4 = .ok (.ifCond .eq 5, 3) := by decide +kernel
theorem d_Mo_parameter_7 : decode b_Mo_parameter 7 = .ok (.iconst (-1), 1) := by decide +kernel
theorem d_Mo_parameter_8 : decode b_Mo_parameter 8 = .ok (.ireturn, 1) := by decide +kernel
theorem d_Mo_parameter_9 : decode b_Mo_parameter 9 = .ok (.iload_n 1, 1) := by decide +kernel
theorem d_Mo_parameter_10 : decode b_Mo_parameter 10 = .ok (.iconst 2, 1) := by decide +kernel
theorem d_Mo_parameter_11 : decode b_Mo_parameter 11 = .ok (.if_icmp .lt 17, 3) := by decide +kernel
theorem d_Mo_parameter_14 : decode b_Mo_parameter 14 = .ok (.iload_n 1, 1) := by decide +kernel
theorem d_Mo_parameter_15 : decode b_Mo_parameter 15 = .ok (.iconst 4, 1) := by decide +kernel
theorem d_Mo_parameter_16 : decode b_Mo_parameter 16 = .ok (.if_icmp .gt 12, 3) := by decide +kernel
theorem d_Mo_parameter_19 : decode b_Mo_parameter 19 = .ok (.aload_n 0, 1) := by decide +kernel
theorem d_Mo_parameter_20 : decode b_Mo_parameter 20 = .ok (.getfield 71, 3) := by decide +kernel
theorem d_Mo_parameter_23 : decode b_Mo_parameter 23 = .ok (.bipush 6, 2) := by decide +kernel
theorem d_Mo_parameter_25 : decode b_Mo_parameter 25 = .ok (.if_icmp .ne 6, 3) := by decide +kernel
theorem d_Mo_parameter_28 : decode b_Mo_parameter 28 = .ok (.bipush (-2), 2) := by decide +kernel
theorem d_Mo_parameter_30 : decode b_Mo_parameter 30 = .ok (.ireturn, 1) := by decide +kernel
theorem d_Mo_parameter_31 : decode b_Mo_parameter 31 = .ok (.aload_n 0, 1) := by decide +kernel
theorem d_Mo_parameter_32 : decode b_Mo_parameter 32 = .ok (.getfield 7, 3) := by decide +kernel
theorem d_Mo_parameter_35 : decode b_Mo_parameter 35 = .ok (.aload_n 0, 1) := by decide +kernel
theorem d_Mo_parameter_36 : decode b_Mo_parameter 36 = .ok (.getfield 71, 3) := by decide +kernel
theorem d_Mo_parameter_39 : decode b_Mo_parameter 39 = .ok (.iload_n 1, 1) := by decide +kernel
theorem d_Mo_parameter_40 : decode b_Mo_parameter 40 = .ok (.iastore, 1) := by decide +kernel
theorem d_Mo_parameter_41 : decode b_Mo_parameter 41 = .ok (.aload_n 0, 1) := by decide +kernel
theorem d_Mo_parameter_42 : decode b_Mo_parameter 42 = .ok (.dup, 1) := by decide +kernel
theorem d_Mo_parameter_43 : decode b_Mo_parameter 43 = .ok (.getfield 71, 3) := by decide +kernel
theorem d_Mo_parameter_46 : decode b_Mo_parameter 46 = .ok (.iconst 1, 1) := by decide +kernel
theorem d_Mo_parameter_47 : decode b_Mo_parameter 47 = .ok (.iadd, 1) := by decide +kernel
theorem d_Mo_parameter_48 : decode b_Mo_parameter 48 = .ok (.putfield 71, 3) := by decide +kernel
theorem d_Mo_parameter_51 : decode b_Mo_parameter 51 = .ok (.aload_n 0, 1) := by decide +kernel
theorem d_Mo_parameter_52 : decode b_Mo_parameter 52 = .ok (.iconst 0, 1) := by decide +kernel
theorem d_Mo_parameter_53 : decode b_Mo_parameter 53 = .ok (.putfield 75, 3) := by decide +kernel
theorem d_Mo_parameter_56 : decode b_Mo_parameter 56 = .ok (.aload_n 0, 1) := by decide +kernel
theorem d_Mo_parameter_57 : decode b_Mo_parameter 57 = .ok (.getfield 71, 3) := by decide +kernel
theorem d_Mo_parameter_60 : decode b_Mo_parameter 60 = .ok (.iconst 1, 1) := by decide +kernel
theorem d_Mo_parameter_61 : decode b_Mo_parameter 61 = .ok (.isub, 1) := by decide +kernel
theorem d_Mo_parameter_62 : decode b_Mo_parameter 62 = .ok (.ireturn, 1) := by decide +kernel
theorem d_Mo_invalid_0 : decode b_Mo_invalid 0 = .ok (.aload_n 0, 1) := by decide +kernel
theorem d_Mo_invalid_1 : decode b_Mo_invalid 1 = .ok (.getfield 67, 3) := by decide +kernel
theorem d_Mo_invalid_4 : decode b_Mo_invalid 4 = .ok (.ifCond .ne 25, 3) := by decide +kernel
theorem d_Mo_invalid_7 : decode b_Mo_invalid 7 = .ok (.aload_n 0, 1) := by decide +kernel
theorem d_Mo_invalid_8 : decode b_Mo_invalid 8 = .ok (.iload_n 1, 1) := by decide +kernel
theorem d_Mo_invalid_9 : decode b_Mo_invalid 9 = .ok (.iload_n 2, 1) := by decide +kernel
theorem d_Mo_invalid_10 : decode b_Mo_invalid 10 = .ok (.invokevirtual 78, 3) := by decide +kernel
theorem d_Mo_invalid_13 : decode b_Mo_invalid 13 = .ok (.ifCond .ne 16, 3) := by decide +kernel
theorem d_Mo_invalid_16 : decode b_Mo_invalid 16 = .ok (.aload_n 0, 1) := by decide +kernel
theorem d_Mo_invalid_17 : decode b_Mo_invalid 17 = .ok (.getfield 13, 3) := by decide +kernel
theorem d_Mo_invalid_20 : decode b_Mo_invalid 20 = .ok (.iconst 4, 1) := by decide +kernel
theorem d_Mo_invalid_21 : decode b_Mo_invalid 21 = .ok (.iload_n 1, 1) := by decide +kernel
theorem d_Mo_invalid_22 : decode b_Mo_invalid 22 = .ok (.imul, 1) := by decide +kernel
theorem d_Mo_invalid_23 : decode b_Mo_invalid 23 = .ok (.iload_n 2, 1) := by decide +kernel
theorem d_Mo_invalid_24 : decode b_Mo_invalid 24 = .ok (.iadd, 1) := by decide +kernel
theorem d_Mo_invalid_25 : decode b_Mo_invalid 25 = .ok (.baload, 1) := by decide +kernel
theorem d_Mo_invalid_26 : decode b_Mo_invalid 26 = .ok (.ifCond .eq 5, 3) := by decide +kernel
theorem d_Mo_invalid_29 : decode b_Mo_invalid 29 = .ok (.iconst 0, 1) := by decide +kernel
theorem d_Mo_invalid_30 : decode b_Mo_invalid 30 = .ok (.ireturn, 1) := by decide +kernel
theorem d_Mo_invalid_31 : decode b_Mo_invalid 31 = .ok (.aload_n 0, 1) := by decide +kernel
theorem d_Mo_invalid_32 : decode b_Mo_invalid 32 = .ok (.getfield 13, 3) := by decide +kernel
theorem d_Mo_invalid_35 : decode b_Mo_invalid 35 = .ok (.iconst 4, 1) := by decide +kernel
theorem d_Mo_invalid_36 : decode b_Mo_invalid 36 = .ok (.iload_n 1, 1) := by decide +kernel
theorem d_Mo_invalid_37 : decode b_Mo_invalid 37 = .ok (.imul, 1) := by decide +kernel
theorem d_Mo_invalid_38 : decode b_Mo_invalid 38 = .ok (.iload_n 2, 1) := by decide +kernel
theorem d_Mo_invalid_39 : decode b_Mo_invalid 39 = .ok (.iadd, 1) := by decide +kernel
theorem d_Mo_invalid_40 : decode b_Mo_invalid 40 = .ok (.iconst 1, 1) := by decide +kernel
theorem d_Mo_invalid_41 : decode b_Mo_invalid 41 = .ok (.bastore, 1) := by decide +kernel
theorem d_Mo_invalid_42 : decode b_Mo_invalid 42 = .ok (.aload_n 0, 1) := by decide +kernel
theorem d_Mo_invalid_43 : decode b_Mo_invalid 43 = .ok (.iconst 0, 1) := by decide +kernel
theorem d_Mo_invalid_44 : decode b_Mo_invalid 44 = .ok (.putfield 75, 3) := by decide +kernel
theorem d_Mo_invalid_47 : decode b_Mo_invalid 47 = .ok (.iconst 1, 1) := by decide +kernel
theorem d_Mo_invalid_48 : decode b_Mo_invalid 48 = .ok (.ireturn, 1) := by decide +kernel
theorem d_Mo_noValue_0 : decode b_Mo_noValue 0 = .ok (.iload_n 1, 1) := by decide +kernel
theorem d_Mo_noValue_1 : decode b_Mo_noValue 1 = .ok (.ifCond .lt 25, 3) := by decide +kernel
theorem d_Mo_noValue_4 : decode b_Mo_noValue 4 = .ok (.iload_n 1, 1) := by decide +kernel
theorem d_Mo_noValue_5 : decode b_Mo_noValue 5 = .ok (.aload_n 0, 1) := by decide +kernel
theorem d_Mo_noValue_6 : decode b_Mo_noValue 6 = .ok (.getfield 71, 3) := by decide +kernel
theorem d_Mo_noValue_9 : decode b_Mo_noValue 9 = .ok (.if_icmp .ge 17, 3) := by decide +kernel
theorem d_Mo_noValue_12 : decode b_Mo_noValue 12 = .ok (.iload_n 2, 1) := by decide +kernel
theorem d_Mo_noValue_13 : decode b_Mo_noValue 13 = .ok (.ifCond .lt 13, 3) := by decide +kernel
theorem d_Mo_noValue_16 : decode b_Mo_noValue 16 = .ok (.iload_n 2, 1) := by decide +kernel
theorem d_Mo_noValue_17 : decode b_Mo_noValue 17 = .ok (.aload_n 0, 1) := by decide +kernel
theorem d_Mo_noValue_18 : decode b_Mo_noValue 18 = .ok (.getfield 7, 3) := by decide +kernel
theorem d_Mo_noValue_21 : decode b_Mo_noValue 21 = .ok (.iload_n 1, 1) := by decide +kernel
theorem d_Mo_noValue_22 : decode b_Mo_noValue 22 = .ok (.iaload, 1) := by decide +kernel
theorem d_Mo_noValue_23 : decode b_Mo_noValue 23 = .ok (.if_icmp .lt 7, 3) := by decide +kernel
theorem d_Mo_noValue_26 : decode b_Mo_noValue 26 = .ok (.iconst 1, 1) := by decide +kernel
theorem d_Mo_noValue_27 : decode b_Mo_noValue 27 = .ok (.goto 4, 3) := by decide +kernel
theorem d_Mo_noValue_30 : decode b_Mo_noValue 30 = .ok (.iconst 0, 1) := by decide +kernel
theorem d_Mo_noValue_31 : decode b_Mo_noValue 31 = .ok (.ireturn, 1) := by decide +kernel
theorem d_Mo_relation_0 : decode b_Mo_relation 0 = .ok (.aload_n 0, 1) := by decide +kernel
theorem d_Mo_relation_1 : decode b_Mo_relation 1 = .ok (.getfield 67, 3) := by decide +kernel
theorem d_Mo_relation_4 : decode b_Mo_relation 4 = .ok (.ifCond .eq 5, 3) := by decide +kernel
theorem d_Mo_relation_7 : decode b_Mo_relation 7 = .ok (.iconst (-1), 1) := by decide +kernel
theorem d_Mo_relation_8 : decode b_Mo_relation 8 = .ok (.ireturn, 1) := by decide +kernel
theorem d_Mo_relation_9 : decode b_Mo_relation 9 = .ok (.iload_n 1, 1) := by decide +kernel
theorem d_Mo_relation_10 : decode b_Mo_relation 10 = .ok (.iconst 1, 1) := by decide +kernel
theorem d_Mo_relation_11 : decode b_Mo_relation 11 = .ok (.if_icmp .lt 32, 3) := by decide +kernel
theorem d_Mo_relation_14 : decode b_Mo_relation 14 = .ok (.iload_n 1, 1) := by decide +kernel
theorem d_Mo_relation_15 : decode b_Mo_relation 15 = .ok (.iconst 1, 1) := by decide +kernel
end
section
theorem d_Mo_relation_16 : decode b_Mo_relation 16 = .ok (.aload_n 0, 1) := by decide +kernel
theorem d_Mo_relation_17 : decode b_Mo_relation 17 = .ok (.getfield 71, 3) := by decide +kernel
theorem d_Mo_relation_20 : decode b_Mo_relation 20 = .ok (.ishl, 1) := by decide +kernel
theorem d_Mo_relation_21 : decode b_Mo_relation 21 = .ok (.if_icmp .ge 22, 3) := by decide +kernel
theorem d_Mo_relation_24 : decode b_Mo_relation 24 = .ok (.iload_n 2, 1) := by decide +kernel
theorem d_Mo_relation_25 : decode b_Mo_relation 25 = .ok (.iconst 1, 1) := by decide +kernel
theorem d_Mo_relation_26 : decode b_Mo_relation 26 = .ok (.if_icmp .lt 17, 3) := by decide +kernel
theorem d_Mo_relation_29 : decode b_Mo_relation 29 = .ok (.iload_n 2, 1) := by decide +kernel
theorem d_Mo_relation_30 : decode b_Mo_relation 30 = .ok (.iconst 3, 1) := by decide +kernel
theorem d_Mo_relation_31 : decode b_Mo_relation 31 = .ok (.if_icmp .gt 12, 3) := by decide +kernel
theorem d_Mo_relation_34 : decode b_Mo_relation 34 = .ok (.aload_n 0, 1) := by decide +kernel
theorem d_Mo_relation_35 : decode b_Mo_relation 35 = .ok (.iload_n 1, 1) := by decide +kernel
theorem d_Mo_relation_36 : decode b_Mo_relation 36 = .ok (.invokevirtual 82, 3) := by decide +kernel
theorem d_Mo_relation_39 : decode b_Mo_relation 39 = .ok (.iload_n 2, 1) := by decide +kernel
theorem d_Mo_relation_40 : decode b_Mo_relation 40 = .ok (.if_icmp .ge 6, 3) := by decide +kernel
theorem d_Mo_relation_43 : decode b_Mo_relation 43 = .ok (.bipush (-2), 2) := by decide +kernel
theorem d_Mo_relation_45 : decode b_Mo_relation 45 = .ok (.ireturn, 1) := by decide +kernel
theorem d_Mo_relation_46 : decode b_Mo_relation 46 = .ok (.aload_n 0, 1) := by decide +kernel
theorem d_Mo_relation_47 : decode b_Mo_relation 47 = .ok (.getfield 86, 3) := by decide +kernel
theorem d_Mo_relation_50 : decode b_Mo_relation 50 = .ok (.bipush 8, 2) := by decide +kernel
theorem d_Mo_relation_52 : decode b_Mo_relation 52 = .ok (.if_icmp .ne 6, 3) := by decide +kernel
theorem d_Mo_relation_55 : decode b_Mo_relation 55 = .ok (.bipush (-3), 2) := by decide +kernel
theorem d_Mo_relation_57 : decode b_Mo_relation 57 = .ok (.ireturn, 1) := by decide +kernel
theorem d_Mo_relation_58 : decode b_Mo_relation 58 = .ok (.aload_n 0, 1) := by decide +kernel
theorem d_Mo_relation_59 : decode b_Mo_relation 59 = .ok (.getfield 17, 3) := by decide +kernel
theorem d_Mo_relation_62 : decode b_Mo_relation 62 = .ok (.aload_n 0, 1) := by decide +kernel
theorem d_Mo_relation_63 : decode b_Mo_relation 63 = .ok (.getfield 86, 3) := by decide +kernel
theorem d_Mo_relation_66 : decode b_Mo_relation 66 = .ok (.iload_n 1, 1) := by decide +kernel
theorem d_Mo_relation_67 : decode b_Mo_relation 67 = .ok (.iastore, 1) := by decide +kernel
theorem d_Mo_relation_68 : decode b_Mo_relation 68 = .ok (.aload_n 0, 1) := by decide +kernel
theorem d_Mo_relation_69 : decode b_Mo_relation 69 = .ok (.getfield 20, 3) := by decide +kernel
theorem d_Mo_relation_72 : decode b_Mo_relation 72 = .ok (.aload_n 0, 1) := by decide +kernel
theorem d_Mo_relation_73 : decode b_Mo_relation 73 = .ok (.getfield 86, 3) := by decide +kernel
theorem d_Mo_relation_76 : decode b_Mo_relation 76 = .ok (.iload_n 2, 1) := by decide +kernel
theorem d_Mo_relation_77 : decode b_Mo_relation 77 = .ok (.iastore, 1) := by decide +kernel
theorem d_Mo_relation_78 : decode b_Mo_relation 78 = .ok (.aload_n 0, 1) := by decide +kernel
theorem d_Mo_relation_79 : decode b_Mo_relation 79 = .ok (.dup, 1) := by decide +kernel
theorem d_Mo_relation_80 : decode b_Mo_relation 80 = .ok (.getfield 86, 3) := by decide +kernel
theorem d_Mo_relation_83 : decode b_Mo_relation 83 = .ok (.iconst 1, 1) := by decide +kernel
theorem d_Mo_relation_84 : decode b_Mo_relation 84 = .ok (.iadd, 1) := by decide +kernel
theorem d_Mo_relation_85 : decode b_Mo_relation 85 = .ok (.putfield 86, 3) := by decide +kernel
theorem d_Mo_relation_88 : decode b_Mo_relation 88 = .ok (.aload_n 0, 1) := by decide +kernel
theorem d_Mo_relation_89 : decode b_Mo_relation 89 = .ok (.getfield 86, 3) := by decide +kernel
theorem d_Mo_relation_92 : decode b_Mo_relation 92 = .ok (.ireturn, 1) := by decide +kernel
theorem d_Mo_size_0 : decode b_Mo_size 0 = .ok (.iconst 0, 1) := by decide +kernel
theorem d_Mo_size_1 : decode b_Mo_size 1 = .ok (.istore_n 2, 1) := by decide +kernel
theorem d_Mo_size_2 : decode b_Mo_size 2 = .ok (.iconst 0, 1) := by decide +kernel
theorem d_Mo_size_3 : decode b_Mo_size 3 = .ok (.istore_n 3, 1) := by decide +kernel
theorem d_Mo_size_4 : decode b_Mo_size 4 = .ok (.iload_n 3, 1) := by decide +kernel
theorem d_Mo_size_5 : decode b_Mo_size 5 = .ok (.bipush 6, 2) := by decide +kernel
theorem d_Mo_size_7 : decode b_Mo_size 7 = .ok (.if_icmp .ge 17, 3) := by decide +kernel
theorem d_Mo_size_10 : decode b_Mo_size 10 = .ok (.iload_n 2, 1) := by decide +kernel
theorem d_Mo_size_11 : decode b_Mo_size 11 = .ok (.iload_n 1, 1) := by decide +kernel
theorem d_Mo_size_12 : decode b_Mo_size 12 = .ok (.iload_n 3, 1) := by decide +kernel
theorem d_Mo_size_13 : decode b_Mo_size 13 = .ok (.ishr, 1) := by decide +kernel
theorem d_Mo_size_14 : decode b_Mo_size 14 = .ok (.iconst 1, 1) := by decide +kernel
theorem d_Mo_size_15 : decode b_Mo_size 15 = .ok (.iand, 1) := by decide +kernel
theorem d_Mo_size_16 : decode b_Mo_size 16 = .ok (.iadd, 1) := by decide +kernel
theorem d_Mo_size_17 : decode b_Mo_size 17 = .ok (.istore_n 2, 1) := by decide +kernel
theorem d_Mo_size_18 : decode b_Mo_size 18 = .ok (.iinc 3 1, 3) := by decide +kernel
theorem d_Mo_size_21 : decode b_Mo_size 21 = .ok (.goto (-17), 3) := by decide +kernel
theorem d_Mo_size_24 : decode b_Mo_size 24 = .ok (.iload_n 2, 1) := by decide +kernel
theorem d_Mo_size_25 : decode b_Mo_size 25 = .ok (.ireturn, 1) := by decide +kernel
theorem d_Mo_is_0 : decode b_Mo_is 0 = .ok (.aload_n 0, 1) := by decide +kernel
theorem d_Mo_is_1 : decode b_Mo_is 1 = .ok (.getfield 67, 3) := by decide +kernel
theorem d_Mo_is_4 : decode b_Mo_is 4 = .ok (.ifCond .ne 36, 3) := by decide +kernel
theorem d_Mo_is_7 : decode b_Mo_is 7 = .ok (.aload_n 0, 1) := by decide +kernel
theorem d_Mo_is_8 : decode b_Mo_is 8 = .ok (.iload_n 1, 1) := by decide +kernel
theorem d_Mo_is_9 : decode b_Mo_is 9 = .ok (.iload_n 2, 1) := by decide +kernel
theorem d_Mo_is_10 : decode b_Mo_is 10 = .ok (.invokevirtual 78, 3) := by decide +kernel
theorem d_Mo_is_13 : decode b_Mo_is 13 = .ok (.ifCond .ne 27, 3) := by decide +kernel
theorem d_Mo_is_16 : decode b_Mo_is 16 = .ok (.aload_n 0, 1) := by decide +kernel
theorem d_Mo_is_17 : decode b_Mo_is 17 = .ok (.getfield 92, 3) := by decide +kernel
theorem d_Mo_is_20 : decode b_Mo_is 20 = .ok (.bipush 8, 2) := by decide +kernel
theorem d_Mo_is_22 : decode b_Mo_is 22 = .ok (.if_icmp .ge 18, 3) := by decide +kernel
theorem d_Mo_is_25 : decode b_Mo_is 25 = .ok (.aload_n 0, 1) := by decide +kernel
theorem d_Mo_is_26 : decode b_Mo_is 26 = .ok (.iconst 4, 1) := by decide +kernel
theorem d_Mo_is_27 : decode b_Mo_is 27 = .ok (.iload_n 1, 1) := by decide +kernel
theorem d_Mo_is_28 : decode b_Mo_is 28 = .ok (.iload_n 2, 1) := by decide +kernel
theorem d_Mo_is_29 : decode b_Mo_is 29 = .ok (.iconst 1, 1) := by decide +kernel
theorem d_Mo_is_30 : decode b_Mo_is 30 = .ok (.invokevirtual 95, 3) := by decide +kernel
theorem d_Mo_is_33 : decode b_Mo_is 33 = .ok (.ifCond .eq 7, 3) := by decide +kernel
theorem d_Mo_is_36 : decode b_Mo_is 36 = .ok (.iconst 1, 1) := by decide +kernel
theorem d_Mo_is_37 : decode b_Mo_is 37 = .ok (.goto 4, 3) := by decide +kernel
theorem d_Mo_is_40 : decode b_Mo_is 40 = .ok (.iconst 0, 1) := by decide +kernel
theorem d_Mo_is_41 : decode b_Mo_is 41 = .ok (.ireturn, 1) := by decide +kernel
theorem d_Mo_push_0 : decode b_Mo_push 0 = .ok (.aload_n 0, 1) := by decide +kernel
theorem d_Mo_push_1 : decode b_Mo_push 1 = .ok (.getfield 23, 3) := by decide +kernel
theorem d_Mo_push_4 : decode b_Mo_push 4 = .ok (.aload_n 0, 1) := by decide +kernel
theorem d_Mo_push_5 : decode b_Mo_push 5 = .ok (.getfield 89, 3) := by decide +kernel
theorem d_Mo_push_8 : decode b_Mo_push 8 = .ok (.iload_n 1, 1) := by decide +kernel
theorem d_Mo_push_9 : decode b_Mo_push 9 = .ok (.i2b, 1) := by decide +kernel
theorem d_Mo_push_10 : decode b_Mo_push 10 = .ok (.bastore, 1) := by decide +kernel
theorem d_Mo_push_11 : decode b_Mo_push 11 = .ok (.aload_n 0, 1) := by decide +kernel
theorem d_Mo_push_12 : decode b_Mo_push 12 = .ok (.getfield 27, 3) := by decide +kernel
theorem d_Mo_push_15 : decode b_Mo_push 15 = .ok (.aload_n 0, 1) := by decide +kernel
theorem d_Mo_push_16 : decode b_Mo_push 16 = .ok (.getfield 89, 3) := by decide +kernel
theorem d_Mo_push_19 : decode b_Mo_push 19 = .ok (.iload_n 2, 1) := by decide +kernel
theorem d_Mo_push_20 : decode b_Mo_push 20 = .ok (.i2s, 1) := by decide +kernel
theorem d_Mo_push_21 : decode b_Mo_push 21 = .ok (.sastore, 1) := by decide +kernel
theorem d_Mo_push_22 : decode b_Mo_push 22 = .ok (.aload_n 0, 1) := by decide +kernel
theorem d_Mo_push_23 : decode b_Mo_push 23 = .ok (.getfield 31, 3) := by decide +kernel
theorem d_Mo_push_26 : decode b_Mo_push 26 = .ok (.aload_n 0, 1) := by decide +kernel
theorem d_Mo_push_27 : decode b_Mo_push 27 = .ok (.getfield 89, 3) := by decide +kernel
theorem d_Mo_push_30 : decode b_Mo_push 30 = .ok (.iload_n 3, 1) := by decide +kernel
theorem d_Mo_push_31 : decode b_Mo_push 31 = .ok (.i2s, 1) := by decide +kernel
theorem d_Mo_push_32 : decode b_Mo_push 32 = .ok (.sastore, 1) := by decide +kernel
theorem d_Mo_push_33 : decode b_Mo_push 33 = .ok (.aload_n 0, 1) := by decide +kernel
theorem d_Mo_push_34 : decode b_Mo_push 34 = .ok (.getfield 34, 3) := by decide +kernel
theorem d_Mo_push_37 : decode b_Mo_push 37 = .ok (.aload_n 0, 1) := by decide +kernel
theorem d_Mo_push_38 : decode b_Mo_push 38 = .ok (.getfield 89, 3) := by decide +kernel
theorem d_Mo_push_41 : decode b_Mo_push 41 = .ok (.iload 4, 2) := by decide +kernel
theorem d_Mo_push_43 : decode b_Mo_push 43 = .ok (.i2b, 1) := by decide +kernel
theorem d_Mo_push_44 : decode b_Mo_push 44 = .ok (.bastore, 1) := by decide +kernel
theorem d_Mo_push_45 : decode b_Mo_push 45 = .ok (.aload_n 0, 1) := by decide +kernel
theorem d_Mo_push_46 : decode b_Mo_push 46 = .ok (.getfield 40, 3) := by decide +kernel
theorem d_Mo_push_49 : decode b_Mo_push 49 = .ok (.aload_n 0, 1) := by decide +kernel
theorem d_Mo_push_50 : decode b_Mo_push 50 = .ok (.getfield 92, 3) := by decide +kernel
theorem d_Mo_push_53 : decode b_Mo_push 53 = .ok (.aload_n 0, 1) := by decide +kernel
theorem d_Mo_push_54 : decode b_Mo_push 54 = .ok (.getfield 89, 3) := by decide +kernel
theorem d_Mo_push_57 : decode b_Mo_push 57 = .ok (.iastore, 1) := by decide +kernel
theorem d_Mo_push_58 : decode b_Mo_push 58 = .ok (.aload_n 0, 1) := by decide +kernel
theorem d_Mo_push_59 : decode b_Mo_push 59 = .ok (.dup, 1) := by decide +kernel
theorem d_Mo_push_60 : decode b_Mo_push 60 = .ok (.getfield 92, 3) := by decide +kernel
theorem d_Mo_push_63 : decode b_Mo_push 63 = .ok (.iconst 1, 1) := by decide +kernel
theorem d_Mo_push_64 : decode b_Mo_push 64 = .ok (.iadd, 1) := by decide +kernel
theorem d_Mo_push_65 : decode b_Mo_push 65 = .ok (.putfield 92, 3) := by decide +kernel
theorem d_Mo_push_68 : decode b_Mo_push 68 = .ok (.aload_n 0, 1) := by decide +kernel
theorem d_Mo_push_69 : decode b_Mo_push 69 = .ok (.dup, 1) := by decide +kernel
theorem d_Mo_push_70 : decode b_Mo_push 70 = .ok (.getfield 89, 3) := by decide +kernel
theorem d_Mo_push_73 : decode b_Mo_push 73 = .ok (.iconst 1, 1) := by decide +kernel
theorem d_Mo_push_74 : decode b_Mo_push 74 = .ok (.iadd, 1) := by decide +kernel
theorem d_Mo_push_75 : decode b_Mo_push 75 = .ok (.putfield 89, 3) := by decide +kernel
theorem d_Mo_push_78 : decode b_Mo_push 78 = .ok (.iconst 1, 1) := by decide +kernel
theorem d_Mo_push_79 : decode b_Mo_push 79 = .ok (.ireturn, 1) := by decide +kernel
theorem d_Mo_not_0 : decode b_Mo_not 0 = .ok (.aload_n 0, 1) := by decide +kernel
theorem d_Mo_not_1 : decode b_Mo_not 1 = .ok (.getfield 67, 3) := by decide +kernel
theorem d_Mo_not_4 : decode b_Mo_not 4 = .ok (.ifCond .ne 31, 3) := by decide +kernel
theorem d_Mo_not_7 : decode b_Mo_not 7 = .ok (.aload_n 0, 1) := by decide +kernel
theorem d_Mo_not_8 : decode b_Mo_not 8 = .ok (.getfield 92, 3) := by decide +kernel
theorem d_Mo_not_11 : decode b_Mo_not 11 = .ok (.ifCond .eq 24, 3) := by decide +kernel
theorem d_Mo_not_14 : decode b_Mo_not 14 = .ok (.aload_n 0, 1) := by decide +kernel
theorem d_Mo_not_15 : decode b_Mo_not 15 = .ok (.getfield 34, 3) := by decide +kernel
theorem d_Mo_not_18 : decode b_Mo_not 18 = .ok (.aload_n 0, 1) := by decide +kernel
theorem d_Mo_not_19 : decode b_Mo_not 19 = .ok (.getfield 40, 3) := by decide +kernel
theorem d_Mo_not_22 : decode b_Mo_not 22 = .ok (.aload_n 0, 1) := by decide +kernel
theorem d_Mo_not_23 : decode b_Mo_not 23 = .ok (.getfield 92, 3) := by decide +kernel
theorem d_Mo_not_26 : decode b_Mo_not 26 = .ok (.iconst 1, 1) := by decide +kernel
theorem d_Mo_not_27 : decode b_Mo_not 27 = .ok (.isub, 1) := by decide +kernel
theorem d_Mo_not_28 : decode b_Mo_not 28 = .ok (.iaload, 1) := by decide +kernel
theorem d_Mo_not_29 : decode b_Mo_not 29 = .ok (.baload, 1) := by decide +kernel
theorem d_Mo_not_30 : decode b_Mo_not 30 = .ok (.bipush 8, 2) := by decide +kernel
theorem d_Mo_not_32 : decode b_Mo_not 32 = .ok (.if_icmp .ne 5, 3) := by decide +kernel
theorem d_Mo_not_35 : decode b_Mo_not 35 = .ok (.iconst 0, 1) := by decide +kernel
theorem d_Mo_not_36 : decode b_Mo_not 36 = .ok (.ireturn, 1) := by decide +kernel
theorem d_Mo_not_37 : decode b_Mo_not 37 = .ok (.aload_n 0, 1) := by decide +kernel
theorem d_Mo_not_38 : decode b_Mo_not 38 = .ok (.getfield 40, 3) := by decide +kernel
theorem d_Mo_not_41 : decode b_Mo_not 41 = .ok (.aload_n 0, 1) := by decide +kernel
theorem d_Mo_not_42 : decode b_Mo_not 42 = .ok (.getfield 92, 3) := by decide +kernel
theorem d_Mo_not_45 : decode b_Mo_not 45 = .ok (.iconst 1, 1) := by decide +kernel
theorem d_Mo_not_46 : decode b_Mo_not 46 = .ok (.isub, 1) := by decide +kernel
theorem d_Mo_not_47 : decode b_Mo_not 47 = .ok (.iaload, 1) := by decide +kernel
theorem d_Mo_not_48 : decode b_Mo_not 48 = .ok (.istore_n 1, 1) := by decide +kernel
theorem d_Mo_not_49 : decode b_Mo_not 49 = .ok (.aload_n 0, 1) := by decide +kernel
theorem d_Mo_not_50 : decode b_Mo_not 50 = .ok (.dup, 1) := by decide +kernel
theorem d_Mo_not_51 : decode b_Mo_not 51 = .ok (.getfield 92, 3) := by decide +kernel
theorem d_Mo_not_54 : decode b_Mo_not 54 = .ok (.iconst 1, 1) := by decide +kernel
theorem d_Mo_not_55 : decode b_Mo_not 55 = .ok (.isub, 1) := by decide +kernel
theorem d_Mo_not_56 : decode b_Mo_not 56 = .ok (.putfield 92, 3) := by decide +kernel
theorem d_Mo_not_59 : decode b_Mo_not 59 = .ok (.aload_n 0, 1) := by decide +kernel
theorem d_Mo_not_60 : decode b_Mo_not 60 = .ok (.iconst 3, 1) := by decide +kernel
theorem d_Mo_not_61 : decode b_Mo_not 61 = .ok (.iload_n 1, 1) := by decide +kernel
theorem d_Mo_not_62 : decode b_Mo_not 62 = .ok (.iconst 0, 1) := by decide +kernel
theorem d_Mo_not_63 : decode b_Mo_not 63 = .ok (.aload_n 0, 1) := by decide +kernel
theorem d_Mo_not_64 : decode b_Mo_not 64 = .ok (.getfield 34, 3) := by decide +kernel
theorem d_Mo_not_67 : decode b_Mo_not 67 = .ok (.iload_n 1, 1) := by decide +kernel
theorem d_Mo_not_68 : decode b_Mo_not 68 = .ok (.baload, 1) := by decide +kernel
theorem d_Mo_not_69 : decode b_Mo_not 69 = .ok (.iconst 1, 1) := by decide +kernel
theorem d_Mo_not_70 : decode b_Mo_not 70 = .ok (.iadd, 1) := by decide +kernel
theorem d_Mo_not_71 : decode b_Mo_not 71 = .ok (.invokevirtual 95, 3) := by decide +kernel
theorem d_Mo_not_74 : decode b_Mo_not 74 = .ok (.ireturn, 1) := by decide +kernel
theorem d_Mo_join_0 : decode b_Mo_join 0 = .ok (.aload_n 0, 1) := by decide +kernel
theorem d_Mo_join_1 : decode b_Mo_join 1 = .ok (.getfield 67, 3) := by decide +kernel
theorem d_Mo_join_4 : decode b_Mo_join 4 = .ok (.ifCond .ne 20, 3) := by decide +kernel
theorem d_Mo_join_7 : decode b_Mo_join 7 = .ok (.iload_n 1, 1) := by decide +kernel
theorem d_Mo_join_8 : decode b_Mo_join 8 = .ok (.ifCond .lt 16, 3) := by decide +kernel
theorem d_Mo_join_11 : decode b_Mo_join 11 = .ok (.iload_n 1, 1) := by decide +kernel
theorem d_Mo_join_12 : decode b_Mo_join 12 = .ok (.iconst 2, 1) := by decide +kernel
theorem d_Mo_join_13 : decode b_Mo_join 13 = .ok (.if_icmp .gt 11, 3) := by decide +kernel
theorem d_Mo_join_16 : decode b_Mo_join 16 = .ok (.aload_n 0, 1) := by decide +kernel
theorem d_Mo_join_17 : decode b_Mo_join 17 = .ok (.getfield 92, 3) := by decide +kernel
theorem d_Mo_join_20 : decode b_Mo_join 20 = .ok (.iconst 2, 1) := by decide +kernel
theorem d_Mo_join_21 : decode b_Mo_join 21 = .ok (.if_icmp .ge 5, 3) := by decide +kernel
theorem d_Mo_join_24 : decode b_Mo_join 24 = .ok (.iconst 0, 1) := by decide +kernel
theorem d_Mo_join_25 : decode b_Mo_join 25 = .ok (.ireturn, 1) := by decide +kernel
theorem d_Mo_join_26 : decode b_Mo_join 26 = .ok (.aload_n 0, 1) := by decide +kernel
theorem d_Mo_join_27 : decode b_Mo_join 27 = .ok (.getfield 40, 3) := by decide +kernel
theorem d_Mo_join_30 : decode b_Mo_join 30 = .ok (.aload_n 0, 1) := by decide +kernel
theorem d_Mo_join_31 : decode b_Mo_join 31 = .ok (.getfield 92, 3) := by decide +kernel
theorem d_Mo_join_34 : decode b_Mo_join 34 = .ok (.iconst 1, 1) := by decide +kernel
theorem d_Mo_join_35 : decode b_Mo_join 35 = .ok (.isub, 1) := by decide +kernel
theorem d_Mo_join_36 : decode b_Mo_join 36 = .ok (.iaload, 1) := by decide +kernel
theorem d_Mo_join_37 : decode b_Mo_join 37 = .ok (.istore_n 2, 1) := by decide +kernel
theorem d_Mo_join_38 : decode b_Mo_join 38 = .ok (.aload_n 0, 1) := by decide +kernel
theorem d_Mo_join_39 : decode b_Mo_join 39 = .ok (.getfield 40, 3) := by decide +kernel
theorem d_Mo_join_42 : decode b_Mo_join 42 = .ok (.aload_n 0, 1) := by decide +kernel
theorem d_Mo_join_43 : decode b_Mo_join 43 = .ok (.getfield 92, 3) := by decide +kernel
theorem d_Mo_join_46 : decode b_Mo_join 46 = .ok (.iconst 2, 1) := by decide +kernel
theorem d_Mo_join_47 : decode b_Mo_join 47 = .ok (.isub, 1) := by decide +kernel
theorem d_Mo_join_48 : decode b_Mo_join 48 = .ok (.iaload, 1) := by decide +kernel
theorem d_Mo_join_49 : decode b_Mo_join 49 = .ok (.istore_n 3, 1) := by decide +kernel
theorem d_Mo_join_50 : decode b_Mo_join 50 = .ok (.aload_n 0, 1) := by decide +kernel
theorem d_Mo_join_51 : decode b_Mo_join 51 = .ok (.getfield 34, 3) := by decide +kernel
theorem d_Mo_join_54 : decode b_Mo_join 54 = .ok (.iload_n 3, 1) := by decide +kernel
theorem d_Mo_join_55 : decode b_Mo_join 55 = .ok (.baload, 1) := by decide +kernel
theorem d_Mo_join_56 : decode b_Mo_join 56 = .ok (.aload_n 0, 1) := by decide +kernel
theorem d_Mo_join_57 : decode b_Mo_join 57 = .ok (.getfield 34, 3) := by decide +kernel
theorem d_Mo_join_60 : decode b_Mo_join 60 = .ok (.iload_n 2, 1) := by decide +kernel
theorem d_Mo_join_61 : decode b_Mo_join 61 = .ok (.baload, 1) := by decide +kernel
theorem d_Mo_join_62 : decode b_Mo_join 62 = .ok (.if_icmp .le 12, 3) := by decide +kernel
theorem d_Mo_join_65 : decode b_Mo_join 65 = .ok (.aload_n 0, 1) := by decide +kernel
theorem d_Mo_join_66 : decode b_Mo_join 66 = .ok (.getfield 34, 3) := by decide +kernel
theorem d_Mo_join_69 : decode b_Mo_join 69 = .ok (.iload_n 3, 1) := by decide +kernel
theorem d_Mo_join_70 : decode b_Mo_join 70 = .ok (.baload, 1) := by decide +kernel
theorem d_Mo_join_71 : decode b_Mo_join 71 = .ok (.goto 9, 3) := by decide +kernel
theorem d_Mo_join_74 : decode b_Mo_join 74 = .ok (.aload_n 0, 1) := by decide +kernel
theorem d_Mo_join_75 : decode b_Mo_join 75 = .ok (.getfield 34, 3) := by decide +kernel
theorem d_Mo_join_78 : decode b_Mo_join 78 = .ok (.iload_n 2, 1) := by decide +kernel
theorem d_Mo_join_79 : decode b_Mo_join 79 = .ok (.baload, 1) := by decide +kernel
theorem d_Mo_join_80 : decode b_Mo_join 80 = .ok (.istore 4, 2) := by decide +kernel
theorem d_Mo_join_82 : decode b_Mo_join 82 = .ok (.iload 4, 2) := by decide +kernel
theorem d_Mo_join_84 : decode b_Mo_join 84 = .ok (.bipush 8, 2) := by decide +kernel
theorem d_Mo_join_86 : decode b_Mo_join 86 = .ok (.if_icmp .ne 5, 3) := by decide +kernel
theorem d_Mo_join_89 : decode b_Mo_join 89 = .ok (.iconst 0, 1) := by decide +kernel
theorem d_Mo_join_90 : decode b_Mo_join 90 = .ok (.ireturn, 1) := by decide +kernel
theorem d_Mo_join_91 : decode b_Mo_join 91 = .ok (.aload_n 0, 1) := by decide +kernel
theorem d_Mo_join_92 : decode b_Mo_join 92 = .ok (.aload_n 0, 1) := by decide +kernel
theorem d_Mo_join_93 : decode b_Mo_join 93 = .ok (.getfield 92, 3) := by decide +kernel
theorem d_Mo_join_96 : decode b_Mo_join 96 = .ok (.iconst 2, 1) := by decide +kernel
theorem d_Mo_join_97 : decode b_Mo_join 97 = .ok (.isub, 1) := by decide +kernel
theorem d_Mo_join_98 : decode b_Mo_join 98 = .ok (.putfield 92, 3) := by decide +kernel
theorem d_Mo_join_101 : decode b_Mo_join 101 = .ok (.aload_n 0, 1) := by decide +kernel
theorem d_Mo_join_102 : decode b_Mo_join 102 = .ok (.iload_n 1, 1) := by decide +kernel
theorem d_Mo_join_103 : decode b_Mo_join 103 = .ok (.iload_n 3, 1) := by decide +kernel
theorem d_Mo_join_104 : decode b_Mo_join 104 = .ok (.iload_n 2, 1) := by decide +kernel
theorem d_Mo_join_105 : decode b_Mo_join 105 = .ok (.iload 4, 2) := by decide +kernel
theorem d_Mo_join_107 : decode b_Mo_join 107 = .ok (.iconst 1, 1) := by decide +kernel
theorem d_Mo_join_108 : decode b_Mo_join 108 = .ok (.iadd, 1) := by decide +kernel
theorem d_Mo_join_109 : decode b_Mo_join 109 = .ok (.invokevirtual 95, 3) := by decide +kernel
theorem d_Mo_join_112 : decode b_Mo_join 112 = .ok (.ireturn, 1) := by decide +kernel
theorem d_Mo_require_0 : decode b_Mo_require 0 = .ok (.aload_n 0, 1) := by decide +kernel
theorem d_Mo_require_1 : decode b_Mo_require 1 = .ok (.getfield 67, 3) := by decide +kernel
theorem d_Mo_require_4 : decode b_Mo_require 4 = .ok (.ifCond .eq 5, 3) := by decide +kernel
theorem d_Mo_require_7 : decode b_Mo_require 7 = .ok (.iconst (-1), 1) := by decide +kernel
theorem d_Mo_require_8 : decode b_Mo_require 8 = .ok (.ireturn, 1) := by decide +kernel
theorem d_Mo_require_9 : decode b_Mo_require 9 = .ok (.aload_n 0, 1) := by decide +kernel
theorem d_Mo_require_10 : decode b_Mo_require 10 = .ok (.getfield 92, 3) := by decide +kernel
theorem d_Mo_require_13 : decode b_Mo_require 13 = .ok (.ifCond .ne 6, 3) := by decide +kernel
theorem d_Mo_require_16 : decode b_Mo_require 16 = .ok (.bipush (-2), 2) := by decide +kernel
theorem d_Mo_require_18 : decode b_Mo_require 18 = .ok (.ireturn, 1) := by decide +kernel
theorem d_Mo_require_19 : decode b_Mo_require 19 = .ok (.aload_n 0, 1) := by decide +kernel
theorem d_Mo_require_20 : decode b_Mo_require 20 = .ok (.getfield 99, 3) := by decide +kernel
theorem d_Mo_require_23 : decode b_Mo_require 23 = .ok (.bipush 8, 2) := by decide +kernel
theorem d_Mo_require_25 : decode b_Mo_require 25 = .ok (.if_icmp .ne 6, 3) := by decide +kernel
theorem d_Mo_require_28 : decode b_Mo_require 28 = .ok (.bipush (-3), 2) := by decide +kernel
theorem d_Mo_require_30 : decode b_Mo_require 30 = .ok (.ireturn, 1) := by decide +kernel
theorem d_Mo_require_31 : decode b_Mo_require 31 = .ok (.aload_n 0, 1) := by decide +kernel
theorem d_Mo_require_32 : decode b_Mo_require 32 = .ok (.dup, 1) := by decide +kernel
theorem d_Mo_require_33 : decode b_Mo_require 33 = .ok (.getfield 92, 3) := by decide +kernel
theorem d_Mo_require_36 : decode b_Mo_require 36 = .ok (.iconst 1, 1) := by decide +kernel
theorem d_Mo_require_37 : decode b_Mo_require 37 = .ok (.isub, 1) := by decide +kernel
theorem d_Mo_require_38 : decode b_Mo_require 38 = .ok (.putfield 92, 3) := by decide +kernel
theorem d_Mo_require_41 : decode b_Mo_require 41 = .ok (.aload_n 0, 1) := by decide +kernel
theorem d_Mo_require_42 : decode b_Mo_require 42 = .ok (.getfield 43, 3) := by decide +kernel
theorem d_Mo_require_45 : decode b_Mo_require 45 = .ok (.aload_n 0, 1) := by decide +kernel
theorem d_Mo_require_46 : decode b_Mo_require 46 = .ok (.getfield 99, 3) := by decide +kernel
theorem d_Mo_require_49 : decode b_Mo_require 49 = .ok (.aload_n 0, 1) := by decide +kernel
theorem d_Mo_require_50 : decode b_Mo_require 50 = .ok (.getfield 40, 3) := by decide +kernel
theorem d_Mo_require_53 : decode b_Mo_require 53 = .ok (.aload_n 0, 1) := by decide +kernel
theorem d_Mo_require_54 : decode b_Mo_require 54 = .ok (.getfield 92, 3) := by decide +kernel
theorem d_Mo_require_57 : decode b_Mo_require 57 = .ok (.iaload, 1) := by decide +kernel
theorem d_Mo_require_58 : decode b_Mo_require 58 = .ok (.iastore, 1) := by decide +kernel
theorem d_Mo_require_59 : decode b_Mo_require 59 = .ok (.aload_n 0, 1) := by decide +kernel
theorem d_Mo_require_60 : decode b_Mo_require 60 = .ok (.dup, 1) := by decide +kernel
theorem d_Mo_require_61 : decode b_Mo_require 61 = .ok (.getfield 99, 3) := by decide +kernel
theorem d_Mo_require_64 : decode b_Mo_require 64 = .ok (.iconst 1, 1) := by decide +kernel
theorem d_Mo_require_65 : decode b_Mo_require 65 = .ok (.iadd, 1) := by decide +kernel
theorem d_Mo_require_66 : decode b_Mo_require 66 = .ok (.putfield 99, 3) := by decide +kernel
theorem d_Mo_require_69 : decode b_Mo_require 69 = .ok (.aload_n 0, 1) := by decide +kernel
theorem d_Mo_require_70 : decode b_Mo_require 70 = .ok (.iconst 0, 1) := by decide +kernel
theorem d_Mo_require_71 : decode b_Mo_require 71 = .ok (.putfield 75, 3) := by decide +kernel
theorem d_Mo_require_74 : decode b_Mo_require 74 = .ok (.aload_n 0, 1) := by decide +kernel
theorem d_Mo_require_75 : decode b_Mo_require 75 = .ok (.getfield 99, 3) := by decide +kernel
theorem d_Mo_require_78 : decode b_Mo_require 78 = .ok (.ireturn, 1) := by decide +kernel
theorem d_Mo_seed_0 : decode b_Mo_seed 0 = .ok (.aload_n 0, 1) := by decide +kernel
theorem d_Mo_seed_1 : decode b_Mo_seed 1 = .ok (.getfield 67, 3) := by decide +kernel
theorem d_Mo_seed_4 : decode b_Mo_seed 4 = .ok (.ifCond .eq 5, 3) := by decide +kernel
theorem d_Mo_seed_7 : decode b_Mo_seed 7 = .ok (.iconst (-1), 1) := by decide +kernel
theorem d_Mo_seed_8 : decode b_Mo_seed 8 = .ok (.ireturn, 1) := by decide +kernel
theorem d_Mo_seed_9 : decode b_Mo_seed 9 = .ok (.aload_n 0, 1) := by decide +kernel
theorem d_Mo_seed_10 : decode b_Mo_seed 10 = .ok (.getfield 102, 3) := by decide +kernel
theorem d_Mo_seed_13 : decode b_Mo_seed 13 = .ok (.bipush 8, 2) := by decide +kernel
theorem d_Mo_seed_15 : decode b_Mo_seed 15 = .ok (.if_icmp .ne 6, 3) := by decide +kernel
theorem d_Mo_seed_18 : decode b_Mo_seed 18 = .ok (.bipush (-2), 2) := by decide +kernel
theorem d_Mo_seed_20 : decode b_Mo_seed 20 = .ok (.ireturn, 1) := by decide +kernel
theorem d_Mo_seed_21 : decode b_Mo_seed 21 = .ok (.aload_n 0, 1) := by decide +kernel
theorem d_Mo_seed_22 : decode b_Mo_seed 22 = .ok (.getfield 46, 3) := by decide +kernel
theorem d_Mo_seed_25 : decode b_Mo_seed 25 = .ok (.aload_n 0, 1) := by decide +kernel
theorem d_Mo_seed_26 : decode b_Mo_seed 26 = .ok (.getfield 102, 3) := by decide +kernel
theorem d_Mo_seed_29 : decode b_Mo_seed 29 = .ok (.iload_n 1, 1) := by decide +kernel
theorem d_Mo_seed_30 : decode b_Mo_seed 30 = .ok (.iastore, 1) := by decide +kernel
theorem d_Mo_seed_31 : decode b_Mo_seed 31 = .ok (.aload_n 0, 1) := by decide +kernel
theorem d_Mo_seed_32 : decode b_Mo_seed 32 = .ok (.dup, 1) := by decide +kernel
theorem d_Mo_seed_33 : decode b_Mo_seed 33 = .ok (.getfield 102, 3) := by decide +kernel
theorem d_Mo_seed_36 : decode b_Mo_seed 36 = .ok (.iconst 1, 1) := by decide +kernel
theorem d_Mo_seed_37 : decode b_Mo_seed 37 = .ok (.iadd, 1) := by decide +kernel
theorem d_Mo_seed_38 : decode b_Mo_seed 38 = .ok (.putfield 102, 3) := by decide +kernel
theorem d_Mo_seed_41 : decode b_Mo_seed 41 = .ok (.aload_n 0, 1) := by decide +kernel
theorem d_Mo_seed_42 : decode b_Mo_seed 42 = .ok (.getfield 102, 3) := by decide +kernel
theorem d_Mo_seed_45 : decode b_Mo_seed 45 = .ok (.ireturn, 1) := by decide +kernel
theorem d_Mo_begin_0 : decode b_Mo_begin 0 = .ok (.aload_n 0, 1) := by decide +kernel
theorem d_Mo_begin_1 : decode b_Mo_begin 1 = .ok (.getfield 67, 3) := by decide +kernel
theorem d_Mo_begin_4 : decode b_Mo_begin 4 = .ok (.ifCond .eq 5, 3) := by decide +kernel
theorem d_Mo_begin_7 : decode b_Mo_begin 7 = .ok (.iconst (-1), 1) := by decide +kernel
theorem d_Mo_begin_8 : decode b_Mo_begin 8 = .ok (.ireturn, 1) := by decide +kernel
theorem d_Mo_begin_9 : decode b_Mo_begin 9 = .ok (.aload_n 0, 1) := by decide +kernel
theorem d_Mo_begin_10 : decode b_Mo_begin 10 = .ok (.getfield 71, 3) := by decide +kernel
theorem d_Mo_begin_13 : decode b_Mo_begin 13 = .ok (.ifCond .ne 6, 3) := by decide +kernel
theorem d_Mo_begin_16 : decode b_Mo_begin 16 = .ok (.bipush (-2), 2) := by decide +kernel
theorem d_Mo_begin_18 : decode b_Mo_begin 18 = .ok (.ireturn, 1) := by decide +kernel
theorem d_Mo_begin_19 : decode b_Mo_begin 19 = .ok (.aload_n 0, 1) := by decide +kernel
theorem d_Mo_begin_20 : decode b_Mo_begin 20 = .ok (.invokevirtual 116, 3) := by decide +kernel
theorem d_Mo_begin_23 : decode b_Mo_begin 23 = .ok (.aload_n 0, 1) := by decide +kernel
theorem d_Mo_begin_24 : decode b_Mo_begin 24 = .ok (.getfield 52, 3) := by decide +kernel
theorem d_Mo_begin_27 : decode b_Mo_begin 27 = .ok (.iconst 0, 1) := by decide +kernel
theorem d_Mo_begin_28 : decode b_Mo_begin 28 = .ok (.baload, 1) := by decide +kernel
theorem d_Mo_begin_29 : decode b_Mo_begin 29 = .ok (.ifCond .ne 6, 3) := by decide +kernel
theorem d_Mo_begin_32 : decode b_Mo_begin 32 = .ok (.bipush (-3), 2) := by decide +kernel
theorem d_Mo_begin_34 : decode b_Mo_begin 34 = .ok (.ireturn, 1) := by decide +kernel
theorem d_Mo_begin_35 : decode b_Mo_begin 35 = .ok (.aload_n 0, 1) := by decide +kernel
theorem d_Mo_begin_36 : decode b_Mo_begin 36 = .ok (.iconst 1, 1) := by decide +kernel
theorem d_Mo_begin_37 : decode b_Mo_begin 37 = .ok (.putfield 67, 3) := by decide +kernel
theorem d_Mo_begin_40 : decode b_Mo_begin 40 = .ok (.aload_n 0, 1) := by decide +kernel
theorem d_Mo_begin_41 : decode b_Mo_begin 41 = .ok (.iconst 0, 1) := by decide +kernel
theorem d_Mo_begin_42 : decode b_Mo_begin 42 = .ok (.putfield 119, 3) := by decide +kernel
theorem d_Mo_begin_45 : decode b_Mo_begin 45 = .ok (.aload_n 0, 1) := by decide +kernel
theorem d_Mo_begin_46 : decode b_Mo_begin 46 = .ok (.iconst 0, 1) := by decide +kernel
theorem d_Mo_begin_47 : decode b_Mo_begin 47 = .ok (.putfield 122, 3) := by decide +kernel
theorem d_Mo_begin_50 : decode b_Mo_begin 50 = .ok (.aload_n 0, 1) := by decide +kernel
theorem d_Mo_begin_51 : decode b_Mo_begin 51 = .ok (.iconst 0, 1) := by decide +kernel
theorem d_Mo_begin_52 : decode b_Mo_begin 52 = .ok (.putfield 125, 3) := by decide +kernel
theorem d_Mo_begin_55 : decode b_Mo_begin 55 = .ok (.iconst 0, 1) := by decide +kernel
theorem d_Mo_begin_56 : decode b_Mo_begin 56 = .ok (.istore_n 1, 1) := by decide +kernel
theorem d_Mo_begin_57 : decode b_Mo_begin 57 = .ok (.iload_n 1, 1) := by decide +kernel
theorem d_Mo_begin_58 : decode b_Mo_begin 58 = .ok (.sipush 4096, 3) := by decide +kernel
theorem d_Mo_begin_61 : decode b_Mo_begin 61 = .ok (.if_icmp .ge 141, 3) := by decide +kernel
theorem d_Mo_begin_64 : decode b_Mo_begin 64 = .ok (.iload_n 1, 1) := by decide +kernel
theorem d_Mo_begin_65 : decode b_Mo_begin 65 = .ok (.bipush 64, 2) := by decide +kernel
theorem d_Mo_begin_67 : decode b_Mo_begin 67 = .ok (.idiv, 1) := by decide +kernel
theorem d_Mo_begin_68 : decode b_Mo_begin 68 = .ok (.iconst 1, 1) := by decide +kernel
theorem d_Mo_begin_69 : decode b_Mo_begin 69 = .ok (.aload_n 0, 1) := by decide +kernel
theorem d_Mo_begin_70 : decode b_Mo_begin 70 = .ok (.getfield 71, 3) := by decide +kernel
theorem d_Mo_begin_73 : decode b_Mo_begin 73 = .ok (.ishl, 1) := by decide +kernel
theorem d_Mo_begin_74 : decode b_Mo_begin 74 = .ok (.if_icmp .ge 18, 3) := by decide +kernel
theorem d_Mo_begin_77 : decode b_Mo_begin 77 = .ok (.aload_n 0, 1) := by decide +kernel
theorem d_Mo_begin_78 : decode b_Mo_begin 78 = .ok (.iload_n 1, 1) := by decide +kernel
theorem d_Mo_begin_79 : decode b_Mo_begin 79 = .ok (.bipush 64, 2) := by decide +kernel
theorem d_Mo_begin_81 : decode b_Mo_begin 81 = .ok (.idiv, 1) := by decide +kernel
theorem d_Mo_begin_82 : decode b_Mo_begin 82 = .ok (.invokevirtual 128, 3) := by decide +kernel
theorem d_Mo_begin_85 : decode b_Mo_begin 85 = .ok (.ifCond .eq 7, 3) := by decide +kernel
theorem d_Mo_begin_88 : decode b_Mo_begin 88 = .ok (.iconst 1, 1) := by decide +kernel
theorem d_Mo_begin_89 : decode b_Mo_begin 89 = .ok (.goto 4, 3) := by decide +kernel
theorem d_Mo_begin_92 : decode b_Mo_begin 92 = .ok (.iconst 0, 1) := by decide +kernel
theorem d_Mo_begin_93 : decode b_Mo_begin 93 = .ok (.istore_n 2, 1) := by decide +kernel
theorem d_Mo_begin_94 : decode b_Mo_begin 94 = .ok (.iload_n 2, 1) := by decide +kernel
theorem d_Mo_begin_95 : decode b_Mo_begin 95 = .ok (.ifCond .eq 11, 3) := by decide +kernel
theorem d_Mo_begin_98 : decode b_Mo_begin 98 = .ok (.aload_n 0, 1) := by decide +kernel
theorem d_Mo_begin_99 : decode b_Mo_begin 99 = .ok (.iload_n 1, 1) := by decide +kernel
theorem d_Mo_begin_100 : decode b_Mo_begin 100 = .ok (.invokevirtual 131, 3) := by decide +kernel
theorem d_Mo_begin_103 : decode b_Mo_begin 103 = .ok (.goto 4, 3) := by decide +kernel
theorem d_Mo_begin_106 : decode b_Mo_begin 106 = .ok (.iconst (-1), 1) := by decide +kernel
theorem d_Mo_begin_107 : decode b_Mo_begin 107 = .ok (.istore_n 3, 1) := by decide +kernel
theorem d_Mo_begin_108 : decode b_Mo_begin 108 = .ok (.aload_n 0, 1) := by decide +kernel
theorem d_Mo_begin_109 : decode b_Mo_begin 109 = .ok (.getfield 58, 3) := by decide +kernel
theorem d_Mo_begin_112 : decode b_Mo_begin 112 = .ok (.iload_n 1, 1) := by decide +kernel
theorem d_Mo_begin_113 : decode b_Mo_begin 113 = .ok (.iload_n 3, 1) := by decide +kernel
theorem d_Mo_begin_114 : decode b_Mo_begin 114 = .ok (.ifCond .ne 12, 3) := by decide +kernel
theorem d_Mo_begin_117 : decode b_Mo_begin 117 = .ok (.aload_n 0, 1) := by decide +kernel
theorem d_Mo_begin_118 : decode b_Mo_begin 118 = .ok (.getfield 52, 3) := by decide +kernel
theorem d_Mo_begin_121 : decode b_Mo_begin 121 = .ok (.iload_n 1, 1) := by decide +kernel
theorem d_Mo_begin_122 : decode b_Mo_begin 122 = .ok (.baload, 1) := by decide +kernel
theorem d_Mo_begin_123 : decode b_Mo_begin 123 = .ok (.ifCond .ne 17, 3) := by decide +kernel
theorem d_Mo_begin_126 : decode b_Mo_begin 126 = .ok (.iload_n 3, 1) := by decide +kernel
theorem d_Mo_begin_127 : decode b_Mo_begin 127 = .ok (.iconst 1, 1) := by decide +kernel
theorem d_Mo_begin_128 : decode b_Mo_begin 128 = .ok (.if_icmp .ne 16, 3) := by decide +kernel
theorem d_Mo_begin_131 : decode b_Mo_begin 131 = .ok (.aload_n 0, 1) := by decide +kernel
theorem d_Mo_begin_132 : decode b_Mo_begin 132 = .ok (.getfield 55, 3) := by decide +kernel
theorem d_Mo_begin_135 : decode b_Mo_begin 135 = .ok (.iload_n 1, 1) := by decide +kernel
theorem d_Mo_begin_136 : decode b_Mo_begin 136 = .ok (.baload, 1) := by decide +kernel
theorem d_Mo_begin_137 : decode b_Mo_begin 137 = .ok (.ifCond .eq 7, 3) := by decide +kernel
theorem d_Mo_begin_140 : decode b_Mo_begin 140 = .ok (.iconst 1, 1) := by decide +kernel
theorem d_Mo_begin_141 : decode b_Mo_begin 141 = .ok (.goto 4, 3) := by decide +kernel
theorem d_Mo_begin_144 : decode b_Mo_begin 144 = .ok (.iconst 0, 1) := by decide +kernel
theorem d_Mo_begin_145 : decode b_Mo_begin 145 = .ok (.bastore, 1) := by decide +kernel
theorem d_Mo_begin_146 : decode b_Mo_begin 146 = .ok (.aload_n 0, 1) := by decide +kernel
theorem d_Mo_begin_147 : decode b_Mo_begin 147 = .ok (.aload_n 0, 1) := by decide +kernel
theorem d_Mo_begin_148 : decode b_Mo_begin 148 = .ok (.getfield 122, 3) := by decide +kernel
theorem d_Mo_begin_151 : decode b_Mo_begin 151 = .ok (.aload_n 0, 1) := by decide +kernel
theorem d_Mo_begin_152 : decode b_Mo_begin 152 = .ok (.getfield 58, 3) := by decide +kernel
theorem d_Mo_begin_155 : decode b_Mo_begin 155 = .ok (.iload_n 1, 1) := by decide +kernel
theorem d_Mo_begin_156 : decode b_Mo_begin 156 = .ok (.baload, 1) := by decide +kernel
theorem d_Mo_begin_157 : decode b_Mo_begin 157 = .ok (.ifCond .eq 7, 3) := by decide +kernel
theorem d_Mo_begin_160 : decode b_Mo_begin 160 = .ok (.iconst 1, 1) := by decide +kernel
theorem d_Mo_begin_161 : decode b_Mo_begin 161 = .ok (.goto 4, 3) := by decide +kernel
theorem d_Mo_begin_164 : decode b_Mo_begin 164 = .ok (.iconst 0, 1) := by decide +kernel
theorem d_Mo_begin_165 : decode b_Mo_begin 165 = .ok (.iadd, 1) := by decide +kernel
theorem d_Mo_begin_166 : decode b_Mo_begin 166 = .ok (.putfield 122, 3) := by decide +kernel
theorem d_Mo_begin_169 : decode b_Mo_begin 169 = .ok (.aload_n 0, 1) := by decide +kernel
theorem d_Mo_begin_170 : decode b_Mo_begin 170 = .ok (.aload_n 0, 1) := by decide +kernel
theorem d_Mo_begin_171 : decode b_Mo_begin 171 = .ok (.getfield 125, 3) := by decide +kernel
theorem d_Mo_begin_174 : decode b_Mo_begin 174 = .ok (.aload_n 0, 1) := by decide +kernel
theorem d_Mo_begin_175 : decode b_Mo_begin 175 = .ok (.getfield 58, 3) := by decide +kernel
theorem d_Mo_begin_178 : decode b_Mo_begin 178 = .ok (.iload_n 1, 1) := by decide +kernel
theorem d_Mo_begin_179 : decode b_Mo_begin 179 = .ok (.baload, 1) := by decide +kernel
theorem d_Mo_begin_180 : decode b_Mo_begin 180 = .ok (.ifCond .eq 11, 3) := by decide +kernel
theorem d_Mo_begin_183 : decode b_Mo_begin 183 = .ok (.iload_n 3, 1) := by decide +kernel
theorem d_Mo_begin_184 : decode b_Mo_begin 184 = .ok (.ifCond .ne 7, 3) := by decide +kernel
theorem d_Mo_begin_187 : decode b_Mo_begin 187 = .ok (.iconst 1, 1) := by decide +kernel
theorem d_Mo_begin_188 : decode b_Mo_begin 188 = .ok (.goto 4, 3) := by decide +kernel
theorem d_Mo_begin_191 : decode b_Mo_begin 191 = .ok (.iconst 0, 1) := by decide +kernel
theorem d_Mo_begin_192 : decode b_Mo_begin 192 = .ok (.iadd, 1) := by decide +kernel
theorem d_Mo_begin_193 : decode b_Mo_begin 193 = .ok (.putfield 125, 3) := by decide +kernel
theorem d_Mo_begin_196 : decode b_Mo_begin 196 = .ok (.iinc 1 1, 3) := by decide +kernel
theorem d_Mo_begin_199 : decode b_Mo_begin 199 = .ok (.goto (-142), 3) := by decide +kernel
theorem d_Mo_begin_202 : decode b_Mo_begin 202 = .ok (.aload_n 0, 1) := by decide +kernel
theorem d_Mo_begin_203 : decode b_Mo_begin 203 = .ok (.getfield 122, 3) := by decide +kernel
theorem d_Mo_begin_206 : decode b_Mo_begin 206 = .ok (.istore_n 1, 1) := by decide +kernel
theorem d_Mo_begin_207 : decode b_Mo_begin 207 = .ok (.iconst 0, 1) := by decide +kernel
theorem d_Mo_begin_208 : decode b_Mo_begin 208 = .ok (.istore_n 2, 1) := by decide +kernel
theorem d_Mo_begin_209 : decode b_Mo_begin 209 = .ok (.iload_n 2, 1) := by decide +kernel
theorem d_Mo_begin_210 : decode b_Mo_begin 210 = .ok (.aload_n 0, 1) := by decide +kernel
theorem d_Mo_begin_211 : decode b_Mo_begin 211 = .ok (.getfield 102, 3) := by decide +kernel
theorem d_Mo_begin_214 : decode b_Mo_begin 214 = .ok (.if_icmp .ge 41, 3) := by decide +kernel
theorem d_Mo_begin_217 : decode b_Mo_begin 217 = .ok (.aload_n 0, 1) := by decide +kernel
theorem d_Mo_begin_218 : decode b_Mo_begin 218 = .ok (.getfield 46, 3) := by decide +kernel
theorem d_Mo_begin_221 : decode b_Mo_begin 221 = .ok (.iload_n 2, 1) := by decide +kernel
theorem d_Mo_begin_222 : decode b_Mo_begin 222 = .ok (.iaload, 1) := by decide +kernel
theorem d_Mo_begin_223 : decode b_Mo_begin 223 = .ok (.istore_n 3, 1) := by decide +kernel
theorem d_Mo_begin_224 : decode b_Mo_begin 224 = .ok (.iload_n 3, 1) := by decide +kernel
theorem d_Mo_begin_225 : decode b_Mo_begin 225 = .ok (.ifCond .lt 24, 3) := by decide +kernel
theorem d_Mo_begin_228 : decode b_Mo_begin 228 = .ok (.iload_n 3, 1) := by decide +kernel
theorem d_Mo_begin_229 : decode b_Mo_begin 229 = .ok (.sipush 4096, 3) := by decide +kernel
theorem d_Mo_begin_232 : decode b_Mo_begin 232 = .ok (.if_icmp .ge 17, 3) := by decide +kernel
theorem d_Mo_begin_235 : decode b_Mo_begin 235 = .ok (.aload_n 0, 1) := by decide +kernel
theorem d_Mo_begin_236 : decode b_Mo_begin 236 = .ok (.getfield 49, 3) := by decide +kernel
theorem d_Mo_begin_239 : decode b_Mo_begin 239 = .ok (.iload_n 3, 1) := by decide +kernel
theorem d_Mo_begin_240 : decode b_Mo_begin 240 = .ok (.baload, 1) := by decide +kernel
theorem d_Mo_begin_241 : decode b_Mo_begin 241 = .ok (.ifCond .le 8, 3) := by decide +kernel
theorem d_Mo_begin_244 : decode b_Mo_begin 244 = .ok (.aload_n 0, 1) := by decide +kernel
theorem d_Mo_begin_245 : decode b_Mo_begin 245 = .ok (.iload_n 3, 1) := by decide +kernel
theorem d_Mo_begin_246 : decode b_Mo_begin 246 = .ok (.invokevirtual 134, 3) := by decide +kernel
theorem d_Mo_begin_249 : decode b_Mo_begin 249 = .ok (.iinc 2 1, 3) := by decide +kernel
theorem d_Mo_begin_252 : decode b_Mo_begin 252 = .ok (.goto (-43), 3) := by decide +kernel
theorem d_Mo_begin_255 : decode b_Mo_begin 255 = .ok (.iload_n 1, 1) := by decide +kernel
theorem d_Mo_begin_256 : decode b_Mo_begin 256 = .ok (.ireturn, 1) := by decide +kernel
theorem d_Mo_look_0 : decode b_Mo_look 0 = .ok (.aload_n 0, 1) := by decide +kernel
theorem d_Mo_look_1 : decode b_Mo_look 1 = .ok (.getfield 75, 3) := by decide +kernel
theorem d_Mo_look_4 : decode b_Mo_look 4 = .ok (.ifCond .eq 4, 3) := by decide +kernel
theorem d_Mo_look_7 : decode b_Mo_look 7 = .ok (.return_, 1) := by decide +kernel
theorem d_Mo_look_8 : decode b_Mo_look 8 = .ok (.aload_n 0, 1) := by decide +kernel
theorem d_Mo_look_9 : decode b_Mo_look 9 = .ok (.iconst 1, 1) := by decide +kernel
theorem d_Mo_look_10 : decode b_Mo_look 10 = .ok (.putfield 75, 3) := by decide +kernel
theorem d_Mo_look_13 : decode b_Mo_look 13 = .ok (.iconst 0, 1) := by decide +kernel
theorem d_Mo_look_14 : decode b_Mo_look 14 = .ok (.istore_n 1, 1) := by decide +kernel
theorem d_Mo_look_15 : decode b_Mo_look 15 = .ok (.iload_n 1, 1) := by decide +kernel
theorem d_Mo_look_16 : decode b_Mo_look 16 = .ok (.sipush 4096, 3) := by decide +kernel
theorem d_Mo_look_19 : decode b_Mo_look 19 = .ok (.if_icmp .ge 23, 3) := by decide +kernel
theorem d_Mo_look_22 : decode b_Mo_look 22 = .ok (.aload_n 0, 1) := by decide +kernel
theorem d_Mo_look_23 : decode b_Mo_look 23 = .ok (.getfield 52, 3) := by decide +kernel
theorem d_Mo_look_26 : decode b_Mo_look 26 = .ok (.iload_n 1, 1) := by decide +kernel
theorem d_Mo_look_27 : decode b_Mo_look 27 = .ok (.iconst 0, 1) := by decide +kernel
theorem d_Mo_look_28 : decode b_Mo_look 28 = .ok (.bastore, 1) := by decide +kernel
theorem d_Mo_look_29 : decode b_Mo_look 29 = .ok (.aload_n 0, 1) := by decide +kernel
theorem d_Mo_look_30 : decode b_Mo_look 30 = .ok (.getfield 55, 3) := by decide +kernel
theorem d_Mo_look_33 : decode b_Mo_look 33 = .ok (.iload_n 1, 1) := by decide +kernel
theorem d_Mo_look_34 : decode b_Mo_look 34 = .ok (.iconst 0, 1) := by decide +kernel
theorem d_Mo_look_35 : decode b_Mo_look 35 = .ok (.bastore, 1) := by decide +kernel
theorem d_Mo_look_36 : decode b_Mo_look 36 = .ok (.iinc 1 1, 3) := by decide +kernel
theorem d_Mo_look_39 : decode b_Mo_look 39 = .ok (.goto (-24), 3) := by decide +kernel
theorem d_Mo_look_42 : decode b_Mo_look 42 = .ok (.iconst 0, 1) := by decide +kernel
theorem d_Mo_look_43 : decode b_Mo_look 43 = .ok (.istore_n 1, 1) := by decide +kernel
theorem d_Mo_look_44 : decode b_Mo_look 44 = .ok (.iload_n 1, 1) := by decide +kernel
theorem d_Mo_look_45 : decode b_Mo_look 45 = .ok (.sipush 4096, 3) := by decide +kernel
theorem d_Mo_look_48 : decode b_Mo_look 48 = .ok (.if_icmp .ge 135, 3) := by decide +kernel
theorem d_Mo_look_51 : decode b_Mo_look 51 = .ok (.aload_n 0, 1) := by decide +kernel
theorem d_Mo_look_52 : decode b_Mo_look 52 = .ok (.getfield 49, 3) := by decide +kernel
theorem d_Mo_look_55 : decode b_Mo_look 55 = .ok (.iload_n 1, 1) := by decide +kernel
theorem d_Mo_look_56 : decode b_Mo_look 56 = .ok (.aload_n 0, 1) := by decide +kernel
theorem d_Mo_look_57 : decode b_Mo_look 57 = .ok (.getfield 71, 3) := by decide +kernel
theorem d_Mo_look_60 : decode b_Mo_look 60 = .ok (.ifCond .ne 7, 3) := by decide +kernel
theorem d_Mo_look_63 : decode b_Mo_look 63 = .ok (.iconst (-1), 1) := by decide +kernel
theorem d_Mo_look_64 : decode b_Mo_look 64 = .ok (.goto 8, 3) := by decide +kernel
theorem d_Mo_look_67 : decode b_Mo_look 67 = .ok (.aload_n 0, 1) := by decide +kernel
theorem d_Mo_look_68 : decode b_Mo_look 68 = .ok (.iload_n 1, 1) := by decide +kernel
theorem d_Mo_look_69 : decode b_Mo_look 69 = .ok (.invokevirtual 109, 3) := by decide +kernel
theorem d_Mo_look_72 : decode b_Mo_look 72 = .ok (.i2b, 1) := by decide +kernel
theorem d_Mo_look_73 : decode b_Mo_look 73 = .ok (.bastore, 1) := by decide +kernel
theorem d_Mo_look_74 : decode b_Mo_look 74 = .ok (.iconst 0, 1) := by decide +kernel
theorem d_Mo_look_75 : decode b_Mo_look 75 = .ok (.istore_n 2, 1) := by decide +kernel
theorem d_Mo_look_76 : decode b_Mo_look 76 = .ok (.iload_n 2, 1) := by decide +kernel
theorem d_Mo_look_77 : decode b_Mo_look 77 = .ok (.iconst 1, 1) := by decide +kernel
theorem d_Mo_look_78 : decode b_Mo_look 78 = .ok (.aload_n 0, 1) := by decide +kernel
theorem d_Mo_look_79 : decode b_Mo_look 79 = .ok (.getfield 71, 3) := by decide +kernel
theorem d_Mo_look_82 : decode b_Mo_look 82 = .ok (.ishl, 1) := by decide +kernel
theorem d_Mo_look_83 : decode b_Mo_look 83 = .ok (.if_icmp .ge 94, 3) := by decide +kernel
theorem d_Mo_look_86 : decode b_Mo_look 86 = .ok (.aload_n 0, 1) := by decide +kernel
theorem d_Mo_look_87 : decode b_Mo_look 87 = .ok (.getfield 49, 3) := by decide +kernel
theorem d_Mo_look_90 : decode b_Mo_look 90 = .ok (.iload_n 1, 1) := by decide +kernel
theorem d_Mo_look_91 : decode b_Mo_look 91 = .ok (.baload, 1) := by decide +kernel
theorem d_Mo_look_92 : decode b_Mo_look 92 = .ok (.ifCond .le 85, 3) := by decide +kernel
theorem d_Mo_look_95 : decode b_Mo_look 95 = .ok (.aload_n 0, 1) := by decide +kernel
theorem d_Mo_look_96 : decode b_Mo_look 96 = .ok (.iload_n 2, 1) := by decide +kernel
theorem d_Mo_look_97 : decode b_Mo_look 97 = .ok (.invokevirtual 82, 3) := by decide +kernel
theorem d_Mo_look_100 : decode b_Mo_look 100 = .ok (.iconst 3, 1) := by decide +kernel
theorem d_Mo_look_101 : decode b_Mo_look 101 = .ok (.if_icmp .gt 70, 3) := by decide +kernel
theorem d_Mo_look_104 : decode b_Mo_look 104 = .ok (.aload_n 0, 1) := by decide +kernel
theorem d_Mo_look_105 : decode b_Mo_look 105 = .ok (.iload_n 1, 1) := by decide +kernel
theorem d_Mo_look_106 : decode b_Mo_look 106 = .ok (.iload_n 2, 1) := by decide +kernel
theorem d_Mo_look_107 : decode b_Mo_look 107 = .ok (.invokevirtual 112, 3) := by decide +kernel
theorem d_Mo_look_110 : decode b_Mo_look 110 = .ok (.istore_n 3, 1) := by decide +kernel
theorem d_Mo_look_111 : decode b_Mo_look 111 = .ok (.aload_n 0, 1) := by decide +kernel
theorem d_Mo_look_112 : decode b_Mo_look 112 = .ok (.getfield 52, 3) := by decide +kernel
theorem d_Mo_look_115 : decode b_Mo_look 115 = .ok (.iload_n 3, 1) := by decide +kernel
theorem d_Mo_look_116 : decode b_Mo_look 116 = .ok (.aload_n 0, 1) := by decide +kernel
theorem d_Mo_look_117 : decode b_Mo_look 117 = .ok (.getfield 52, 3) := by decide +kernel
theorem d_Mo_look_120 : decode b_Mo_look 120 = .ok (.iload_n 3, 1) := by decide +kernel
theorem d_Mo_look_121 : decode b_Mo_look 121 = .ok (.baload, 1) := by decide +kernel
theorem d_Mo_look_122 : decode b_Mo_look 122 = .ok (.ifCond .ne 13, 3) := by decide +kernel
theorem d_Mo_look_125 : decode b_Mo_look 125 = .ok (.aload_n 0, 1) := by decide +kernel
theorem d_Mo_look_126 : decode b_Mo_look 126 = .ok (.getfield 49, 3) := by decide +kernel
theorem d_Mo_look_129 : decode b_Mo_look 129 = .ok (.iload_n 1, 1) := by decide +kernel
theorem d_Mo_look_130 : decode b_Mo_look 130 = .ok (.baload, 1) := by decide +kernel
theorem d_Mo_look_131 : decode b_Mo_look 131 = .ok (.iconst 2, 1) := by decide +kernel
theorem d_Mo_look_132 : decode b_Mo_look 132 = .ok (.if_icmp .ne 7, 3) := by decide +kernel
theorem d_Mo_look_135 : decode b_Mo_look 135 = .ok (.iconst 1, 1) := by decide +kernel
theorem d_Mo_look_136 : decode b_Mo_look 136 = .ok (.goto 4, 3) := by decide +kernel
theorem d_Mo_look_139 : decode b_Mo_look 139 = .ok (.iconst 0, 1) := by decide +kernel
theorem d_Mo_look_140 : decode b_Mo_look 140 = .ok (.bastore, 1) := by decide +kernel
theorem d_Mo_look_141 : decode b_Mo_look 141 = .ok (.aload_n 0, 1) := by decide +kernel
theorem d_Mo_look_142 : decode b_Mo_look 142 = .ok (.getfield 55, 3) := by decide +kernel
theorem d_Mo_look_145 : decode b_Mo_look 145 = .ok (.iload_n 3, 1) := by decide +kernel
theorem d_Mo_look_146 : decode b_Mo_look 146 = .ok (.aload_n 0, 1) := by decide +kernel
theorem d_Mo_look_147 : decode b_Mo_look 147 = .ok (.getfield 55, 3) := by decide +kernel
theorem d_Mo_look_150 : decode b_Mo_look 150 = .ok (.iload_n 3, 1) := by decide +kernel
theorem d_Mo_look_151 : decode b_Mo_look 151 = .ok (.baload, 1) := by decide +kernel
theorem d_Mo_look_152 : decode b_Mo_look 152 = .ok (.ifCond .ne 13, 3) := by decide +kernel
theorem d_Mo_look_155 : decode b_Mo_look 155 = .ok (.aload_n 0, 1) := by decide +kernel
theorem d_Mo_look_156 : decode b_Mo_look 156 = .ok (.getfield 49, 3) := by decide +kernel
theorem d_Mo_look_159 : decode b_Mo_look 159 = .ok (.iload_n 1, 1) := by decide +kernel
theorem d_Mo_look_160 : decode b_Mo_look 160 = .ok (.baload, 1) := by decide +kernel
theorem d_Mo_look_161 : decode b_Mo_look 161 = .ok (.iconst 1, 1) := by decide +kernel
theorem d_Mo_look_162 : decode b_Mo_look 162 = .ok (.if_icmp .ne 7, 3) := by decide +kernel
theorem d_Mo_look_165 : decode b_Mo_look 165 = .ok (.iconst 1, 1) := by decide +kernel
theorem d_Mo_look_166 : decode b_Mo_look 166 = .ok (.goto 4, 3) := by decide +kernel
theorem d_Mo_look_169 : decode b_Mo_look 169 = .ok (.iconst 0, 1) := by decide +kernel
theorem d_Mo_look_170 : decode b_Mo_look 170 = .ok (.bastore, 1) := by decide +kernel
theorem d_Mo_look_171 : decode b_Mo_look 171 = .ok (.iinc 2 1, 3) := by decide +kernel
theorem d_Mo_look_174 : decode b_Mo_look 174 = .ok (.goto (-98), 3) := by decide +kernel
theorem d_Mo_look_177 : decode b_Mo_look 177 = .ok (.iinc 1 1, 3) := by decide +kernel
theorem d_Mo_look_180 : decode b_Mo_look 180 = .ok (.goto (-136), 3) := by decide +kernel
theorem d_Mo_look_183 : decode b_Mo_look 183 = .ok (.return_, 1) := by decide +kernel
theorem d_Mo_judge_0 : decode b_Mo_judge 0 = .ok (.iconst 0, 1) := by decide +kernel
theorem d_Mo_judge_1 : decode b_Mo_judge 1 = .ok (.istore_n 2, 1) := by decide +kernel
theorem d_Mo_judge_2 : decode b_Mo_judge 2 = .ok (.iconst 0, 1) := by decide +kernel
theorem d_Mo_judge_3 : decode b_Mo_judge 3 = .ok (.istore_n 3, 1) := by decide +kernel
theorem d_Mo_judge_4 : decode b_Mo_judge 4 = .ok (.iload_n 3, 1) := by decide +kernel
theorem d_Mo_judge_5 : decode b_Mo_judge 5 = .ok (.bipush 6, 2) := by decide +kernel
theorem d_Mo_judge_7 : decode b_Mo_judge 7 = .ok (.if_icmp .ge 77, 3) := by decide +kernel
theorem d_Mo_judge_10 : decode b_Mo_judge 10 = .ok (.iload_n 1, 1) := by decide +kernel
theorem d_Mo_judge_11 : decode b_Mo_judge 11 = .ok (.iconst 2, 1) := by decide +kernel
theorem d_Mo_judge_12 : decode b_Mo_judge 12 = .ok (.iload_n 3, 1) := by decide +kernel
theorem d_Mo_judge_13 : decode b_Mo_judge 13 = .ok (.imul, 1) := by decide +kernel
theorem d_Mo_judge_14 : decode b_Mo_judge 14 = .ok (.ishr, 1) := by decide +kernel
theorem d_Mo_judge_15 : decode b_Mo_judge 15 = .ok (.iconst 3, 1) := by decide +kernel
theorem d_Mo_judge_16 : decode b_Mo_judge 16 = .ok (.iand, 1) := by decide +kernel
theorem d_Mo_judge_17 : decode b_Mo_judge 17 = .ok (.istore 4, 2) := by decide +kernel
theorem d_Mo_judge_19 : decode b_Mo_judge 19 = .ok (.iload_n 3, 1) := by decide +kernel
theorem d_Mo_judge_20 : decode b_Mo_judge 20 = .ok (.aload_n 0, 1) := by decide +kernel
theorem d_Mo_judge_21 : decode b_Mo_judge 21 = .ok (.getfield 71, 3) := by decide +kernel
theorem d_Mo_judge_24 : decode b_Mo_judge 24 = .ok (.if_icmp .ge 17, 3) := by decide +kernel
theorem d_Mo_judge_27 : decode b_Mo_judge 27 = .ok (.iload 4, 2) := by decide +kernel
theorem d_Mo_judge_29 : decode b_Mo_judge 29 = .ok (.aload_n 0, 1) := by decide +kernel
theorem d_Mo_judge_30 : decode b_Mo_judge 30 = .ok (.getfield 7, 3) := by decide +kernel
theorem d_Mo_judge_33 : decode b_Mo_judge 33 = .ok (.iload_n 3, 1) := by decide +kernel
theorem d_Mo_judge_34 : decode b_Mo_judge 34 = .ok (.iaload, 1) := by decide +kernel
theorem d_Mo_judge_35 : decode b_Mo_judge 35 = .ok (.if_icmp .lt 13, 3) := by decide +kernel
theorem d_Mo_judge_38 : decode b_Mo_judge 38 = .ok (.goto 8, 3) := by decide +kernel
theorem d_Mo_judge_41 : decode b_Mo_judge 41 = .ok (.iload 4, 2) := by decide +kernel
theorem d_Mo_judge_43 : decode b_Mo_judge 43 = .ok (.ifCond .le 5, 3) := by decide +kernel
theorem d_Mo_judge_46 : decode b_Mo_judge 46 = .ok (.iconst (-1), 1) := by decide +kernel
theorem d_Mo_judge_47 : decode b_Mo_judge 47 = .ok (.ireturn, 1) := by decide +kernel
theorem d_Mo_judge_48 : decode b_Mo_judge 48 = .ok (.iload_n 2, 1) := by decide +kernel
theorem d_Mo_judge_49 : decode b_Mo_judge 49 = .ok (.iload_n 3, 1) := by decide +kernel
theorem d_Mo_judge_50 : decode b_Mo_judge 50 = .ok (.aload_n 0, 1) := by decide +kernel
theorem d_Mo_judge_51 : decode b_Mo_judge 51 = .ok (.getfield 71, 3) := by decide +kernel
theorem d_Mo_judge_54 : decode b_Mo_judge 54 = .ok (.if_icmp .ge 21, 3) := by decide +kernel
theorem d_Mo_judge_57 : decode b_Mo_judge 57 = .ok (.aload_n 0, 1) := by decide +kernel
theorem d_Mo_judge_58 : decode b_Mo_judge 58 = .ok (.getfield 13, 3) := by decide +kernel
theorem d_Mo_judge_61 : decode b_Mo_judge 61 = .ok (.iconst 4, 1) := by decide +kernel
theorem d_Mo_judge_62 : decode b_Mo_judge 62 = .ok (.iload_n 3, 1) := by decide +kernel
theorem d_Mo_judge_63 : decode b_Mo_judge 63 = .ok (.imul, 1) := by decide +kernel
theorem d_Mo_judge_64 : decode b_Mo_judge 64 = .ok (.iload 4, 2) := by decide +kernel
theorem d_Mo_judge_66 : decode b_Mo_judge 66 = .ok (.iadd, 1) := by decide +kernel
theorem d_Mo_judge_67 : decode b_Mo_judge 67 = .ok (.baload, 1) := by decide +kernel
theorem d_Mo_judge_68 : decode b_Mo_judge 68 = .ok (.ifCond .eq 7, 3) := by decide +kernel
theorem d_Mo_judge_71 : decode b_Mo_judge 71 = .ok (.iconst 1, 1) := by decide +kernel
theorem d_Mo_judge_72 : decode b_Mo_judge 72 = .ok (.goto 4, 3) := by decide +kernel
theorem d_Mo_judge_75 : decode b_Mo_judge 75 = .ok (.iconst 0, 1) := by decide +kernel
theorem d_Mo_judge_76 : decode b_Mo_judge 76 = .ok (.iadd, 1) := by decide +kernel
theorem d_Mo_judge_77 : decode b_Mo_judge 77 = .ok (.istore_n 2, 1) := by decide +kernel
theorem d_Mo_judge_78 : decode b_Mo_judge 78 = .ok (.iinc 3 1, 3) := by decide +kernel
theorem d_Mo_judge_81 : decode b_Mo_judge 81 = .ok (.goto (-77), 3) := by decide +kernel
theorem d_Mo_judge_84 : decode b_Mo_judge 84 = .ok (.iload_n 2, 1) := by decide +kernel
theorem d_Mo_judge_85 : decode b_Mo_judge 85 = .ok (.iconst 1, 1) := by decide +kernel
theorem d_Mo_judge_86 : decode b_Mo_judge 86 = .ok (.if_icmp .gt 11, 3) := by decide +kernel
theorem d_Mo_judge_89 : decode b_Mo_judge 89 = .ok (.aload_n 0, 1) := by decide +kernel
theorem d_Mo_judge_90 : decode b_Mo_judge 90 = .ok (.iload_n 1, 1) := by decide +kernel
theorem d_Mo_judge_91 : decode b_Mo_judge 91 = .ok (.invokevirtual 105, 3) := by decide +kernel
theorem d_Mo_judge_94 : decode b_Mo_judge 94 = .ok (.ifCond .ne 7, 3) := by decide +kernel
theorem d_Mo_judge_97 : decode b_Mo_judge 97 = .ok (.iconst 0, 1) := by decide +kernel
theorem d_Mo_judge_98 : decode b_Mo_judge 98 = .ok (.goto 6, 3) := by decide +kernel
theorem d_Mo_judge_101 : decode b_Mo_judge 101 = .ok (.iconst 2, 1) := by decide +kernel
theorem d_Mo_judge_102 : decode b_Mo_judge 102 = .ok (.iload_n 2, 1) := by decide +kernel
theorem d_Mo_judge_103 : decode b_Mo_judge 103 = .ok (.isub, 1) := by decide +kernel
theorem d_Mo_judge_104 : decode b_Mo_judge 104 = .ok (.ireturn, 1) := by decide +kernel
theorem d_Mo_meets_0 : decode b_Mo_meets 0 = .ok (.iconst 0, 1) := by decide +kernel
theorem d_Mo_meets_1 : decode b_Mo_meets 1 = .ok (.istore_n 2, 1) := by decide +kernel
theorem d_Mo_meets_2 : decode b_Mo_meets 2 = .ok (.iload_n 2, 1) := by decide +kernel
theorem d_Mo_meets_3 : decode b_Mo_meets 3 = .ok (.aload_n 0, 1) := by decide +kernel
theorem d_Mo_meets_4 : decode b_Mo_meets 4 = .ok (.getfield 89, 3) := by decide +kernel
theorem d_Mo_meets_7 : decode b_Mo_meets 7 = .ok (.if_icmp .ge 202, 3) := by decide +kernel
theorem d_Mo_meets_10 : decode b_Mo_meets 10 = .ok (.aload_n 0, 1) := by decide +kernel
theorem d_Mo_meets_11 : decode b_Mo_meets 11 = .ok (.getfield 27, 3) := by decide +kernel
theorem d_Mo_meets_14 : decode b_Mo_meets 14 = .ok (.iload_n 2, 1) := by decide +kernel
theorem d_Mo_meets_15 : decode b_Mo_meets 15 = .ok (.saload, 1) := by decide +kernel
theorem d_Mo_meets_16 : decode b_Mo_meets 16 = .ok (.istore_n 3, 1) := by decide +kernel
theorem d_Mo_meets_17 : decode b_Mo_meets 17 = .ok (.aload_n 0, 1) := by decide +kernel
theorem d_Mo_meets_18 : decode b_Mo_meets 18 = .ok (.getfield 31, 3) := by decide +kernel
theorem d_Mo_meets_21 : decode b_Mo_meets 21 = .ok (.iload_n 2, 1) := by decide +kernel
theorem d_Mo_meets_22 : decode b_Mo_meets 22 = .ok (.saload, 1) := by decide +kernel
theorem d_Mo_meets_23 : decode b_Mo_meets 23 = .ok (.istore 4, 2) := by decide +kernel
theorem d_Mo_meets_25 : decode b_Mo_meets 25 = .ok (.aload_n 0, 1) := by decide +kernel
theorem d_Mo_meets_26 : decode b_Mo_meets 26 = .ok (.getfield 23, 3) := by decide +kernel
theorem d_Mo_meets_29 : decode b_Mo_meets 29 = .ok (.iload_n 2, 1) := by decide +kernel
theorem d_Mo_meets_30 : decode b_Mo_meets 30 = .ok (.baload, 1) := by decide +kernel
theorem d_Mo_meets_31 : decode b_Mo_meets 31 = .ok (.iconst 4, 1) := by decide +kernel
theorem d_Mo_meets_32 : decode b_Mo_meets 32 = .ok (.if_icmp .ne 29, 3) := by decide +kernel
theorem d_Mo_meets_35 : decode b_Mo_meets 35 = .ok (.aload_n 0, 1) := by decide +kernel
theorem d_Mo_meets_36 : decode b_Mo_meets 36 = .ok (.getfield 37, 3) := by decide +kernel
theorem d_Mo_meets_39 : decode b_Mo_meets 39 = .ok (.iload_n 2, 1) := by decide +kernel
theorem d_Mo_meets_40 : decode b_Mo_meets 40 = .ok (.iload_n 1, 1) := by decide +kernel
theorem d_Mo_meets_41 : decode b_Mo_meets 41 = .ok (.iconst 2, 1) := by decide +kernel
theorem d_Mo_meets_42 : decode b_Mo_meets 42 = .ok (.iload_n 3, 1) := by decide +kernel
theorem d_Mo_meets_43 : decode b_Mo_meets 43 = .ok (.imul, 1) := by decide +kernel
theorem d_Mo_meets_44 : decode b_Mo_meets 44 = .ok (.ishr, 1) := by decide +kernel
theorem d_Mo_meets_45 : decode b_Mo_meets 45 = .ok (.iconst 3, 1) := by decide +kernel
theorem d_Mo_meets_46 : decode b_Mo_meets 46 = .ok (.iand, 1) := by decide +kernel
theorem d_Mo_meets_47 : decode b_Mo_meets 47 = .ok (.iload 4, 2) := by decide +kernel
theorem d_Mo_meets_49 : decode b_Mo_meets 49 = .ok (.if_icmp .ne 7, 3) := by decide +kernel
theorem d_Mo_meets_52 : decode b_Mo_meets 52 = .ok (.iconst 1, 1) := by decide +kernel
theorem d_Mo_meets_53 : decode b_Mo_meets 53 = .ok (.goto 4, 3) := by decide +kernel
theorem d_Mo_meets_56 : decode b_Mo_meets 56 = .ok (.iconst 0, 1) := by decide +kernel
theorem d_Mo_meets_57 : decode b_Mo_meets 57 = .ok (.bastore, 1) := by decide +kernel
theorem d_Mo_meets_58 : decode b_Mo_meets 58 = .ok (.goto 145, 3) := by decide +kernel
theorem d_Mo_meets_61 : decode b_Mo_meets 61 = .ok (.aload_n 0, 1) := by decide +kernel
theorem d_Mo_meets_62 : decode b_Mo_meets 62 = .ok (.getfield 23, 3) := by decide +kernel
theorem d_Mo_meets_65 : decode b_Mo_meets 65 = .ok (.iload_n 2, 1) := by decide +kernel
theorem d_Mo_meets_66 : decode b_Mo_meets 66 = .ok (.baload, 1) := by decide +kernel
theorem d_Mo_meets_67 : decode b_Mo_meets 67 = .ok (.iconst 3, 1) := by decide +kernel
theorem d_Mo_meets_68 : decode b_Mo_meets 68 = .ok (.if_icmp .ne 26, 3) := by decide +kernel
theorem d_Mo_meets_71 : decode b_Mo_meets 71 = .ok (.aload_n 0, 1) := by decide +kernel
theorem d_Mo_meets_72 : decode b_Mo_meets 72 = .ok (.getfield 37, 3) := by decide +kernel
theorem d_Mo_meets_75 : decode b_Mo_meets 75 = .ok (.iload_n 2, 1) := by decide +kernel
theorem d_Mo_meets_76 : decode b_Mo_meets 76 = .ok (.aload_n 0, 1) := by decide +kernel
theorem d_Mo_meets_77 : decode b_Mo_meets 77 = .ok (.getfield 37, 3) := by decide +kernel
theorem d_Mo_meets_80 : decode b_Mo_meets 80 = .ok (.iload_n 3, 1) := by decide +kernel
theorem d_Mo_meets_81 : decode b_Mo_meets 81 = .ok (.baload, 1) := by decide +kernel
theorem d_Mo_meets_82 : decode b_Mo_meets 82 = .ok (.ifCond .ne 7, 3) := by decide +kernel
theorem d_Mo_meets_85 : decode b_Mo_meets 85 = .ok (.iconst 1, 1) := by decide +kernel
theorem d_Mo_meets_86 : decode b_Mo_meets 86 = .ok (.goto 4, 3) := by decide +kernel
theorem d_Mo_meets_89 : decode b_Mo_meets 89 = .ok (.iconst 0, 1) := by decide +kernel
theorem d_Mo_meets_90 : decode b_Mo_meets 90 = .ok (.bastore, 1) := by decide +kernel
theorem d_Mo_meets_91 : decode b_Mo_meets 91 = .ok (.goto 112, 3) := by decide +kernel
theorem d_Mo_meets_94 : decode b_Mo_meets 94 = .ok (.aload_n 0, 1) := by decide +kernel
theorem d_Mo_meets_95 : decode b_Mo_meets 95 = .ok (.getfield 23, 3) := by decide +kernel
theorem d_Mo_meets_98 : decode b_Mo_meets 98 = .ok (.iload_n 2, 1) := by decide +kernel
theorem d_Mo_meets_99 : decode b_Mo_meets 99 = .ok (.baload, 1) := by decide +kernel
theorem d_Mo_meets_100 : decode b_Mo_meets 100 = .ok (.iconst 2, 1) := by decide +kernel
theorem d_Mo_meets_101 : decode b_Mo_meets 101 = .ok (.if_icmp .ne 36, 3) := by decide +kernel
theorem d_Mo_meets_104 : decode b_Mo_meets 104 = .ok (.aload_n 0, 1) := by decide +kernel
end
section
theorem d_Mo_meets_105 : decode b_Mo_meets 105 = .ok (.getfield 37, 3) := by decide +kernel
theorem d_Mo_meets_108 : decode b_Mo_meets 108 = .ok (.iload_n 2, 1) := by decide +kernel
theorem d_Mo_meets_109 : decode b_Mo_meets 109 = .ok (.aload_n 0, 1) := by decide +kernel
theorem d_Mo_meets_110 : decode b_Mo_meets 110 = .ok (.getfield 37, 3) := by decide +kernel
theorem d_Mo_meets_113 : decode b_Mo_meets 113 = .ok (.iload_n 3, 1) := by decide +kernel
theorem d_Mo_meets_114 : decode b_Mo_meets 114 = .ok (.baload, 1) := by decide +kernel
theorem d_Mo_meets_115 : decode b_Mo_meets 115 = .ok (.ifCond .eq 13, 3) := by decide +kernel
theorem d_Mo_meets_118 : decode b_Mo_meets 118 = .ok (.aload_n 0, 1) := by decide +kernel
theorem d_Mo_meets_119 : decode b_Mo_meets 119 = .ok (.getfield 37, 3) := by decide +kernel
theorem d_Mo_meets_122 : decode b_Mo_meets 122 = .ok (.iload 4, 2) := by decide +kernel
theorem d_Mo_meets_124 : decode b_Mo_meets 124 = .ok (.baload, 1) := by decide +kernel
theorem d_Mo_meets_125 : decode b_Mo_meets 125 = .ok (.ifCond .eq 7, 3) := by decide +kernel
theorem d_Mo_meets_128 : decode b_Mo_meets 128 = .ok (.iconst 1, 1) := by decide +kernel
theorem d_Mo_meets_129 : decode b_Mo_meets 129 = .ok (.goto 4, 3) := by decide +kernel
theorem d_Mo_meets_132 : decode b_Mo_meets 132 = .ok (.iconst 0, 1) := by decide +kernel
theorem d_Mo_meets_133 : decode b_Mo_meets 133 = .ok (.bastore, 1) := by decide +kernel
theorem d_Mo_meets_134 : decode b_Mo_meets 134 = .ok (.goto 69, 3) := by decide +kernel
theorem d_Mo_meets_137 : decode b_Mo_meets 137 = .ok (.aload_n 0, 1) := by decide +kernel
theorem d_Mo_meets_138 : decode b_Mo_meets 138 = .ok (.getfield 37, 3) := by decide +kernel
theorem d_Mo_meets_141 : decode b_Mo_meets 141 = .ok (.iload_n 2, 1) := by decide +kernel
theorem d_Mo_meets_142 : decode b_Mo_meets 142 = .ok (.aload_n 0, 1) := by decide +kernel
theorem d_Mo_meets_143 : decode b_Mo_meets 143 = .ok (.getfield 23, 3) := by decide +kernel
theorem d_Mo_meets_146 : decode b_Mo_meets 146 = .ok (.iload_n 2, 1) := by decide +kernel
theorem d_Mo_meets_147 : decode b_Mo_meets 147 = .ok (.baload, 1) := by decide +kernel
theorem d_Mo_meets_148 : decode b_Mo_meets 148 = .ok (.ifCond .ne 30, 3) := by decide +kernel
theorem d_Mo_meets_151 : decode b_Mo_meets 151 = .ok (.aload_n 0, 1) := by decide +kernel
theorem d_Mo_meets_152 : decode b_Mo_meets 152 = .ok (.getfield 37, 3) := by decide +kernel
theorem d_Mo_meets_155 : decode b_Mo_meets 155 = .ok (.iload_n 3, 1) := by decide +kernel
theorem d_Mo_meets_156 : decode b_Mo_meets 156 = .ok (.baload, 1) := by decide +kernel
theorem d_Mo_meets_157 : decode b_Mo_meets 157 = .ok (.ifCond .eq 17, 3) := by decide +kernel
theorem d_Mo_meets_160 : decode b_Mo_meets 160 = .ok (.aload_n 0, 1) := by decide +kernel
theorem d_Mo_meets_161 : decode b_Mo_meets 161 = .ok (.getfield 37, 3) := by decide +kernel
theorem d_Mo_meets_164 : decode b_Mo_meets 164 = .ok (.iload 4, 2) := by decide +kernel
theorem d_Mo_meets_166 : decode b_Mo_meets 166 = .ok (.baload, 1) := by decide +kernel
theorem d_Mo_meets_167 : decode b_Mo_meets 167 = .ok (.ifCond .eq 7, 3) := by decide +kernel
theorem d_Mo_meets_170 : decode b_Mo_meets 170 = .ok (.iconst 1, 1) := by decide +kernel
theorem d_Mo_meets_171 : decode b_Mo_meets 171 = .ok (.goto 31, 3) := by decide +kernel
theorem d_Mo_meets_174 : decode b_Mo_meets 174 = .ok (.iconst 0, 1) := by decide +kernel
theorem d_Mo_meets_175 : decode b_Mo_meets 175 = .ok (.goto 27, 3) := by decide +kernel
theorem d_Mo_meets_178 : decode b_Mo_meets 178 = .ok (.aload_n 0, 1) := by decide +kernel
theorem d_Mo_meets_179 : decode b_Mo_meets 179 = .ok (.getfield 37, 3) := by decide +kernel
theorem d_Mo_meets_182 : decode b_Mo_meets 182 = .ok (.iload_n 3, 1) := by decide +kernel
theorem d_Mo_meets_183 : decode b_Mo_meets 183 = .ok (.baload, 1) := by decide +kernel
theorem d_Mo_meets_184 : decode b_Mo_meets 184 = .ok (.ifCond .ne 13, 3) := by decide +kernel
theorem d_Mo_meets_187 : decode b_Mo_meets 187 = .ok (.aload_n 0, 1) := by decide +kernel
theorem d_Mo_meets_188 : decode b_Mo_meets 188 = .ok (.getfield 37, 3) := by decide +kernel
theorem d_Mo_meets_191 : decode b_Mo_meets 191 = .ok (.iload 4, 2) := by decide +kernel
theorem d_Mo_meets_193 : decode b_Mo_meets 193 = .ok (.baload, 1) := by decide +kernel
theorem d_Mo_meets_194 : decode b_Mo_meets 194 = .ok (.ifCond .eq 7, 3) := by decide +kernel
theorem d_Mo_meets_197 : decode b_Mo_meets 197 = .ok (.iconst 1, 1) := by decide +kernel
theorem d_Mo_meets_198 : decode b_Mo_meets 198 = .ok (.goto 4, 3) := by decide +kernel
theorem d_Mo_meets_201 : decode b_Mo_meets 201 = .ok (.iconst 0, 1) := by decide +kernel
theorem d_Mo_meets_202 : decode b_Mo_meets 202 = .ok (.bastore, 1) := by decide +kernel
theorem d_Mo_meets_203 : decode b_Mo_meets 203 = .ok (.iinc 2 1, 3) := by decide +kernel
theorem d_Mo_meets_206 : decode b_Mo_meets 206 = .ok (.goto (-204), 3) := by decide +kernel
theorem d_Mo_meets_209 : decode b_Mo_meets 209 = .ok (.iconst 1, 1) := by decide +kernel
theorem d_Mo_meets_210 : decode b_Mo_meets 210 = .ok (.istore_n 2, 1) := by decide +kernel
theorem d_Mo_meets_211 : decode b_Mo_meets 211 = .ok (.iconst 0, 1) := by decide +kernel
theorem d_Mo_meets_212 : decode b_Mo_meets 212 = .ok (.istore_n 3, 1) := by decide +kernel
theorem d_Mo_meets_213 : decode b_Mo_meets 213 = .ok (.iload_n 3, 1) := by decide +kernel
theorem d_Mo_meets_214 : decode b_Mo_meets 214 = .ok (.aload_n 0, 1) := by decide +kernel
theorem d_Mo_meets_215 : decode b_Mo_meets 215 = .ok (.getfield 99, 3) := by decide +kernel
theorem d_Mo_meets_218 : decode b_Mo_meets 218 = .ok (.if_icmp .ge 33, 3) := by decide +kernel
theorem d_Mo_meets_221 : decode b_Mo_meets 221 = .ok (.iload_n 2, 1) := by decide +kernel
theorem d_Mo_meets_222 : decode b_Mo_meets 222 = .ok (.ifCond .eq 21, 3) := by decide +kernel
theorem d_Mo_meets_225 : decode b_Mo_meets 225 = .ok (.aload_n 0, 1) := by decide +kernel
theorem d_Mo_meets_226 : decode b_Mo_meets 226 = .ok (.getfield 37, 3) := by decide +kernel
theorem d_Mo_meets_229 : decode b_Mo_meets 229 = .ok (.aload_n 0, 1) := by decide +kernel
theorem d_Mo_meets_230 : decode b_Mo_meets 230 = .ok (.getfield 43, 3) := by decide +kernel
theorem d_Mo_meets_233 : decode b_Mo_meets 233 = .ok (.iload_n 3, 1) := by decide +kernel
theorem d_Mo_meets_234 : decode b_Mo_meets 234 = .ok (.iaload, 1) := by decide +kernel
theorem d_Mo_meets_235 : decode b_Mo_meets 235 = .ok (.baload, 1) := by decide +kernel
theorem d_Mo_meets_236 : decode b_Mo_meets 236 = .ok (.ifCond .eq 7, 3) := by decide +kernel
theorem d_Mo_meets_239 : decode b_Mo_meets 239 = .ok (.iconst 1, 1) := by decide +kernel
theorem d_Mo_meets_240 : decode b_Mo_meets 240 = .ok (.goto 4, 3) := by decide +kernel
theorem d_Mo_meets_243 : decode b_Mo_meets 243 = .ok (.iconst 0, 1) := by decide +kernel
theorem d_Mo_meets_244 : decode b_Mo_meets 244 = .ok (.istore_n 2, 1) := by decide +kernel
theorem d_Mo_meets_245 : decode b_Mo_meets 245 = .ok (.iinc 3 1, 3) := by decide +kernel
theorem d_Mo_meets_248 : decode b_Mo_meets 248 = .ok (.goto (-35), 3) := by decide +kernel
theorem d_Mo_meets_251 : decode b_Mo_meets 251 = .ok (.iload_n 2, 1) := by decide +kernel
theorem d_Mo_meets_252 : decode b_Mo_meets 252 = .ok (.ireturn, 1) := by decide +kernel
theorem d_Mo_place_0 : decode b_Mo_place 0 = .ok (.iconst 0, 1) := by decide +kernel
theorem d_Mo_place_1 : decode b_Mo_place 1 = .ok (.istore_n 3, 1) := by decide +kernel
theorem d_Mo_place_2 : decode b_Mo_place 2 = .ok (.iconst 0, 1) := by decide +kernel
theorem d_Mo_place_3 : decode b_Mo_place 3 = .ok (.istore 4, 2) := by decide +kernel
theorem d_Mo_place_5 : decode b_Mo_place 5 = .ok (.iconst 0, 1) := by decide +kernel
theorem d_Mo_place_6 : decode b_Mo_place 6 = .ok (.istore 5, 2) := by decide +kernel
theorem d_Mo_place_8 : decode b_Mo_place 8 = .ok (.iload 5, 2) := by decide +kernel
theorem d_Mo_place_10 : decode b_Mo_place 10 = .ok (.bipush 6, 2) := by decide +kernel
theorem d_Mo_place_12 : decode b_Mo_place 12 = .ok (.if_icmp .ge 39, 3) := by decide +kernel
theorem d_Mo_place_15 : decode b_Mo_place 15 = .ok (.iload_n 2, 1) := by decide +kernel
theorem d_Mo_place_16 : decode b_Mo_place 16 = .ok (.iload 5, 2) := by decide +kernel
theorem d_Mo_place_18 : decode b_Mo_place 18 = .ok (.ishr, 1) := by decide +kernel
theorem d_Mo_place_19 : decode b_Mo_place 19 = .ok (.iconst 1, 1) := by decide +kernel
theorem d_Mo_place_20 : decode b_Mo_place 20 = .ok (.iand, 1) := by decide +kernel
theorem d_Mo_place_21 : decode b_Mo_place 21 = .ok (.iconst 1, 1) := by decide +kernel
theorem d_Mo_place_22 : decode b_Mo_place 22 = .ok (.if_icmp .ne 23, 3) := by decide +kernel
theorem d_Mo_place_25 : decode b_Mo_place 25 = .ok (.iload_n 3, 1) := by decide +kernel
theorem d_Mo_place_26 : decode b_Mo_place 26 = .ok (.iload_n 1, 1) := by decide +kernel
theorem d_Mo_place_27 : decode b_Mo_place 27 = .ok (.iconst 2, 1) := by decide +kernel
theorem d_Mo_place_28 : decode b_Mo_place 28 = .ok (.iload 5, 2) := by decide +kernel
theorem d_Mo_place_30 : decode b_Mo_place 30 = .ok (.imul, 1) := by decide +kernel
theorem d_Mo_place_31 : decode b_Mo_place 31 = .ok (.ishr, 1) := by decide +kernel
theorem d_Mo_place_32 : decode b_Mo_place 32 = .ok (.iconst 3, 1) := by decide +kernel
theorem d_Mo_place_33 : decode b_Mo_place 33 = .ok (.iand, 1) := by decide +kernel
theorem d_Mo_place_34 : decode b_Mo_place 34 = .ok (.iload 4, 2) := by decide +kernel
theorem d_Mo_place_36 : decode b_Mo_place 36 = .ok (.ishl, 1) := by decide +kernel
theorem d_Mo_place_37 : decode b_Mo_place 37 = .ok (.ior, 1) := by decide +kernel
theorem d_Mo_place_38 : decode b_Mo_place 38 = .ok (.istore_n 3, 1) := by decide +kernel
theorem d_Mo_place_39 : decode b_Mo_place 39 = .ok (.iload 4, 2) := by decide +kernel
theorem d_Mo_place_41 : decode b_Mo_place 41 = .ok (.iconst 2, 1) := by decide +kernel
theorem d_Mo_place_42 : decode b_Mo_place 42 = .ok (.iadd, 1) := by decide +kernel
theorem d_Mo_place_43 : decode b_Mo_place 43 = .ok (.istore 4, 2) := by decide +kernel
theorem d_Mo_place_45 : decode b_Mo_place 45 = .ok (.iinc 5 1, 3) := by decide +kernel
theorem d_Mo_place_48 : decode b_Mo_place 48 = .ok (.goto (-40), 3) := by decide +kernel
theorem d_Mo_place_51 : decode b_Mo_place 51 = .ok (.bipush 64, 2) := by decide +kernel
theorem d_Mo_place_53 : decode b_Mo_place 53 = .ok (.iload_n 2, 1) := by decide +kernel
theorem d_Mo_place_54 : decode b_Mo_place 54 = .ok (.imul, 1) := by decide +kernel
theorem d_Mo_place_55 : decode b_Mo_place 55 = .ok (.iload_n 3, 1) := by decide +kernel
theorem d_Mo_place_56 : decode b_Mo_place 56 = .ok (.iadd, 1) := by decide +kernel
theorem d_Mo_place_57 : decode b_Mo_place 57 = .ok (.ireturn, 1) := by decide +kernel
theorem d_Mo_asked_0 : decode b_Mo_asked 0 = .ok (.iconst 0, 1) := by decide +kernel
theorem d_Mo_asked_1 : decode b_Mo_asked 1 = .ok (.istore_n 2, 1) := by decide +kernel
theorem d_Mo_asked_2 : decode b_Mo_asked 2 = .ok (.iconst 0, 1) := by decide +kernel
theorem d_Mo_asked_3 : decode b_Mo_asked 3 = .ok (.istore_n 3, 1) := by decide +kernel
theorem d_Mo_asked_4 : decode b_Mo_asked 4 = .ok (.iload_n 3, 1) := by decide +kernel
theorem d_Mo_asked_5 : decode b_Mo_asked 5 = .ok (.aload_n 0, 1) := by decide +kernel
theorem d_Mo_asked_6 : decode b_Mo_asked 6 = .ok (.getfield 86, 3) := by decide +kernel
theorem d_Mo_asked_9 : decode b_Mo_asked 9 = .ok (.if_icmp .ge 46, 3) := by decide +kernel
theorem d_Mo_asked_12 : decode b_Mo_asked 12 = .ok (.iload_n 2, 1) := by decide +kernel
theorem d_Mo_asked_13 : decode b_Mo_asked 13 = .ok (.ifCond .ne 30, 3) := by decide +kernel
theorem d_Mo_asked_16 : decode b_Mo_asked 16 = .ok (.iload_n 1, 1) := by decide +kernel
theorem d_Mo_asked_17 : decode b_Mo_asked 17 = .ok (.aload_n 0, 1) := by decide +kernel
theorem d_Mo_asked_18 : decode b_Mo_asked 18 = .ok (.getfield 17, 3) := by decide +kernel
theorem d_Mo_asked_21 : decode b_Mo_asked 21 = .ok (.iload_n 3, 1) := by decide +kernel
theorem d_Mo_asked_22 : decode b_Mo_asked 22 = .ok (.iaload, 1) := by decide +kernel
theorem d_Mo_asked_23 : decode b_Mo_asked 23 = .ok (.iconst (-1), 1) := by decide +kernel
theorem d_Mo_asked_24 : decode b_Mo_asked 24 = .ok (.ixor, 1) := by decide +kernel
theorem d_Mo_asked_25 : decode b_Mo_asked 25 = .ok (.iand, 1) := by decide +kernel
theorem d_Mo_asked_26 : decode b_Mo_asked 26 = .ok (.ifCond .ne 21, 3) := by decide +kernel
theorem d_Mo_asked_29 : decode b_Mo_asked 29 = .ok (.aload_n 0, 1) := by decide +kernel
theorem d_Mo_asked_30 : decode b_Mo_asked 30 = .ok (.iload_n 1, 1) := by decide +kernel
theorem d_Mo_asked_31 : decode b_Mo_asked 31 = .ok (.invokevirtual 82, 3) := by decide +kernel
theorem d_Mo_asked_34 : decode b_Mo_asked 34 = .ok (.aload_n 0, 1) := by decide +kernel
theorem d_Mo_asked_35 : decode b_Mo_asked 35 = .ok (.getfield 20, 3) := by decide +kernel
theorem d_Mo_asked_38 : decode b_Mo_asked 38 = .ok (.iload_n 3, 1) := by decide +kernel
theorem d_Mo_asked_39 : decode b_Mo_asked 39 = .ok (.iaload, 1) := by decide +kernel
theorem d_Mo_asked_40 : decode b_Mo_asked 40 = .ok (.if_icmp .ne 7, 3) := by decide +kernel
theorem d_Mo_asked_43 : decode b_Mo_asked 43 = .ok (.iconst 1, 1) := by decide +kernel
theorem d_Mo_asked_44 : decode b_Mo_asked 44 = .ok (.goto 4, 3) := by decide +kernel
theorem d_Mo_asked_47 : decode b_Mo_asked 47 = .ok (.iconst 0, 1) := by decide +kernel
theorem d_Mo_asked_48 : decode b_Mo_asked 48 = .ok (.istore_n 2, 1) := by decide +kernel
theorem d_Mo_asked_49 : decode b_Mo_asked 49 = .ok (.iinc 3 1, 3) := by decide +kernel
theorem d_Mo_asked_52 : decode b_Mo_asked 52 = .ok (.goto (-48), 3) := by decide +kernel
theorem d_Mo_asked_55 : decode b_Mo_asked 55 = .ok (.iload_n 2, 1) := by decide +kernel
theorem d_Mo_asked_56 : decode b_Mo_asked 56 = .ok (.ireturn, 1) := by decide +kernel
theorem d_Mo_wrong_0 : decode b_Mo_wrong 0 = .ok (.iload_n 1, 1) := by decide +kernel
theorem d_Mo_wrong_1 : decode b_Mo_wrong 1 = .ok (.bipush 64, 2) := by decide +kernel
theorem d_Mo_wrong_3 : decode b_Mo_wrong 3 = .ok (.idiv, 1) := by decide +kernel
theorem d_Mo_wrong_4 : decode b_Mo_wrong 4 = .ok (.istore_n 2, 1) := by decide +kernel
theorem d_Mo_wrong_5 : decode b_Mo_wrong 5 = .ok (.iload_n 1, 1) := by decide +kernel
theorem d_Mo_wrong_6 : decode b_Mo_wrong 6 = .ok (.bipush 64, 2) := by decide +kernel
theorem d_Mo_wrong_8 : decode b_Mo_wrong 8 = .ok (.irem, 1) := by decide +kernel
theorem d_Mo_wrong_9 : decode b_Mo_wrong 9 = .ok (.istore_n 3, 1) := by decide +kernel
theorem d_Mo_wrong_10 : decode b_Mo_wrong 10 = .ok (.iconst 0, 1) := by decide +kernel
theorem d_Mo_wrong_11 : decode b_Mo_wrong 11 = .ok (.istore 4, 2) := by decide +kernel
theorem d_Mo_wrong_13 : decode b_Mo_wrong 13 = .ok (.iconst 0, 1) := by decide +kernel
theorem d_Mo_wrong_14 : decode b_Mo_wrong 14 = .ok (.istore 5, 2) := by decide +kernel
theorem d_Mo_wrong_16 : decode b_Mo_wrong 16 = .ok (.iload 5, 2) := by decide +kernel
theorem d_Mo_wrong_18 : decode b_Mo_wrong 18 = .ok (.bipush 6, 2) := by decide +kernel
theorem d_Mo_wrong_20 : decode b_Mo_wrong 20 = .ok (.if_icmp .ge 67, 3) := by decide +kernel
theorem d_Mo_wrong_23 : decode b_Mo_wrong 23 = .ok (.iload_n 2, 1) := by decide +kernel
theorem d_Mo_wrong_24 : decode b_Mo_wrong 24 = .ok (.iload 5, 2) := by decide +kernel
theorem d_Mo_wrong_26 : decode b_Mo_wrong 26 = .ok (.ishr, 1) := by decide +kernel
theorem d_Mo_wrong_27 : decode b_Mo_wrong 27 = .ok (.iconst 1, 1) := by decide +kernel
theorem d_Mo_wrong_28 : decode b_Mo_wrong 28 = .ok (.iand, 1) := by decide +kernel
theorem d_Mo_wrong_29 : decode b_Mo_wrong 29 = .ok (.iconst 1, 1) := by decide +kernel
theorem d_Mo_wrong_30 : decode b_Mo_wrong 30 = .ok (.if_icmp .ne 51, 3) := by decide +kernel
theorem d_Mo_wrong_33 : decode b_Mo_wrong 33 = .ok (.iload_n 3, 1) := by decide +kernel
theorem d_Mo_wrong_34 : decode b_Mo_wrong 34 = .ok (.iconst 3, 1) := by decide +kernel
theorem d_Mo_wrong_35 : decode b_Mo_wrong 35 = .ok (.iand, 1) := by decide +kernel
theorem d_Mo_wrong_36 : decode b_Mo_wrong 36 = .ok (.istore 6, 2) := by decide +kernel
theorem d_Mo_wrong_38 : decode b_Mo_wrong 38 = .ok (.iload_n 3, 1) := by decide +kernel
theorem d_Mo_wrong_39 : decode b_Mo_wrong 39 = .ok (.iconst 2, 1) := by decide +kernel
theorem d_Mo_wrong_40 : decode b_Mo_wrong 40 = .ok (.ishr, 1) := by decide +kernel
theorem d_Mo_wrong_41 : decode b_Mo_wrong 41 = .ok (.istore_n 3, 1) := by decide +kernel
theorem d_Mo_wrong_42 : decode b_Mo_wrong 42 = .ok (.iload 6, 2) := by decide +kernel
theorem d_Mo_wrong_44 : decode b_Mo_wrong 44 = .ok (.aload_n 0, 1) := by decide +kernel
theorem d_Mo_wrong_45 : decode b_Mo_wrong 45 = .ok (.getfield 7, 3) := by decide +kernel
theorem d_Mo_wrong_48 : decode b_Mo_wrong 48 = .ok (.iload 5, 2) := by decide +kernel
theorem d_Mo_wrong_50 : decode b_Mo_wrong 50 = .ok (.iaload, 1) := by decide +kernel
theorem d_Mo_wrong_51 : decode b_Mo_wrong 51 = .ok (.if_icmp .lt 5, 3) := by decide +kernel
theorem d_Mo_wrong_54 : decode b_Mo_wrong 54 = .ok (.iconst (-1), 1) := by decide +kernel
theorem d_Mo_wrong_55 : decode b_Mo_wrong 55 = .ok (.ireturn, 1) := by decide +kernel
theorem d_Mo_wrong_56 : decode b_Mo_wrong 56 = .ok (.iload 4, 2) := by decide +kernel
theorem d_Mo_wrong_58 : decode b_Mo_wrong 58 = .ok (.aload_n 0, 1) := by decide +kernel
theorem d_Mo_wrong_59 : decode b_Mo_wrong 59 = .ok (.getfield 13, 3) := by decide +kernel
theorem d_Mo_wrong_62 : decode b_Mo_wrong 62 = .ok (.iconst 4, 1) := by decide +kernel
theorem d_Mo_wrong_63 : decode b_Mo_wrong 63 = .ok (.iload 5, 2) := by decide +kernel
theorem d_Mo_wrong_65 : decode b_Mo_wrong 65 = .ok (.imul, 1) := by decide +kernel
theorem d_Mo_wrong_66 : decode b_Mo_wrong 66 = .ok (.iload 6, 2) := by decide +kernel
theorem d_Mo_wrong_68 : decode b_Mo_wrong 68 = .ok (.iadd, 1) := by decide +kernel
theorem d_Mo_wrong_69 : decode b_Mo_wrong 69 = .ok (.baload, 1) := by decide +kernel
theorem d_Mo_wrong_70 : decode b_Mo_wrong 70 = .ok (.ifCond .eq 7, 3) := by decide +kernel
theorem d_Mo_wrong_73 : decode b_Mo_wrong 73 = .ok (.iconst 1, 1) := by decide +kernel
theorem d_Mo_wrong_74 : decode b_Mo_wrong 74 = .ok (.goto 4, 3) := by decide +kernel
theorem d_Mo_wrong_77 : decode b_Mo_wrong 77 = .ok (.iconst 0, 1) := by decide +kernel
theorem d_Mo_wrong_78 : decode b_Mo_wrong 78 = .ok (.iadd, 1) := by decide +kernel
theorem d_Mo_wrong_79 : decode b_Mo_wrong 79 = .ok (.istore 4, 2) := by decide +kernel
theorem d_Mo_wrong_81 : decode b_Mo_wrong 81 = .ok (.iinc 5 1, 3) := by decide +kernel
theorem d_Mo_wrong_84 : decode b_Mo_wrong 84 = .ok (.goto (-68), 3) := by decide +kernel
theorem d_Mo_wrong_87 : decode b_Mo_wrong 87 = .ok (.iload_n 3, 1) := by decide +kernel
theorem d_Mo_wrong_88 : decode b_Mo_wrong 88 = .ok (.ifCond .le 7, 3) := by decide +kernel
theorem d_Mo_wrong_91 : decode b_Mo_wrong 91 = .ok (.iconst (-1), 1) := by decide +kernel
theorem d_Mo_wrong_92 : decode b_Mo_wrong 92 = .ok (.goto 5, 3) := by decide +kernel
theorem d_Mo_wrong_95 : decode b_Mo_wrong 95 = .ok (.iload 4, 2) := by decide +kernel
theorem d_Mo_wrong_97 : decode b_Mo_wrong 97 = .ok (.ireturn, 1) := by decide +kernel
theorem d_Mo_take_0 : decode b_Mo_take 0 = .ok (.aload_n 0, 1) := by decide +kernel
theorem d_Mo_take_1 : decode b_Mo_take 1 = .ok (.getfield 61, 3) := by decide +kernel
theorem d_Mo_take_4 : decode b_Mo_take 4 = .ok (.aload_n 0, 1) := by decide +kernel
theorem d_Mo_take_5 : decode b_Mo_take 5 = .ok (.getfield 119, 3) := by decide +kernel
theorem d_Mo_take_8 : decode b_Mo_take 8 = .ok (.iload_n 1, 1) := by decide +kernel
theorem d_Mo_take_9 : decode b_Mo_take 9 = .ok (.i2s, 1) := by decide +kernel
theorem d_Mo_take_10 : decode b_Mo_take 10 = .ok (.sastore, 1) := by decide +kernel
theorem d_Mo_take_11 : decode b_Mo_take 11 = .ok (.aload_n 0, 1) := by decide +kernel
theorem d_Mo_take_12 : decode b_Mo_take 12 = .ok (.getfield 64, 3) := by decide +kernel
theorem d_Mo_take_15 : decode b_Mo_take 15 = .ok (.aload_n 0, 1) := by decide +kernel
theorem d_Mo_take_16 : decode b_Mo_take 16 = .ok (.getfield 119, 3) := by decide +kernel
theorem d_Mo_take_19 : decode b_Mo_take 19 = .ok (.aload_n 0, 1) := by decide +kernel
theorem d_Mo_take_20 : decode b_Mo_take 20 = .ok (.iload_n 1, 1) := by decide +kernel
theorem d_Mo_take_21 : decode b_Mo_take 21 = .ok (.iconst 1, 1) := by decide +kernel
theorem d_Mo_take_22 : decode b_Mo_take 22 = .ok (.invokevirtual 138, 3) := by decide +kernel
theorem d_Mo_take_25 : decode b_Mo_take 25 = .ok (.i2s, 1) := by decide +kernel
theorem d_Mo_take_26 : decode b_Mo_take 26 = .ok (.sastore, 1) := by decide +kernel
theorem d_Mo_take_27 : decode b_Mo_take 27 = .ok (.aload_n 0, 1) := by decide +kernel
theorem d_Mo_take_28 : decode b_Mo_take 28 = .ok (.dup, 1) := by decide +kernel
theorem d_Mo_take_29 : decode b_Mo_take 29 = .ok (.getfield 119, 3) := by decide +kernel
theorem d_Mo_take_32 : decode b_Mo_take 32 = .ok (.iconst 1, 1) := by decide +kernel
theorem d_Mo_take_33 : decode b_Mo_take 33 = .ok (.iadd, 1) := by decide +kernel
theorem d_Mo_take_34 : decode b_Mo_take 34 = .ok (.putfield 119, 3) := by decide +kernel
theorem d_Mo_take_37 : decode b_Mo_take 37 = .ok (.return_, 1) := by decide +kernel
theorem d_Mo_count_0 : decode b_Mo_count 0 = .ok (.iconst 0, 1) := by decide +kernel
theorem d_Mo_count_1 : decode b_Mo_count 1 = .ok (.istore_n 3, 1) := by decide +kernel
theorem d_Mo_count_2 : decode b_Mo_count 2 = .ok (.iconst 1, 1) := by decide +kernel
theorem d_Mo_count_3 : decode b_Mo_count 3 = .ok (.istore 4, 2) := by decide +kernel
theorem d_Mo_count_5 : decode b_Mo_count 5 = .ok (.iload 4, 2) := by decide +kernel
theorem d_Mo_count_7 : decode b_Mo_count 7 = .ok (.iconst 1, 1) := by decide +kernel
theorem d_Mo_count_8 : decode b_Mo_count 8 = .ok (.aload_n 0, 1) := by decide +kernel
theorem d_Mo_count_9 : decode b_Mo_count 9 = .ok (.getfield 71, 3) := by decide +kernel
theorem d_Mo_count_12 : decode b_Mo_count 12 = .ok (.ishl, 1) := by decide +kernel
theorem d_Mo_count_13 : decode b_Mo_count 13 = .ok (.if_icmp .ge 110, 3) := by decide +kernel
theorem d_Mo_count_16 : decode b_Mo_count 16 = .ok (.aload_n 0, 1) := by decide +kernel
theorem d_Mo_count_17 : decode b_Mo_count 17 = .ok (.iload 4, 2) := by decide +kernel
theorem d_Mo_count_19 : decode b_Mo_count 19 = .ok (.invokevirtual 82, 3) := by decide +kernel
theorem d_Mo_count_22 : decode b_Mo_count 22 = .ok (.iconst 3, 1) := by decide +kernel
theorem d_Mo_count_23 : decode b_Mo_count 23 = .ok (.if_icmp .gt 13, 3) := by decide +kernel
theorem d_Mo_count_26 : decode b_Mo_count 26 = .ok (.aload_n 0, 1) := by decide +kernel
theorem d_Mo_count_27 : decode b_Mo_count 27 = .ok (.iload_n 1, 1) := by decide +kernel
theorem d_Mo_count_28 : decode b_Mo_count 28 = .ok (.iload 4, 2) := by decide +kernel
theorem d_Mo_count_30 : decode b_Mo_count 30 = .ok (.invokevirtual 112, 3) := by decide +kernel
theorem d_Mo_count_33 : decode b_Mo_count 33 = .ok (.goto 4, 3) := by decide +kernel
theorem d_Mo_count_36 : decode b_Mo_count 36 = .ok (.iconst 0, 1) := by decide +kernel
theorem d_Mo_count_37 : decode b_Mo_count 37 = .ok (.istore 5, 2) := by decide +kernel
theorem d_Mo_count_39 : decode b_Mo_count 39 = .ok (.aload_n 0, 1) := by decide +kernel
theorem d_Mo_count_40 : decode b_Mo_count 40 = .ok (.getfield 58, 3) := by decide +kernel
theorem d_Mo_count_43 : decode b_Mo_count 43 = .ok (.iload 5, 2) := by decide +kernel
theorem d_Mo_count_45 : decode b_Mo_count 45 = .ok (.baload, 1) := by decide +kernel
theorem d_Mo_count_46 : decode b_Mo_count 46 = .ok (.ifCond .eq 71, 3) := by decide +kernel
theorem d_Mo_count_49 : decode b_Mo_count 49 = .ok (.aload_n 0, 1) := by decide +kernel
theorem d_Mo_count_50 : decode b_Mo_count 50 = .ok (.iload 5, 2) := by decide +kernel
theorem d_Mo_count_52 : decode b_Mo_count 52 = .ok (.invokevirtual 131, 3) := by decide +kernel
theorem d_Mo_count_55 : decode b_Mo_count 55 = .ok (.istore 6, 2) := by decide +kernel
theorem d_Mo_count_57 : decode b_Mo_count 57 = .ok (.aload_n 0, 1) := by decide +kernel
theorem d_Mo_count_58 : decode b_Mo_count 58 = .ok (.getfield 49, 3) := by decide +kernel
theorem d_Mo_count_61 : decode b_Mo_count 61 = .ok (.iload_n 1, 1) := by decide +kernel
theorem d_Mo_count_62 : decode b_Mo_count 62 = .ok (.baload, 1) := by decide +kernel
theorem d_Mo_count_63 : decode b_Mo_count 63 = .ok (.iconst 2, 1) := by decide +kernel
theorem d_Mo_count_64 : decode b_Mo_count 64 = .ok (.if_icmp .eq 9, 3) := by decide +kernel
theorem d_Mo_count_67 : decode b_Mo_count 67 = .ok (.iload 6, 2) := by decide +kernel
theorem d_Mo_count_69 : decode b_Mo_count 69 = .ok (.iconst 1, 1) := by decide +kernel
theorem d_Mo_count_70 : decode b_Mo_count 70 = .ok (.if_icmp .ne 47, 3) := by decide +kernel
theorem d_Mo_count_73 : decode b_Mo_count 73 = .ok (.iinc 3 1, 3) := by decide +kernel
theorem d_Mo_count_76 : decode b_Mo_count 76 = .ok (.iload_n 2, 1) := by decide +kernel
theorem d_Mo_count_77 : decode b_Mo_count 77 = .ok (.ifCond .eq 40, 3) := by decide +kernel
theorem d_Mo_count_80 : decode b_Mo_count 80 = .ok (.aload_n 0, 1) := by decide +kernel
theorem d_Mo_count_81 : decode b_Mo_count 81 = .ok (.getfield 58, 3) := by decide +kernel
theorem d_Mo_count_84 : decode b_Mo_count 84 = .ok (.iload 5, 2) := by decide +kernel
theorem d_Mo_count_86 : decode b_Mo_count 86 = .ok (.iconst 0, 1) := by decide +kernel
theorem d_Mo_count_87 : decode b_Mo_count 87 = .ok (.bastore, 1) := by decide +kernel
theorem d_Mo_count_88 : decode b_Mo_count 88 = .ok (.aload_n 0, 1) := by decide +kernel
theorem d_Mo_count_89 : decode b_Mo_count 89 = .ok (.dup, 1) := by decide +kernel
theorem d_Mo_count_90 : decode b_Mo_count 90 = .ok (.getfield 122, 3) := by decide +kernel
theorem d_Mo_count_93 : decode b_Mo_count 93 = .ok (.iconst 1, 1) := by decide +kernel
theorem d_Mo_count_94 : decode b_Mo_count 94 = .ok (.isub, 1) := by decide +kernel
theorem d_Mo_count_95 : decode b_Mo_count 95 = .ok (.putfield 122, 3) := by decide +kernel
theorem d_Mo_count_98 : decode b_Mo_count 98 = .ok (.aload_n 0, 1) := by decide +kernel
theorem d_Mo_count_99 : decode b_Mo_count 99 = .ok (.aload_n 0, 1) := by decide +kernel
theorem d_Mo_count_100 : decode b_Mo_count 100 = .ok (.getfield 125, 3) := by decide +kernel
theorem d_Mo_count_103 : decode b_Mo_count 103 = .ok (.iload 6, 2) := by decide +kernel
theorem d_Mo_count_105 : decode b_Mo_count 105 = .ok (.ifCond .ne 7, 3) := by decide +kernel
theorem d_Mo_count_108 : decode b_Mo_count 108 = .ok (.iconst 1, 1) := by decide +kernel
theorem d_Mo_count_109 : decode b_Mo_count 109 = .ok (.goto 4, 3) := by decide +kernel
theorem d_Mo_count_112 : decode b_Mo_count 112 = .ok (.iconst 0, 1) := by decide +kernel
theorem d_Mo_count_113 : decode b_Mo_count 113 = .ok (.isub, 1) := by decide +kernel
theorem d_Mo_count_114 : decode b_Mo_count 114 = .ok (.putfield 125, 3) := by decide +kernel
theorem d_Mo_count_117 : decode b_Mo_count 117 = .ok (.iinc 4 1, 3) := by decide +kernel
theorem d_Mo_count_120 : decode b_Mo_count 120 = .ok (.goto (-115), 3) := by decide +kernel
theorem d_Mo_count_123 : decode b_Mo_count 123 = .ok (.iload_n 3, 1) := by decide +kernel
theorem d_Mo_count_124 : decode b_Mo_count 124 = .ok (.ireturn, 1) := by decide +kernel
theorem d_Mo_next_0 : decode b_Mo_next 0 = .ok (.aload_n 0, 1) := by decide +kernel
theorem d_Mo_next_1 : decode b_Mo_next 1 = .ok (.getfield 67, 3) := by decide +kernel
theorem d_Mo_next_4 : decode b_Mo_next 4 = .ok (.ifCond .ne 5, 3) := by decide +kernel
theorem d_Mo_next_7 : decode b_Mo_next 7 = .ok (.iconst (-1), 1) := by decide +kernel
theorem d_Mo_next_8 : decode b_Mo_next 8 = .ok (.ireturn, 1) := by decide +kernel
theorem d_Mo_next_9 : decode b_Mo_next 9 = .ok (.aload_n 0, 1) := by decide +kernel
theorem d_Mo_next_10 : decode b_Mo_next 10 = .ok (.getfield 122, 3) := by decide +kernel
theorem d_Mo_next_13 : decode b_Mo_next 13 = .ok (.ifCond .ne 6, 3) := by decide +kernel
theorem d_Mo_next_16 : decode b_Mo_next 16 = .ok (.bipush (-2), 2) := by decide +kernel
theorem d_Mo_next_18 : decode b_Mo_next 18 = .ok (.ireturn, 1) := by decide +kernel
theorem d_Mo_next_19 : decode b_Mo_next 19 = .ok (.aload_n 0, 1) := by decide +kernel
theorem d_Mo_next_20 : decode b_Mo_next 20 = .ok (.getfield 125, 3) := by decide +kernel
theorem d_Mo_next_23 : decode b_Mo_next 23 = .ok (.ifCond .le 7, 3) := by decide +kernel
theorem d_Mo_next_26 : decode b_Mo_next 26 = .ok (.iconst 2, 1) := by decide +kernel
theorem d_Mo_next_27 : decode b_Mo_next 27 = .ok (.goto 4, 3) := by decide +kernel
theorem d_Mo_next_30 : decode b_Mo_next 30 = .ok (.iconst 1, 1) := by decide +kernel
theorem d_Mo_next_31 : decode b_Mo_next 31 = .ok (.istore_n 1, 1) := by decide +kernel
theorem d_Mo_next_32 : decode b_Mo_next 32 = .ok (.iconst (-1), 1) := by decide +kernel
theorem d_Mo_next_33 : decode b_Mo_next 33 = .ok (.istore_n 2, 1) := by decide +kernel
theorem d_Mo_next_34 : decode b_Mo_next 34 = .ok (.iconst (-1), 1) := by decide +kernel
theorem d_Mo_next_35 : decode b_Mo_next 35 = .ok (.istore_n 3, 1) := by decide +kernel
theorem d_Mo_next_36 : decode b_Mo_next 36 = .ok (.iconst 0, 1) := by decide +kernel
theorem d_Mo_next_37 : decode b_Mo_next 37 = .ok (.istore 4, 2) := by decide +kernel
theorem d_Mo_next_39 : decode b_Mo_next 39 = .ok (.iload 4, 2) := by decide +kernel
theorem d_Mo_next_41 : decode b_Mo_next 41 = .ok (.sipush 4096, 3) := by decide +kernel
theorem d_Mo_next_44 : decode b_Mo_next 44 = .ok (.if_icmp .ge 41, 3) := by decide +kernel
theorem d_Mo_next_47 : decode b_Mo_next 47 = .ok (.aload_n 0, 1) := by decide +kernel
theorem d_Mo_next_48 : decode b_Mo_next 48 = .ok (.getfield 49, 3) := by decide +kernel
theorem d_Mo_next_51 : decode b_Mo_next 51 = .ok (.iload 4, 2) := by decide +kernel
theorem d_Mo_next_53 : decode b_Mo_next 53 = .ok (.baload, 1) := by decide +kernel
theorem d_Mo_next_54 : decode b_Mo_next 54 = .ok (.iload_n 1, 1) := by decide +kernel
theorem d_Mo_next_55 : decode b_Mo_next 55 = .ok (.if_icmp .ne 24, 3) := by decide +kernel
theorem d_Mo_next_58 : decode b_Mo_next 58 = .ok (.aload_n 0, 1) := by decide +kernel
theorem d_Mo_next_59 : decode b_Mo_next 59 = .ok (.iload 4, 2) := by decide +kernel
theorem d_Mo_next_61 : decode b_Mo_next 61 = .ok (.iconst 0, 1) := by decide +kernel
theorem d_Mo_next_62 : decode b_Mo_next 62 = .ok (.invokevirtual 138, 3) := by decide +kernel
theorem d_Mo_next_65 : decode b_Mo_next 65 = .ok (.istore 5, 2) := by decide +kernel
theorem d_Mo_next_67 : decode b_Mo_next 67 = .ok (.iload 5, 2) := by decide +kernel
theorem d_Mo_next_69 : decode b_Mo_next 69 = .ok (.iload_n 3, 1) := by decide +kernel
theorem d_Mo_next_70 : decode b_Mo_next 70 = .ok (.if_icmp .le 9, 3) := by decide +kernel
theorem d_Mo_next_73 : decode b_Mo_next 73 = .ok (.iload 5, 2) := by decide +kernel
theorem d_Mo_next_75 : decode b_Mo_next 75 = .ok (.istore_n 3, 1) := by decide +kernel
theorem d_Mo_next_76 : decode b_Mo_next 76 = .ok (.iload 4, 2) := by decide +kernel
theorem d_Mo_next_78 : decode b_Mo_next 78 = .ok (.istore_n 2, 1) := by decide +kernel
theorem d_Mo_next_79 : decode b_Mo_next 79 = .ok (.iinc 4 1, 3) := by decide +kernel
theorem d_Mo_next_82 : decode b_Mo_next 82 = .ok (.goto (-43), 3) := by decide +kernel
theorem d_Mo_next_85 : decode b_Mo_next 85 = .ok (.aload_n 0, 1) := by decide +kernel
theorem d_Mo_next_86 : decode b_Mo_next 86 = .ok (.iload_n 2, 1) := by decide +kernel
theorem d_Mo_next_87 : decode b_Mo_next 87 = .ok (.invokevirtual 134, 3) := by decide +kernel
theorem d_Mo_next_90 : decode b_Mo_next 90 = .ok (.iload_n 2, 1) := by decide +kernel
theorem d_Mo_next_91 : decode b_Mo_next 91 = .ok (.ireturn, 1) := by decide +kernel
theorem d_Mo_end_0 : decode b_Mo_end 0 = .ok (.aload_n 0, 1) := by decide +kernel
theorem d_Mo_end_1 : decode b_Mo_end 1 = .ok (.getfield 67, 3) := by decide +kernel
theorem d_Mo_end_4 : decode b_Mo_end 4 = .ok (.istore_n 1, 1) := by decide +kernel
theorem d_Mo_end_5 : decode b_Mo_end 5 = .ok (.aload_n 0, 1) := by decide +kernel
theorem d_Mo_end_6 : decode b_Mo_end 6 = .ok (.iconst 0, 1) := by decide +kernel
theorem d_Mo_end_7 : decode b_Mo_end 7 = .ok (.putfield 67, 3) := by decide +kernel
theorem d_Mo_end_10 : decode b_Mo_end 10 = .ok (.iload_n 1, 1) := by decide +kernel
theorem d_Mo_end_11 : decode b_Mo_end 11 = .ok (.ireturn, 1) := by decide +kernel
theorem d_Mo_rows_0 : decode b_Mo_rows 0 = .ok (.aload_n 0, 1) := by decide +kernel
theorem d_Mo_rows_1 : decode b_Mo_rows 1 = .ok (.getfield 67, 3) := by decide +kernel
theorem d_Mo_rows_4 : decode b_Mo_rows 4 = .ok (.ifCond .eq 10, 3) := by decide +kernel
theorem d_Mo_rows_7 : decode b_Mo_rows 7 = .ok (.aload_n 0, 1) := by decide +kernel
theorem d_Mo_rows_8 : decode b_Mo_rows 8 = .ok (.getfield 119, 3) := by decide +kernel
theorem d_Mo_rows_11 : decode b_Mo_rows 11 = .ok (.goto 4, 3) := by decide +kernel
theorem d_Mo_rows_14 : decode b_Mo_rows 14 = .ok (.iconst 0, 1) := by decide +kernel
theorem d_Mo_rows_15 : decode b_Mo_rows 15 = .ok (.ireturn, 1) := by decide +kernel
theorem d_Mo_row_0 : decode b_Mo_row 0 = .ok (.aload_n 0, 1) := by decide +kernel
theorem d_Mo_row_1 : decode b_Mo_row 1 = .ok (.iload_n 1, 1) := by decide +kernel
theorem d_Mo_row_2 : decode b_Mo_row 2 = .ok (.invokevirtual 142, 3) := by decide +kernel
theorem d_Mo_row_5 : decode b_Mo_row 5 = .ok (.ifCond .eq 7, 3) := by decide +kernel
theorem d_Mo_row_8 : decode b_Mo_row 8 = .ok (.iconst (-1), 1) := by decide +kernel
theorem d_Mo_row_9 : decode b_Mo_row 9 = .ok (.goto 9, 3) := by decide +kernel
theorem d_Mo_row_12 : decode b_Mo_row 12 = .ok (.aload_n 0, 1) := by decide +kernel
theorem d_Mo_row_13 : decode b_Mo_row 13 = .ok (.getfield 61, 3) := by decide +kernel
theorem d_Mo_row_16 : decode b_Mo_row 16 = .ok (.iload_n 1, 1) := by decide +kernel
theorem d_Mo_row_17 : decode b_Mo_row 17 = .ok (.saload, 1) := by decide +kernel
theorem d_Mo_row_18 : decode b_Mo_row 18 = .ok (.ireturn, 1) := by decide +kernel
theorem d_Mo_noRow_0 : decode b_Mo_noRow 0 = .ok (.aload_n 0, 1) := by decide +kernel
theorem d_Mo_noRow_1 : decode b_Mo_noRow 1 = .ok (.getfield 67, 3) := by decide +kernel
theorem d_Mo_noRow_4 : decode b_Mo_noRow 4 = .ok (.ifCond .eq 15, 3) := by decide +kernel
theorem d_Mo_noRow_7 : decode b_Mo_noRow 7 = .ok (.iload_n 1, 1) := by decide +kernel
theorem d_Mo_noRow_8 : decode b_Mo_noRow 8 = .ok (.ifCond .lt 11, 3) := by decide +kernel
theorem d_Mo_noRow_11 : decode b_Mo_noRow 11 = .ok (.iload_n 1, 1) := by decide +kernel
theorem d_Mo_noRow_12 : decode b_Mo_noRow 12 = .ok (.aload_n 0, 1) := by decide +kernel
theorem d_Mo_noRow_13 : decode b_Mo_noRow 13 = .ok (.getfield 119, 3) := by decide +kernel
theorem d_Mo_noRow_16 : decode b_Mo_noRow 16 = .ok (.if_icmp .lt 7, 3) := by decide +kernel
theorem d_Mo_noRow_19 : decode b_Mo_noRow 19 = .ok (.iconst 1, 1) := by decide +kernel
theorem d_Mo_noRow_20 : decode b_Mo_noRow 20 = .ok (.goto 4, 3) := by decide +kernel
theorem d_Mo_noRow_23 : decode b_Mo_noRow 23 = .ok (.iconst 0, 1) := by decide +kernel
theorem d_Mo_noRow_24 : decode b_Mo_noRow 24 = .ok (.ireturn, 1) := by decide +kernel
theorem d_Mo_gained_0 : decode b_Mo_gained 0 = .ok (.aload_n 0, 1) := by decide +kernel
theorem d_Mo_gained_1 : decode b_Mo_gained 1 = .ok (.iload_n 1, 1) := by decide +kernel
theorem d_Mo_gained_2 : decode b_Mo_gained 2 = .ok (.invokevirtual 142, 3) := by decide +kernel
theorem d_Mo_gained_5 : decode b_Mo_gained 5 = .ok (.ifCond .eq 7, 3) := by decide +kernel
theorem d_Mo_gained_8 : decode b_Mo_gained 8 = .ok (.iconst (-1), 1) := by decide +kernel
theorem d_Mo_gained_9 : decode b_Mo_gained 9 = .ok (.goto 9, 3) := by decide +kernel
theorem d_Mo_gained_12 : decode b_Mo_gained 12 = .ok (.aload_n 0, 1) := by decide +kernel
theorem d_Mo_gained_13 : decode b_Mo_gained 13 = .ok (.getfield 64, 3) := by decide +kernel
theorem d_Mo_gained_16 : decode b_Mo_gained 16 = .ok (.iload_n 1, 1) := by decide +kernel
theorem d_Mo_gained_17 : decode b_Mo_gained 17 = .ok (.saload, 1) := by decide +kernel
theorem d_Mo_gained_18 : decode b_Mo_gained 18 = .ok (.ireturn, 1) := by decide +kernel
theorem d_Mo_left_0 : decode b_Mo_left 0 = .ok (.aload_n 0, 1) := by decide +kernel
theorem d_Mo_left_1 : decode b_Mo_left 1 = .ok (.getfield 67, 3) := by decide +kernel
theorem d_Mo_left_4 : decode b_Mo_left 4 = .ok (.ifCond .eq 10, 3) := by decide +kernel
theorem d_Mo_left_7 : decode b_Mo_left 7 = .ok (.aload_n 0, 1) := by decide +kernel
theorem d_Mo_left_8 : decode b_Mo_left 8 = .ok (.getfield 122, 3) := by decide +kernel
theorem d_Mo_left_11 : decode b_Mo_left 11 = .ok (.goto 4, 3) := by decide +kernel
theorem d_Mo_left_14 : decode b_Mo_left 14 = .ok (.iconst (-1), 1) := by decide +kernel
theorem d_Mo_left_15 : decode b_Mo_left 15 = .ok (.ireturn, 1) := by decide +kernel
theorem d_Mo_gain_0 : decode b_Mo_gain 0 = .ok (.aload_n 0, 1) := by decide +kernel
theorem d_Mo_gain_1 : decode b_Mo_gain 1 = .ok (.getfield 67, 3) := by decide +kernel
theorem d_Mo_gain_4 : decode b_Mo_gain 4 = .ok (.ifCond .ne 5, 3) := by decide +kernel
theorem d_Mo_gain_7 : decode b_Mo_gain 7 = .ok (.iconst (-1), 1) := by decide +kernel
theorem d_Mo_gain_8 : decode b_Mo_gain 8 = .ok (.ireturn, 1) := by decide +kernel
theorem d_Mo_gain_9 : decode b_Mo_gain 9 = .ok (.iload_n 1, 1) := by decide +kernel
theorem d_Mo_gain_10 : decode b_Mo_gain 10 = .ok (.ifCond .lt 19, 3) := by decide +kernel
theorem d_Mo_gain_13 : decode b_Mo_gain 13 = .ok (.iload_n 1, 1) := by decide +kernel
theorem d_Mo_gain_14 : decode b_Mo_gain 14 = .ok (.sipush 4095, 3) := by decide +kernel
theorem d_Mo_gain_17 : decode b_Mo_gain 17 = .ok (.if_icmp .gt 12, 3) := by decide +kernel
theorem d_Mo_gain_20 : decode b_Mo_gain 20 = .ok (.aload_n 0, 1) := by decide +kernel
theorem d_Mo_gain_21 : decode b_Mo_gain 21 = .ok (.getfield 49, 3) := by decide +kernel
theorem d_Mo_gain_24 : decode b_Mo_gain 24 = .ok (.iload_n 1, 1) := by decide +kernel
theorem d_Mo_gain_25 : decode b_Mo_gain 25 = .ok (.baload, 1) := by decide +kernel
theorem d_Mo_gain_26 : decode b_Mo_gain 26 = .ok (.ifCond .gt 8, 3) := by decide +kernel
theorem d_Mo_gain_29 : decode b_Mo_gain 29 = .ok (.bipush (-2), 2) := by decide +kernel
theorem d_Mo_gain_31 : decode b_Mo_gain 31 = .ok (.goto 9, 3) := by decide +kernel
theorem d_Mo_gain_34 : decode b_Mo_gain 34 = .ok (.aload_n 0, 1) := by decide +kernel
theorem d_Mo_gain_35 : decode b_Mo_gain 35 = .ok (.iload_n 1, 1) := by decide +kernel
theorem d_Mo_gain_36 : decode b_Mo_gain 36 = .ok (.iconst 0, 1) := by decide +kernel
theorem d_Mo_gain_37 : decode b_Mo_gain 37 = .ok (.invokevirtual 138, 3) := by decide +kernel
theorem d_Mo_gain_40 : decode b_Mo_gain 40 = .ok (.ireturn, 1) := by decide +kernel
theorem d_Mo_kind_0 : decode b_Mo_kind 0 = .ok (.aload_n 0, 1) := by decide +kernel
theorem d_Mo_kind_1 : decode b_Mo_kind 1 = .ok (.invokevirtual 116, 3) := by decide +kernel
theorem d_Mo_kind_4 : decode b_Mo_kind 4 = .ok (.iload_n 1, 1) := by decide +kernel
theorem d_Mo_kind_5 : decode b_Mo_kind 5 = .ok (.ifCond .lt 10, 3) := by decide +kernel
theorem d_Mo_kind_8 : decode b_Mo_kind 8 = .ok (.iload_n 1, 1) := by decide +kernel
theorem d_Mo_kind_9 : decode b_Mo_kind 9 = .ok (.sipush 4095, 3) := by decide +kernel
theorem d_Mo_kind_12 : decode b_Mo_kind 12 = .ok (.if_icmp .le 7, 3) := by decide +kernel
theorem d_Mo_kind_15 : decode b_Mo_kind 15 = .ok (.iconst (-1), 1) := by decide +kernel
theorem d_Mo_kind_16 : decode b_Mo_kind 16 = .ok (.goto 9, 3) := by decide +kernel
theorem d_Mo_kind_19 : decode b_Mo_kind 19 = .ok (.aload_n 0, 1) := by decide +kernel
theorem d_Mo_kind_20 : decode b_Mo_kind 20 = .ok (.getfield 49, 3) := by decide +kernel
theorem d_Mo_kind_23 : decode b_Mo_kind 23 = .ok (.iload_n 1, 1) := by decide +kernel
theorem d_Mo_kind_24 : decode b_Mo_kind 24 = .ok (.baload, 1) := by decide +kernel
theorem d_Mo_kind_25 : decode b_Mo_kind 25 = .ok (.ireturn, 1) := by decide +kernel
theorem d_Mo_extendable_0 : decode b_Mo_extendable 0 = .ok (.aload_n 0, 1) := by decide +kernel
theorem d_Mo_extendable_1 : decode b_Mo_extendable 1 = .ok (.getfield 71, 3) := by decide +kernel
theorem d_Mo_extendable_4 : decode b_Mo_extendable 4 = .ok (.ifCond .eq 19, 3) := by decide +kernel
theorem d_Mo_extendable_7 : decode b_Mo_extendable 7 = .ok (.iload_n 1, 1) := by decide +kernel
theorem d_Mo_extendable_8 : decode b_Mo_extendable 8 = .ok (.ifCond .lt 15, 3) := by decide +kernel
theorem d_Mo_extendable_11 : decode b_Mo_extendable 11 = .ok (.iload_n 1, 1) := by decide +kernel
theorem d_Mo_extendable_12 : decode b_Mo_extendable 12 = .ok (.iconst 1, 1) := by decide +kernel
theorem d_Mo_extendable_13 : decode b_Mo_extendable 13 = .ok (.iconst 3, 1) := by decide +kernel
theorem d_Mo_extendable_14 : decode b_Mo_extendable 14 = .ok (.aload_n 0, 1) := by decide +kernel
theorem d_Mo_extendable_15 : decode b_Mo_extendable 15 = .ok (.getfield 71, 3) := by decide +kernel
theorem d_Mo_extendable_18 : decode b_Mo_extendable 18 = .ok (.imul, 1) := by decide +kernel
theorem d_Mo_extendable_19 : decode b_Mo_extendable 19 = .ok (.ishl, 1) := by decide +kernel
theorem d_Mo_extendable_20 : decode b_Mo_extendable 20 = .ok (.if_icmp .lt 5, 3) := by decide +kernel
theorem d_Mo_extendable_23 : decode b_Mo_extendable 23 = .ok (.iconst (-1), 1) := by decide +kernel
theorem d_Mo_extendable_24 : decode b_Mo_extendable 24 = .ok (.ireturn, 1) := by decide +kernel
theorem d_Mo_extendable_25 : decode b_Mo_extendable 25 = .ok (.iconst 0, 1) := by decide +kernel
theorem d_Mo_extendable_26 : decode b_Mo_extendable 26 = .ok (.istore_n 2, 1) := by decide +kernel
theorem d_Mo_extendable_27 : decode b_Mo_extendable 27 = .ok (.iload_n 2, 1) := by decide +kernel
theorem d_Mo_extendable_28 : decode b_Mo_extendable 28 = .ok (.aload_n 0, 1) := by decide +kernel
theorem d_Mo_extendable_29 : decode b_Mo_extendable 29 = .ok (.getfield 71, 3) := by decide +kernel
theorem d_Mo_extendable_32 : decode b_Mo_extendable 32 = .ok (.if_icmp .ge 36, 3) := by decide +kernel
theorem d_Mo_extendable_35 : decode b_Mo_extendable 35 = .ok (.iload_n 1, 1) := by decide +kernel
theorem d_Mo_extendable_36 : decode b_Mo_extendable 36 = .ok (.iconst 3, 1) := by decide +kernel
theorem d_Mo_extendable_37 : decode b_Mo_extendable 37 = .ok (.iload_n 2, 1) := by decide +kernel
theorem d_Mo_extendable_38 : decode b_Mo_extendable 38 = .ok (.imul, 1) := by decide +kernel
theorem d_Mo_extendable_39 : decode b_Mo_extendable 39 = .ok (.ishr, 1) := by decide +kernel
theorem d_Mo_extendable_40 : decode b_Mo_extendable 40 = .ok (.bipush 7, 2) := by decide +kernel
theorem d_Mo_extendable_42 : decode b_Mo_extendable 42 = .ok (.iand, 1) := by decide +kernel
theorem d_Mo_extendable_43 : decode b_Mo_extendable 43 = .ok (.istore_n 3, 1) := by decide +kernel
theorem d_Mo_extendable_44 : decode b_Mo_extendable 44 = .ok (.iload_n 3, 1) := by decide +kernel
theorem d_Mo_extendable_45 : decode b_Mo_extendable 45 = .ok (.bipush 7, 2) := by decide +kernel
theorem d_Mo_extendable_47 : decode b_Mo_extendable 47 = .ok (.if_icmp .eq 15, 3) := by decide +kernel
theorem d_Mo_extendable_50 : decode b_Mo_extendable 50 = .ok (.iload_n 3, 1) := by decide +kernel
theorem d_Mo_extendable_51 : decode b_Mo_extendable 51 = .ok (.aload_n 0, 1) := by decide +kernel
theorem d_Mo_extendable_52 : decode b_Mo_extendable 52 = .ok (.getfield 7, 3) := by decide +kernel
theorem d_Mo_extendable_55 : decode b_Mo_extendable 55 = .ok (.iload_n 2, 1) := by decide +kernel
theorem d_Mo_extendable_56 : decode b_Mo_extendable 56 = .ok (.iaload, 1) := by decide +kernel
theorem d_Mo_extendable_57 : decode b_Mo_extendable 57 = .ok (.if_icmp .lt 5, 3) := by decide +kernel
theorem d_Mo_extendable_60 : decode b_Mo_extendable 60 = .ok (.iconst (-1), 1) := by decide +kernel
theorem d_Mo_extendable_61 : decode b_Mo_extendable 61 = .ok (.ireturn, 1) := by decide +kernel
theorem d_Mo_extendable_62 : decode b_Mo_extendable 62 = .ok (.iinc 2 1, 3) := by decide +kernel
theorem d_Mo_extendable_65 : decode b_Mo_extendable 65 = .ok (.goto (-38), 3) := by decide +kernel
theorem d_Mo_extendable_68 : decode b_Mo_extendable 68 = .ok (.aload_n 0, 1) := by decide +kernel
theorem d_Mo_extendable_69 : decode b_Mo_extendable 69 = .ok (.invokevirtual 116, 3) := by decide +kernel
theorem d_Mo_extendable_72 : decode b_Mo_extendable 72 = .ok (.iconst 0, 1) := by decide +kernel
theorem d_Mo_extendable_73 : decode b_Mo_extendable 73 = .ok (.istore_n 2, 1) := by decide +kernel
theorem d_Mo_extendable_74 : decode b_Mo_extendable 74 = .ok (.iconst 0, 1) := by decide +kernel
theorem d_Mo_extendable_75 : decode b_Mo_extendable 75 = .ok (.istore_n 3, 1) := by decide +kernel
theorem d_Mo_extendable_76 : decode b_Mo_extendable 76 = .ok (.iload_n 3, 1) := by decide +kernel
theorem d_Mo_extendable_77 : decode b_Mo_extendable 77 = .ok (.sipush 4096, 3) := by decide +kernel
theorem d_Mo_extendable_80 : decode b_Mo_extendable 80 = .ok (.if_icmp .ge 99, 3) := by decide +kernel
theorem d_Mo_extendable_83 : decode b_Mo_extendable 83 = .ok (.iconst 1, 1) := by decide +kernel
theorem d_Mo_extendable_84 : decode b_Mo_extendable 84 = .ok (.istore 4, 2) := by decide +kernel
theorem d_Mo_extendable_86 : decode b_Mo_extendable 86 = .ok (.iconst 0, 1) := by decide +kernel
theorem d_Mo_extendable_87 : decode b_Mo_extendable 87 = .ok (.istore 5, 2) := by decide +kernel
theorem d_Mo_extendable_89 : decode b_Mo_extendable 89 = .ok (.iload 5, 2) := by decide +kernel
theorem d_Mo_extendable_91 : decode b_Mo_extendable 91 = .ok (.aload_n 0, 1) := by decide +kernel
theorem d_Mo_extendable_92 : decode b_Mo_extendable 92 = .ok (.getfield 71, 3) := by decide +kernel
theorem d_Mo_extendable_95 : decode b_Mo_extendable 95 = .ok (.if_icmp .ge 52, 3) := by decide +kernel
theorem d_Mo_extendable_98 : decode b_Mo_extendable 98 = .ok (.iload_n 1, 1) := by decide +kernel
theorem d_Mo_extendable_99 : decode b_Mo_extendable 99 = .ok (.iconst 3, 1) := by decide +kernel
theorem d_Mo_extendable_100 : decode b_Mo_extendable 100 = .ok (.iload 5, 2) := by decide +kernel
theorem d_Mo_extendable_102 : decode b_Mo_extendable 102 = .ok (.imul, 1) := by decide +kernel
theorem d_Mo_extendable_103 : decode b_Mo_extendable 103 = .ok (.ishr, 1) := by decide +kernel
theorem d_Mo_extendable_104 : decode b_Mo_extendable 104 = .ok (.bipush 7, 2) := by decide +kernel
theorem d_Mo_extendable_106 : decode b_Mo_extendable 106 = .ok (.iand, 1) := by decide +kernel
theorem d_Mo_extendable_107 : decode b_Mo_extendable 107 = .ok (.istore 6, 2) := by decide +kernel
theorem d_Mo_extendable_109 : decode b_Mo_extendable 109 = .ok (.iload 4, 2) := by decide +kernel
theorem d_Mo_extendable_111 : decode b_Mo_extendable 111 = .ok (.ifCond .eq 27, 3) := by decide +kernel
theorem d_Mo_extendable_114 : decode b_Mo_extendable 114 = .ok (.iload 6, 2) := by decide +kernel
theorem d_Mo_extendable_116 : decode b_Mo_extendable 116 = .ok (.bipush 7, 2) := by decide +kernel
theorem d_Mo_extendable_118 : decode b_Mo_extendable 118 = .ok (.if_icmp .eq 16, 3) := by decide +kernel
theorem d_Mo_extendable_121 : decode b_Mo_extendable 121 = .ok (.iload_n 3, 1) := by decide +kernel
theorem d_Mo_extendable_122 : decode b_Mo_extendable 122 = .ok (.iconst 2, 1) := by decide +kernel
theorem d_Mo_extendable_123 : decode b_Mo_extendable 123 = .ok (.iload 5, 2) := by decide +kernel
theorem d_Mo_extendable_125 : decode b_Mo_extendable 125 = .ok (.imul, 1) := by decide +kernel
theorem d_Mo_extendable_126 : decode b_Mo_extendable 126 = .ok (.ishr, 1) := by decide +kernel
theorem d_Mo_extendable_127 : decode b_Mo_extendable 127 = .ok (.iconst 3, 1) := by decide +kernel
theorem d_Mo_extendable_128 : decode b_Mo_extendable 128 = .ok (.iand, 1) := by decide +kernel
theorem d_Mo_extendable_129 : decode b_Mo_extendable 129 = .ok (.iload 6, 2) := by decide +kernel
theorem d_Mo_extendable_131 : decode b_Mo_extendable 131 = .ok (.if_icmp .ne 7, 3) := by decide +kernel
theorem d_Mo_extendable_134 : decode b_Mo_extendable 134 = .ok (.iconst 1, 1) := by decide +kernel
theorem d_Mo_extendable_135 : decode b_Mo_extendable 135 = .ok (.goto 4, 3) := by decide +kernel
theorem d_Mo_extendable_138 : decode b_Mo_extendable 138 = .ok (.iconst 0, 1) := by decide +kernel
theorem d_Mo_extendable_139 : decode b_Mo_extendable 139 = .ok (.istore 4, 2) := by decide +kernel
theorem d_Mo_extendable_141 : decode b_Mo_extendable 141 = .ok (.iinc 5 1, 3) := by decide +kernel
theorem d_Mo_extendable_144 : decode b_Mo_extendable 144 = .ok (.goto (-55), 3) := by decide +kernel
theorem d_Mo_extendable_147 : decode b_Mo_extendable 147 = .ok (.iload 4, 2) := by decide +kernel
theorem d_Mo_extendable_149 : decode b_Mo_extendable 149 = .ok (.ifCond .eq 22, 3) := by decide +kernel
theorem d_Mo_extendable_152 : decode b_Mo_extendable 152 = .ok (.aload_n 0, 1) := by decide +kernel
theorem d_Mo_extendable_153 : decode b_Mo_extendable 153 = .ok (.getfield 49, 3) := by decide +kernel
theorem d_Mo_extendable_156 : decode b_Mo_extendable 156 = .ok (.iload_n 3, 1) := by decide +kernel
theorem d_Mo_extendable_157 : decode b_Mo_extendable 157 = .ok (.baload, 1) := by decide +kernel
theorem d_Mo_extendable_158 : decode b_Mo_extendable 158 = .ok (.iload_n 2, 1) := by decide +kernel
theorem d_Mo_extendable_159 : decode b_Mo_extendable 159 = .ok (.if_icmp .le 12, 3) := by decide +kernel
theorem d_Mo_extendable_162 : decode b_Mo_extendable 162 = .ok (.aload_n 0, 1) := by decide +kernel
theorem d_Mo_extendable_163 : decode b_Mo_extendable 163 = .ok (.getfield 49, 3) := by decide +kernel
theorem d_Mo_extendable_166 : decode b_Mo_extendable 166 = .ok (.iload_n 3, 1) := by decide +kernel
theorem d_Mo_extendable_167 : decode b_Mo_extendable 167 = .ok (.baload, 1) := by decide +kernel
theorem d_Mo_extendable_168 : decode b_Mo_extendable 168 = .ok (.goto 4, 3) := by decide +kernel
theorem d_Mo_extendable_171 : decode b_Mo_extendable 171 = .ok (.iload_n 2, 1) := by decide +kernel
theorem d_Mo_extendable_172 : decode b_Mo_extendable 172 = .ok (.istore_n 2, 1) := by decide +kernel
theorem d_Mo_extendable_173 : decode b_Mo_extendable 173 = .ok (.iinc 3 1, 3) := by decide +kernel
theorem d_Mo_extendable_176 : decode b_Mo_extendable 176 = .ok (.goto (-100), 3) := by decide +kernel
theorem d_Mo_extendable_179 : decode b_Mo_extendable 179 = .ok (.iload_n 2, 1) := by decide +kernel
theorem d_Mo_extendable_180 : decode b_Mo_extendable 180 = .ok (.ireturn, 1) := by decide +kernel
theorem d_Mo_forbidden_0 : decode b_Mo_forbidden 0 = .ok (.iload_n 1, 1) := by decide +kernel
theorem d_Mo_forbidden_1 : decode b_Mo_forbidden 1 = .ok (.iconst 1, 1) := by decide +kernel
theorem d_Mo_forbidden_2 : decode b_Mo_forbidden 2 = .ok (.if_icmp .lt 8, 3) := by decide +kernel
theorem d_Mo_forbidden_5 : decode b_Mo_forbidden 5 = .ok (.iload_n 1, 1) := by decide +kernel
theorem d_Mo_forbidden_6 : decode b_Mo_forbidden 6 = .ok (.iconst 3, 1) := by decide +kernel
theorem d_Mo_forbidden_7 : decode b_Mo_forbidden 7 = .ok (.if_icmp .le 5, 3) := by decide +kernel
theorem d_Mo_forbidden_10 : decode b_Mo_forbidden 10 = .ok (.iconst (-1), 1) := by decide +kernel
theorem d_Mo_forbidden_11 : decode b_Mo_forbidden 11 = .ok (.ireturn, 1) := by decide +kernel
theorem d_Mo_forbidden_12 : decode b_Mo_forbidden 12 = .ok (.aload_n 0, 1) := by decide +kernel
theorem d_Mo_forbidden_13 : decode b_Mo_forbidden 13 = .ok (.invokevirtual 116, 3) := by decide +kernel
theorem d_Mo_forbidden_16 : decode b_Mo_forbidden 16 = .ok (.iconst 0, 1) := by decide +kernel
theorem d_Mo_forbidden_17 : decode b_Mo_forbidden 17 = .ok (.istore_n 2, 1) := by decide +kernel
theorem d_Mo_forbidden_18 : decode b_Mo_forbidden 18 = .ok (.bipush 64, 2) := by decide +kernel
theorem d_Mo_forbidden_20 : decode b_Mo_forbidden 20 = .ok (.istore_n 3, 1) := by decide +kernel
theorem d_Mo_forbidden_21 : decode b_Mo_forbidden 21 = .ok (.iload_n 3, 1) := by decide +kernel
theorem d_Mo_forbidden_22 : decode b_Mo_forbidden 22 = .ok (.bipush 64, 2) := by decide +kernel
theorem d_Mo_forbidden_24 : decode b_Mo_forbidden 24 = .ok (.aload_n 0, 1) := by decide +kernel
theorem d_Mo_forbidden_25 : decode b_Mo_forbidden 25 = .ok (.getfield 71, 3) := by decide +kernel
theorem d_Mo_forbidden_28 : decode b_Mo_forbidden 28 = .ok (.ishl, 1) := by decide +kernel
theorem d_Mo_forbidden_29 : decode b_Mo_forbidden 29 = .ok (.if_icmp .ge 58, 3) := by decide +kernel
theorem d_Mo_forbidden_32 : decode b_Mo_forbidden 32 = .ok (.aload_n 0, 1) := by decide +kernel
theorem d_Mo_forbidden_33 : decode b_Mo_forbidden 33 = .ok (.iload_n 3, 1) := by decide +kernel
theorem d_Mo_forbidden_34 : decode b_Mo_forbidden 34 = .ok (.bipush 64, 2) := by decide +kernel
theorem d_Mo_forbidden_36 : decode b_Mo_forbidden 36 = .ok (.idiv, 1) := by decide +kernel
theorem d_Mo_forbidden_37 : decode b_Mo_forbidden 37 = .ok (.invokevirtual 82, 3) := by decide +kernel
theorem d_Mo_forbidden_40 : decode b_Mo_forbidden 40 = .ok (.iload_n 1, 1) := by decide +kernel
theorem d_Mo_forbidden_41 : decode b_Mo_forbidden 41 = .ok (.if_icmp .ne 40, 3) := by decide +kernel
theorem d_Mo_forbidden_44 : decode b_Mo_forbidden 44 = .ok (.aload_n 0, 1) := by decide +kernel
theorem d_Mo_forbidden_45 : decode b_Mo_forbidden 45 = .ok (.iload_n 3, 1) := by decide +kernel
theorem d_Mo_forbidden_46 : decode b_Mo_forbidden 46 = .ok (.invokevirtual 131, 3) := by decide +kernel
theorem d_Mo_forbidden_49 : decode b_Mo_forbidden 49 = .ok (.ifCond .ne 32, 3) := by decide +kernel
theorem d_Mo_forbidden_52 : decode b_Mo_forbidden 52 = .ok (.aload_n 0, 1) := by decide +kernel
theorem d_Mo_forbidden_53 : decode b_Mo_forbidden 53 = .ok (.getfield 52, 3) := by decide +kernel
theorem d_Mo_forbidden_56 : decode b_Mo_forbidden 56 = .ok (.iload_n 3, 1) := by decide +kernel
theorem d_Mo_forbidden_57 : decode b_Mo_forbidden 57 = .ok (.baload, 1) := by decide +kernel
theorem d_Mo_forbidden_58 : decode b_Mo_forbidden 58 = .ok (.ifCond .ne 23, 3) := by decide +kernel
theorem d_Mo_forbidden_61 : decode b_Mo_forbidden 61 = .ok (.aload_n 0, 1) := by decide +kernel
theorem d_Mo_forbidden_62 : decode b_Mo_forbidden 62 = .ok (.iload_n 3, 1) := by decide +kernel
theorem d_Mo_forbidden_63 : decode b_Mo_forbidden 63 = .ok (.invokevirtual 145, 3) := by decide +kernel
theorem d_Mo_forbidden_66 : decode b_Mo_forbidden 66 = .ok (.istore 4, 2) := by decide +kernel
theorem d_Mo_forbidden_68 : decode b_Mo_forbidden 68 = .ok (.iload 4, 2) := by decide +kernel
theorem d_Mo_forbidden_70 : decode b_Mo_forbidden 70 = .ok (.ifCond .eq 9, 3) := by decide +kernel
theorem d_Mo_forbidden_73 : decode b_Mo_forbidden 73 = .ok (.iload_n 2, 1) := by decide +kernel
theorem d_Mo_forbidden_74 : decode b_Mo_forbidden 74 = .ok (.iconst 1, 1) := by decide +kernel
theorem d_Mo_forbidden_75 : decode b_Mo_forbidden 75 = .ok (.iadd, 1) := by decide +kernel
theorem d_Mo_forbidden_76 : decode b_Mo_forbidden 76 = .ok (.goto 4, 3) := by decide +kernel
theorem d_Mo_forbidden_79 : decode b_Mo_forbidden 79 = .ok (.iload_n 2, 1) := by decide +kernel
theorem d_Mo_forbidden_80 : decode b_Mo_forbidden 80 = .ok (.istore_n 2, 1) := by decide +kernel
theorem d_Mo_forbidden_81 : decode b_Mo_forbidden 81 = .ok (.iinc 3 1, 3) := by decide +kernel
theorem d_Mo_forbidden_84 : decode b_Mo_forbidden 84 = .ok (.goto (-63), 3) := by decide +kernel
theorem d_Mo_forbidden_87 : decode b_Mo_forbidden 87 = .ok (.iload_n 2, 1) := by decide +kernel
theorem d_Mo_forbidden_88 : decode b_Mo_forbidden 88 = .ok (.ireturn, 1) := by decide +kernel
theorem d_Mo_least_0 : decode b_Mo_least 0 = .ok (.iload_n 1, 1) := by decide +kernel
theorem d_Mo_least_1 : decode b_Mo_least 1 = .ok (.bipush 64, 2) := by decide +kernel
theorem d_Mo_least_3 : decode b_Mo_least 3 = .ok (.idiv, 1) := by decide +kernel
theorem d_Mo_least_4 : decode b_Mo_least 4 = .ok (.istore_n 2, 1) := by decide +kernel
theorem d_Mo_least_5 : decode b_Mo_least 5 = .ok (.iconst 1, 1) := by decide +kernel
theorem d_Mo_least_6 : decode b_Mo_least 6 = .ok (.istore_n 3, 1) := by decide +kernel
theorem d_Mo_least_7 : decode b_Mo_least 7 = .ok (.iconst 0, 1) := by decide +kernel
theorem d_Mo_least_8 : decode b_Mo_least 8 = .ok (.istore 4, 2) := by decide +kernel
theorem d_Mo_least_10 : decode b_Mo_least 10 = .ok (.iconst 0, 1) := by decide +kernel
theorem d_Mo_least_11 : decode b_Mo_least 11 = .ok (.istore 5, 2) := by decide +kernel
theorem d_Mo_least_13 : decode b_Mo_least 13 = .ok (.iload 5, 2) := by decide +kernel
theorem d_Mo_least_15 : decode b_Mo_least 15 = .ok (.bipush 6, 2) := by decide +kernel
theorem d_Mo_least_17 : decode b_Mo_least 17 = .ok (.if_icmp .ge 87, 3) := by decide +kernel
theorem d_Mo_least_20 : decode b_Mo_least 20 = .ok (.iload_n 2, 1) := by decide +kernel
theorem d_Mo_least_21 : decode b_Mo_least 21 = .ok (.iload 5, 2) := by decide +kernel
theorem d_Mo_least_23 : decode b_Mo_least 23 = .ok (.ishr, 1) := by decide +kernel
theorem d_Mo_least_24 : decode b_Mo_least 24 = .ok (.iconst 1, 1) := by decide +kernel
theorem d_Mo_least_25 : decode b_Mo_least 25 = .ok (.iand, 1) := by decide +kernel
theorem d_Mo_least_26 : decode b_Mo_least 26 = .ok (.iconst 1, 1) := by decide +kernel
theorem d_Mo_least_27 : decode b_Mo_least 27 = .ok (.if_icmp .ne 71, 3) := by decide +kernel
theorem d_Mo_least_30 : decode b_Mo_least 30 = .ok (.iload_n 1, 1) := by decide +kernel
theorem d_Mo_least_31 : decode b_Mo_least 31 = .ok (.bipush 64, 2) := by decide +kernel
theorem d_Mo_least_33 : decode b_Mo_least 33 = .ok (.irem, 1) := by decide +kernel
theorem d_Mo_least_34 : decode b_Mo_least 34 = .ok (.iconst 1, 1) := by decide +kernel
theorem d_Mo_least_35 : decode b_Mo_least 35 = .ok (.iload 4, 2) := by decide +kernel
theorem d_Mo_least_37 : decode b_Mo_least 37 = .ok (.ishl, 1) := by decide +kernel
theorem d_Mo_least_38 : decode b_Mo_least 38 = .ok (.iconst 1, 1) := by decide +kernel
theorem d_Mo_least_39 : decode b_Mo_least 39 = .ok (.isub, 1) := by decide +kernel
theorem d_Mo_least_40 : decode b_Mo_least 40 = .ok (.iand, 1) := by decide +kernel
theorem d_Mo_least_41 : decode b_Mo_least 41 = .ok (.istore 6, 2) := by decide +kernel
theorem d_Mo_least_43 : decode b_Mo_least 43 = .ok (.iload_n 1, 1) := by decide +kernel
theorem d_Mo_least_44 : decode b_Mo_least 44 = .ok (.bipush 64, 2) := by decide +kernel
theorem d_Mo_least_46 : decode b_Mo_least 46 = .ok (.irem, 1) := by decide +kernel
theorem d_Mo_least_47 : decode b_Mo_least 47 = .ok (.iload 4, 2) := by decide +kernel
theorem d_Mo_least_49 : decode b_Mo_least 49 = .ok (.iconst 2, 1) := by decide +kernel
theorem d_Mo_least_50 : decode b_Mo_least 50 = .ok (.iadd, 1) := by decide +kernel
theorem d_Mo_least_51 : decode b_Mo_least 51 = .ok (.ishr, 1) := by decide +kernel
theorem d_Mo_least_52 : decode b_Mo_least 52 = .ok (.istore 7, 2) := by decide +kernel
theorem d_Mo_least_54 : decode b_Mo_least 54 = .ok (.iload_n 3, 1) := by decide +kernel
theorem d_Mo_least_55 : decode b_Mo_least 55 = .ok (.ifCond .eq 35, 3) := by decide +kernel
theorem d_Mo_least_58 : decode b_Mo_least 58 = .ok (.aload_n 0, 1) := by decide +kernel
theorem d_Mo_least_59 : decode b_Mo_least 59 = .ok (.getfield 52, 3) := by decide +kernel
theorem d_Mo_least_62 : decode b_Mo_least 62 = .ok (.bipush 64, 2) := by decide +kernel
theorem d_Mo_least_64 : decode b_Mo_least 64 = .ok (.iload_n 2, 1) := by decide +kernel
theorem d_Mo_least_65 : decode b_Mo_least 65 = .ok (.iconst 1, 1) := by decide +kernel
theorem d_Mo_least_66 : decode b_Mo_least 66 = .ok (.iload 5, 2) := by decide +kernel
theorem d_Mo_least_68 : decode b_Mo_least 68 = .ok (.ishl, 1) := by decide +kernel
theorem d_Mo_least_69 : decode b_Mo_least 69 = .ok (.iconst (-1), 1) := by decide +kernel
theorem d_Mo_least_70 : decode b_Mo_least 70 = .ok (.ixor, 1) := by decide +kernel
theorem d_Mo_least_71 : decode b_Mo_least 71 = .ok (.iand, 1) := by decide +kernel
theorem d_Mo_least_72 : decode b_Mo_least 72 = .ok (.imul, 1) := by decide +kernel
theorem d_Mo_least_73 : decode b_Mo_least 73 = .ok (.iload 7, 2) := by decide +kernel
theorem d_Mo_least_75 : decode b_Mo_least 75 = .ok (.iload 4, 2) := by decide +kernel
theorem d_Mo_least_77 : decode b_Mo_least 77 = .ok (.ishl, 1) := by decide +kernel
theorem d_Mo_least_78 : decode b_Mo_least 78 = .ok (.iload 6, 2) := by decide +kernel
theorem d_Mo_least_80 : decode b_Mo_least 80 = .ok (.ior, 1) := by decide +kernel
theorem d_Mo_least_81 : decode b_Mo_least 81 = .ok (.iadd, 1) := by decide +kernel
theorem d_Mo_least_82 : decode b_Mo_least 82 = .ok (.baload, 1) := by decide +kernel
theorem d_Mo_least_83 : decode b_Mo_least 83 = .ok (.ifCond .eq 7, 3) := by decide +kernel
theorem d_Mo_least_86 : decode b_Mo_least 86 = .ok (.iconst 1, 1) := by decide +kernel
theorem d_Mo_least_87 : decode b_Mo_least 87 = .ok (.goto 4, 3) := by decide +kernel
theorem d_Mo_least_90 : decode b_Mo_least 90 = .ok (.iconst 0, 1) := by decide +kernel
theorem d_Mo_least_91 : decode b_Mo_least 91 = .ok (.istore_n 3, 1) := by decide +kernel
theorem d_Mo_least_92 : decode b_Mo_least 92 = .ok (.iload 4, 2) := by decide +kernel
theorem d_Mo_least_94 : decode b_Mo_least 94 = .ok (.iconst 2, 1) := by decide +kernel
theorem d_Mo_least_95 : decode b_Mo_least 95 = .ok (.iadd, 1) := by decide +kernel
theorem d_Mo_least_96 : decode b_Mo_least 96 = .ok (.istore 4, 2) := by decide +kernel
theorem d_Mo_least_98 : decode b_Mo_least 98 = .ok (.iinc 5 1, 3) := by decide +kernel
theorem d_Mo_least_101 : decode b_Mo_least 101 = .ok (.goto (-88), 3) := by decide +kernel
theorem d_Mo_least_104 : decode b_Mo_least 104 = .ok (.iload_n 3, 1) := by decide +kernel
theorem d_Mo_least_105 : decode b_Mo_least 105 = .ok (.ireturn, 1) := by decide +kernel
end
section
/-! the environment of every method: class numbers, array classes, nest words, the two static tables -/
abbrev Cx : Type := va_G × (Nat → ClassId)
abbrev TY (X : Cx) : List (ClassId × FieldType) := [(X.2 0, .int), (X.2 1, .long), (X.2 2, .boolean), (X.2 3, .byte), (X.2 4, .short), (X.2 5, .object R_NS)]
def nestW : List Cond := [.methodLinkNest "CombinationRows$Space" 20 y_NS_init "CombinationRows", .fieldLinkNest "CombinationRows$NumberSet" 38 "CombinationRows" "ZERO_IN_WORD" "[J" "CombinationRows", .methodLinkNest "CombinationRows$NumberSet" 35 y_CR_valueOf "CombinationRows", .methodLinkNest "CombinationRows" 18 y_Re_init "CombinationRows", .methodLinkNest "CombinationRows$Terms" 21 y_NS_init "CombinationRows", .methodLinkNest "CombinationRows$NumberSet" 29 y_CR_nextWithin "CombinationRows", .fieldLinkNest "CombinationRows$Relations" 25 "CombinationRows" "SETS_WITH" "[J" "CombinationRows", .methodLinkNest "CombinationRows$Generation" 67 y_CR_fieldsOf "CombinationRows", .methodLinkNest "CombinationRows$Space" 76 y_CR_valueOf "CombinationRows", .methodLinkNest "CombinationRows$Generation" 82 y_CR_nextWithin "CombinationRows", .methodLinkNest "CombinationRows$Generation" 122 y_CR_valueOf "CombinationRows", .methodLinkNest "CombinationRows$Space" 93 y_CR_nextWithin "CombinationRows"]
def NW (U : State) : Prop := (∀ w ∈ nestW, va_Nw w U) ∧ va_AO R_NS U
theorem nest_kind : ∀ w ∈ nestW, w.onTables = true := by
  have h : nestW.all (fun w => w.onTables) = true := by decide +kernel
  exact fun w hw => List.all_eq_true.mp h w hw
theorem NW.same {u U : State} (h : u.vm = U.vm) (hn : NW u) : NW U := ⟨fun w hw => (hn.1 w hw).same (nest_kind w hw) h, va_AO.moved (u := u) (by rw [h]; exact Vm.Alike.refl _) hn.2⟩
theorem NW.warm {s U : State} (hW : s.WarmedH U.vm) (h : NW s) : NW U := by
  refine ⟨?_, va_AO.moved hW.alike h.2⟩
  intro w hw
  have h0 := h.1 w hw
  simp only [nestW, List.mem_cons, List.not_mem_nil, or_false] at hw
  rcases hw with rfl | rfl | rfl | rfl | rfl | rfl | rfl | rfl | rfl | rfl | rfl | rfl <;> first | exact va_Nw.warmM hW h0 | exact va_Nw.warmF hW h0
theorem nw_0 {U : State} (h : NW U) : va_Nw (.methodLinkNest "CombinationRows$Space" 20 y_NS_init "CombinationRows") U := h.1 _ (List.mem_of_getElem? (i := 0) rfl)
theorem nw_1 {U : State} (h : NW U) : va_Nw (.fieldLinkNest "CombinationRows$NumberSet" 38 "CombinationRows" "ZERO_IN_WORD" "[J" "CombinationRows") U := h.1 _ (List.mem_of_getElem? (i := 1) rfl)
theorem nw_2 {U : State} (h : NW U) : va_Nw (.methodLinkNest "CombinationRows$NumberSet" 35 y_CR_valueOf "CombinationRows") U := h.1 _ (List.mem_of_getElem? (i := 2) rfl)
theorem nw_3 {U : State} (h : NW U) : va_Nw (.methodLinkNest "CombinationRows" 18 y_Re_init "CombinationRows") U := h.1 _ (List.mem_of_getElem? (i := 3) rfl)
theorem nw_4 {U : State} (h : NW U) : va_Nw (.methodLinkNest "CombinationRows$Terms" 21 y_NS_init "CombinationRows") U := h.1 _ (List.mem_of_getElem? (i := 4) rfl)
theorem nw_5 {U : State} (h : NW U) : va_Nw (.methodLinkNest "CombinationRows$NumberSet" 29 y_CR_nextWithin "CombinationRows") U := h.1 _ (List.mem_of_getElem? (i := 5) rfl)
theorem nw_6 {U : State} (h : NW U) : va_Nw (.fieldLinkNest "CombinationRows$Relations" 25 "CombinationRows" "SETS_WITH" "[J" "CombinationRows") U := h.1 _ (List.mem_of_getElem? (i := 6) rfl)
theorem nw_7 {U : State} (h : NW U) : va_Nw (.methodLinkNest "CombinationRows$Generation" 67 y_CR_fieldsOf "CombinationRows") U := h.1 _ (List.mem_of_getElem? (i := 7) rfl)
theorem nw_8 {U : State} (h : NW U) : va_Nw (.methodLinkNest "CombinationRows$Space" 76 y_CR_valueOf "CombinationRows") U := h.1 _ (List.mem_of_getElem? (i := 8) rfl)
theorem nw_9 {U : State} (h : NW U) : va_Nw (.methodLinkNest "CombinationRows$Generation" 82 y_CR_nextWithin "CombinationRows") U := h.1 _ (List.mem_of_getElem? (i := 9) rfl)
theorem nw_10 {U : State} (h : NW U) : va_Nw (.methodLinkNest "CombinationRows$Generation" 122 y_CR_valueOf "CombinationRows") U := h.1 _ (List.mem_of_getElem? (i := 10) rfl)
theorem nw_11 {U : State} (h : NW U) : va_Nw (.methodLinkNest "CombinationRows$Space" 93 y_CR_nextWithin "CombinationRows") U := h.1 _ (List.mem_of_getElem? (i := 11) rfl)
def zw (j : Nat) : Int64 := match j with
  | 0 => 1229782938247303441
  | 1 => 4222189076152335
  | _ => 65535
def sw (j : Nat) : Int64 := match j with
  | 0 => -6148914691236517206
  | 1 => -3689348814741910324
  | 2 => -1085102592571150096
  | 3 => -71777214294589696
  | 4 => -281470681808896
  | _ => -4294967296
def SW (A : Nat → Prop) (U : State) (H : Heap) : Prop := ∃ t1 t2 : Nat, va_Z R_CR "ZERO_IN_WORD" "[J" (.ref t1) A U H ∧ va_T .long t1 3 (fun j => .long (zw j)) A U H ∧ va_Z R_CR "SETS_WITH" "[J" (.ref t2) A U H ∧ va_T .long t2 6 (fun j => .long (sw j)) A U H
def En (X : Cx) (tys : List (ClassId × FieldType)) (A : Nat → Prop) (U : State) (H : Heap) : Prop := va_K X.1 classes tys U ∧ NW U ∧ SW A U H
theorem En.call {X : Cx} {tys : List (ClassId × FieldType)} {A B : Nat → Prop} {s U : State} {H : Heap} {locs : List Loc} (hE : En X tys A s s.heap) (hS : va_S A s.heap H locs) (hAB : ∀ q, B q → A q) (hU : U.heap = H) (hW : s.WarmedH U.vm) : En X tys B U U.heap := by
  obtain ⟨hK, hN, t1, t2, z1, a1, z2, a2⟩ := hE
  rw [hU]
  exact ⟨va_K.moved hW.alike hK, hN.warm hW, t1, t2, ((z1.kept hS.2.1).narrow hAB).moved hW.alike, ((a1.kept hS.2.1).narrow hAB).moved hW.alike, ((z2.kept hS.2.1).narrow hAB).moved hW.alike, ((a2.kept hS.2.1).narrow hAB).moved hW.alike⟩
theorem En.blind {X : Cx} {tys : List (ClassId × FieldType)} {A : Nat → Prop} {U : State} {g : JFrame} {mk : MethodId} {a : Array Value} (hE : En X tys A U U.heap) : En X tys A (U.calling g mk a) (U.calling g mk a).heap := by
  obtain ⟨hK, hN, t1, t2, z1, a1, z2, a2⟩ := hE
  exact ⟨va_K.moved (u := U) (U := U.calling g mk a) (Vm.Alike.refl U.vm) hK, hN.same (u := U) (U := U.calling g mk a) rfl, t1, t2, va_Z.moved (u := U) (U := U.calling g mk a) (Vm.Alike.refl U.vm) z1, va_T.moved (u := U) (U := U.calling g mk a) (Vm.Alike.refl U.vm) a1, va_Z.moved (u := U) (U := U.calling g mk a) (Vm.Alike.refl U.vm) z2, va_T.moved (u := U) (U := U.calling g mk a) (Vm.Alike.refl U.vm) a2⟩
theorem RA_uniq {U : State} {a b : ClassId} {ty : FieldType} (h : va_RA U a ty) (g : va_RA U b ty) : a = b := by
  cases ty with
  | object C =>
    obtain ⟨_, _, _, _, _, h⟩ := h
    obtain ⟨_, _, _, _, _, g⟩ := g
    exact Option.some.inj (h.symm.trans g)
  | _ => exact Option.some.inj ((show _ = some a from h).symm.trans (show _ = some b from g))
/-! standard contracts -/
def Pre0 (X : Cx) (tys : List (ClassId × FieldType)) (w0 : va_W) (sz : Nat) (U : State) : Prop := U.heap.size = sz ∧ va_P X.1 classes w0 U.heap ∧ va_D (fun _ => True) w0 ∧ En X tys (va_A w0 sz) U U.heap
def Aft (X : Cx) (A : Nat → Prop) (w1 : va_W) (t : State) : Prop := va_P X.1 classes w1 t.heap ∧ va_D A w1
theorem Pre0.blind {X : Cx} {tys : List (ClassId × FieldType)} {w0 : va_W} {sz : Nat} {As : List Value} : FrameBlind (va_Pc As (Pre0 X tys w0 sz)) := fun a U g mk q => by
  obtain ⟨q0, q1, qP, qD, qE⟩ := q
  exact ⟨q0, q1, qP, qD, qE.blind⟩
theorem fm_of_map {α β : Type} {f : α → Option β} : ∀ {is : List α} {w : List β}, is.map f = w.map some → is.filterMap f = w
  | [], [], _ => rfl
  | [], _ :: _, h => by cases h
  | _ :: _, [], h => by cases h
  | i :: is, x :: w, h => by
    rw [List.map_cons, List.map_cons] at h
    obtain ⟨h1, h2⟩ := List.cons.inj h
    rw [List.filterMap_cons, h1]
    show x :: is.filterMap f = x :: w
    rw [fm_of_map h2]
theorem Pre0.of {X : Cx} {tys : List (ClassId × FieldType)} {A : Nat → Prop} {s U : State} {H : Heap} {locs : List Loc} {wc : va_W} {As : List Value} (hE : En X tys A s s.heap) (hS : va_S A s.heap H locs) (hF : ∀ q, va_A wc H.size q → A q) (hPc : va_P X.1 classes wc H) (hDc : va_D A wc) (hU : U.heap = H) (hW : s.WarmedH U.vm) : va_Pc As (Pre0 X tys wc H.size) As.toArray U :=
  ⟨rfl, by rw [hU], by rw [hU]; exact hPc, hDc.weaken (fun _ _ _ _ => trivial), hE.call hS hF hU hW⟩
def CtI (l : Launch) (X : Cx) (tys : List (ClassId × FieldType)) (y : MethodName) (cw : Cond) (rm : Room) (As : List Value) (w0 : va_W) {S : Type} (post : Int32 → S → Prop) (w1 : S → va_W) (mc ms : Nat) : Prop := ∀ sz : Nat, Met l y (cw :: gW) rm (va_Pc As (Pre0 X tys w0 sz)) (va_Qi post (fun u t => Aft X (va_A w0 sz) (w1 u) t) (va_A w0 sz)) mc ms (va_A w0 sz)
def CtL (l : Launch) (X : Cx) (tys : List (ClassId × FieldType)) (y : MethodName) (cw : Cond) (rm : Room) (As : List Value) (w0 : va_W) {S : Type} (post : Int64 → S → Prop) (w1 : S → va_W) (mc ms : Nat) : Prop := ∀ sz : Nat, Met l y (cw :: gW) rm (va_Pc As (Pre0 X tys w0 sz)) (va_Ql post (fun u t => Aft X (va_A w0 sz) (w1 u) t) (va_A w0 sz)) mc ms (va_A w0 sz)
def CtV (l : Launch) (X : Cx) (tys : List (ClassId × FieldType)) (y : MethodName) (cw : Cond) (rm : Room) (As : List Value) (w0 : va_W) {S : Type} (post : S → Prop) (w1 : S → va_W) (mc ms : Nat) : Prop := ∀ sz : Nat, Met l y (cw :: gW) rm (va_Pc As (Pre0 X tys w0 sz)) (va_Qv post (fun u t => Aft X (va_A w0 sz) (w1 u) t) (va_A w0 sz)) mc ms (va_A w0 sz)
def CtR (l : Launch) (X : Cx) (tys : List (ClassId × FieldType)) (y : MethodName) (cw : Cond) (rm : Room) (As : List Value) (w0 : va_W) {S : Type} (post : S → Prop) (ad : S → Nat) (w1 : S → va_W) (mc ms : Nat) : Prop := ∀ sz : Nat, Met l y (cw :: gW) rm (va_Pc As (Pre0 X tys w0 sz)) (va_Qr post (fun u a t => a = ad u ∧ Aft X (va_A w0 sz) (w1 u) t) (va_A w0 sz)) mc ms (va_A w0 sz)
/-- what a method's body may use -/
def Bd (p : Program) (s : State) (m : MethodId) (meth : Method) (c : Code) (cc : ByteArray) (maxL : Nat) (ret : Option FieldType) (y : MethodName) (As : List Value) (A : Nat → Prop) (w0 : va_W) (X : Cx) (tys : List (ClassId × FieldType)) : Prop :=
  p.tables.exec = Jvm.exec ∧ c.code = cc ∧ meth.sig.returnType = ret ∧ c.maxLocals = maxL ∧ s.vm.findClass y.cls = some m.cls ∧ meth.locks = false ∧ meth.name = y.name ∧ (∀ w ∈ gW, w.before As.toArray s = true) ∧ (∀ q : Nat, s.heap.size ≤ q → A q) ∧ va_D A w0 ∧ va_P X.1 classes w0 s.heap ∧ En X tys A s s.heap
theorem metI {l : Launch} {X : Cx} {tys : List (ClassId × FieldType)} {y : MethodName} {cc : ByteArray} {maxL : Nat} {ret : Option FieldType} {rm : Room} {As : List Value} {w0 : va_W} {S : Type} {post : Int32 → S → Prop} {w1 : S → va_W} {mc ms : Nat} (hy : plainName y.cls = true) (hn : (lg_sl As).length ≤ maxL)
    (body : ∀ (p : Program) (e : Env) (s : State) (m : MethodId) (below : List Frame) (meth : Method) (c : Code) (A : Nat → Prop) (ls : Array Slot), Bd p s m meth c cc maxL ret y As A w0 X tys → lv_has ls maxL (lv_args 0 As) → W p l e rm s m As.toArray below meth c s.heap [] 0 0 (MQ below (va_Qi post (fun u t => Aft X A (w1 u) t) A) As.toArray s mc ms A) (F0 m 0 ls [])) : CtI l X tys y (.code y cc maxL ret) rm As w0 post w1 mc ms := by
  intro sz
  refine Met.ofW (cc := cc) (maxL := maxL) (ret := ret) hy rfl ?_
  intro p e s m args below meth c s₁ B hml hv
  obtain ⟨rfl, hsz, hP, hD0, hE⟩ := hv
  subst hsz
  have hts := atoms_spec (ws := Cond.code y cc maxL ret :: gW) B.pre
  rw [lg_entry_eq]
  exact body p e s m below meth c (va_A w0 s.heap.size) _ ⟨B.exec, B.bytes, B.returns, hml, findClass_of_methodNamed B.named, B.notSynchronized, (name_of_methodNamed B.named B.method).1, fun w hw => hts w (List.mem_cons_of_mem _ hw), fun q h => Or.inr h, hD0.self, hP, hE⟩ (lv_entry As hn)
theorem metL {l : Launch} {X : Cx} {tys : List (ClassId × FieldType)} {y : MethodName} {cc : ByteArray} {maxL : Nat} {ret : Option FieldType} {rm : Room} {As : List Value} {w0 : va_W} {S : Type} {post : Int64 → S → Prop} {w1 : S → va_W} {mc ms : Nat} (hy : plainName y.cls = true) (hn : (lg_sl As).length ≤ maxL)
    (body : ∀ (p : Program) (e : Env) (s : State) (m : MethodId) (below : List Frame) (meth : Method) (c : Code) (A : Nat → Prop) (ls : Array Slot), Bd p s m meth c cc maxL ret y As A w0 X tys → lv_has ls maxL (lv_args 0 As) → W p l e rm s m As.toArray below meth c s.heap [] 0 0 (MQ below (va_Ql post (fun u t => Aft X A (w1 u) t) A) As.toArray s mc ms A) (F0 m 0 ls [])) : CtL l X tys y (.code y cc maxL ret) rm As w0 post w1 mc ms := by
  intro sz
  refine Met.ofW (cc := cc) (maxL := maxL) (ret := ret) hy rfl ?_
  intro p e s m args below meth c s₁ B hml hv
  obtain ⟨rfl, hsz, hP, hD0, hE⟩ := hv
  subst hsz
  have hts := atoms_spec (ws := Cond.code y cc maxL ret :: gW) B.pre
  rw [lg_entry_eq]
  exact body p e s m below meth c (va_A w0 s.heap.size) _ ⟨B.exec, B.bytes, B.returns, hml, findClass_of_methodNamed B.named, B.notSynchronized, (name_of_methodNamed B.named B.method).1, fun w hw => hts w (List.mem_cons_of_mem _ hw), fun q h => Or.inr h, hD0.self, hP, hE⟩ (lv_entry As hn)
theorem metV {l : Launch} {X : Cx} {tys : List (ClassId × FieldType)} {y : MethodName} {cc : ByteArray} {maxL : Nat} {ret : Option FieldType} {rm : Room} {As : List Value} {w0 : va_W} {S : Type} {post : S → Prop} {w1 : S → va_W} {mc ms : Nat} (hy : plainName y.cls = true) (hn : (lg_sl As).length ≤ maxL)
    (body : ∀ (p : Program) (e : Env) (s : State) (m : MethodId) (below : List Frame) (meth : Method) (c : Code) (A : Nat → Prop) (ls : Array Slot), Bd p s m meth c cc maxL ret y As A w0 X tys → lv_has ls maxL (lv_args 0 As) → W p l e rm s m As.toArray below meth c s.heap [] 0 0 (MQ below (va_Qv post (fun u t => Aft X A (w1 u) t) A) As.toArray s mc ms A) (F0 m 0 ls [])) : CtV l X tys y (.code y cc maxL ret) rm As w0 post w1 mc ms := by
  intro sz
  refine Met.ofW (cc := cc) (maxL := maxL) (ret := ret) hy rfl ?_
  intro p e s m args below meth c s₁ B hml hv
  obtain ⟨rfl, hsz, hP, hD0, hE⟩ := hv
  subst hsz
  have hts := atoms_spec (ws := Cond.code y cc maxL ret :: gW) B.pre
  rw [lg_entry_eq]
  exact body p e s m below meth c (va_A w0 s.heap.size) _ ⟨B.exec, B.bytes, B.returns, hml, findClass_of_methodNamed B.named, B.notSynchronized, (name_of_methodNamed B.named B.method).1, fun w hw => hts w (List.mem_cons_of_mem _ hw), fun q h => Or.inr h, hD0.self, hP, hE⟩ (lv_entry As hn)
theorem metR {l : Launch} {X : Cx} {tys : List (ClassId × FieldType)} {y : MethodName} {cc : ByteArray} {maxL : Nat} {ret : Option FieldType} {rm : Room} {As : List Value} {w0 : va_W} {S : Type} {post : S → Prop} {ad : S → Nat} {w1 : S → va_W} {mc ms : Nat} (hy : plainName y.cls = true) (hn : (lg_sl As).length ≤ maxL)
    (body : ∀ (p : Program) (e : Env) (s : State) (m : MethodId) (below : List Frame) (meth : Method) (c : Code) (A : Nat → Prop) (ls : Array Slot), Bd p s m meth c cc maxL ret y As A w0 X tys → lv_has ls maxL (lv_args 0 As) → W p l e rm s m As.toArray below meth c s.heap [] 0 0 (MQ below (va_Qr post (fun u a t => a = ad u ∧ Aft X A (w1 u) t) A) As.toArray s mc ms A) (F0 m 0 ls [])) : CtR l X tys y (.code y cc maxL ret) rm As w0 post ad w1 mc ms := by
  intro sz
  refine Met.ofW (cc := cc) (maxL := maxL) (ret := ret) hy rfl ?_
  intro p e s m args below meth c s₁ B hml hv
  obtain ⟨rfl, hsz, hP, hD0, hE⟩ := hv
  subst hsz
  have hts := atoms_spec (ws := Cond.code y cc maxL ret :: gW) B.pre
  rw [lg_entry_eq]
  exact body p e s m below meth c (va_A w0 s.heap.size) _ ⟨B.exec, B.bytes, B.returns, hml, findClass_of_methodNamed B.named, B.notSynchronized, (name_of_methodNamed B.named B.method).1, fun w hw => hts w (List.mem_cons_of_mem _ hw), fun q h => Or.inr h, hD0.self, hP, hE⟩ (lv_entry As hn)
section BASE
variable {p : Program} {l : Launch} {e : Env} {R : Room} {s : State} {m : MethodId} {args : Array Value} {below : List Frame} {meth : Method} {c : Code} {H : Heap} {locs : List Loc} {cells slots : Nat} {Q : State → Prop}
variable {cc : ByteArray} {pc : Nat} {ls : Array Slot} {rest st : List Value} {X : Cx} {A : Nat → Prop} {S : Type} {w1 : S → va_W} {mc ms : Nat}
theorem retI {post : Int32 → S → Prop} {v : Int32} {u : S} (hx : p.tables.exec = Jvm.exec) (hb : c.code = cc) (hr : meth.sig.returnType = some .int) (hlk : meth.locks = false) (hP : va_P X.1 classes (w1 u) H) (hD : va_D A (w1 u)) (hS : va_S A s.heap H locs) (hq : post v u) (hdg : decode cc pc = .ok (.ireturn, 1)) : W p l e R s m args below meth c H locs mc ms (MQ below (va_Qi post (fun u t => Aft X A (w1 u) t) A) args s mc ms A) (F0 m pc ls [.int v]) :=
  W.iret hx hb hr (fun t ht _ => ⟨⟨v, u, rfl, hq, by rw [ht]; exact hP, hD⟩, hS.F ht⟩) hS.2.2 hdg hlk
theorem retZ {post : Int32 → S → Prop} {v : Int32} {u : S} (hx : p.tables.exec = Jvm.exec) (hb : c.code = cc) (hr : meth.sig.returnType = some .boolean) (hlk : meth.locks = false) (hz : v = 0 ∨ v = 1) (hP : va_P X.1 classes (w1 u) H) (hD : va_D A (w1 u)) (hS : va_S A s.heap H locs) (hq : post v u) (hdg : decode cc pc = .ok (.ireturn, 1)) : W p l e R s m args below meth c H locs mc ms (MQ below (va_Qi post (fun u t => Aft X A (w1 u) t) A) args s mc ms A) (F0 m pc ls [.int v]) :=
  W.zret hx hb hr (by rcases hz with rfl | rfl <;> rfl) (fun t ht _ => ⟨⟨v, u, rfl, hq, by rw [ht]; exact hP, hD⟩, hS.F ht⟩) hS.2.2 hdg hlk
theorem retL {post : Int64 → S → Prop} {v : Int64} {u : S} (hx : p.tables.exec = Jvm.exec) (hb : c.code = cc) (hr : meth.sig.returnType = some .long) (hlk : meth.locks = false) (hP : va_P X.1 classes (w1 u) H) (hD : va_D A (w1 u)) (hS : va_S A s.heap H locs) (hq : post v u) (hdg : decode cc pc = .ok (.lreturn, 1)) : W p l e R s m args below meth c H locs mc ms (MQ below (va_Ql post (fun u t => Aft X A (w1 u) t) A) args s mc ms A) (F0 m pc ls [.long v]) :=
  W.lret hx hb hr (fun t ht _ => ⟨⟨v, u, rfl, hq, by rw [ht]; exact hP, hD⟩, hS.F ht⟩) hS.2.2 hdg hlk
theorem retV {post : S → Prop} {u : S} (hx : p.tables.exec = Jvm.exec) (hb : c.code = cc) (hr : meth.sig.returnType = none) (hlk : meth.locks = false) (hP : va_P X.1 classes (w1 u) H) (hD : va_D A (w1 u)) (hS : va_S A s.heap H locs) (hq : post u) (hdg : decode cc pc = .ok (.return_, 1)) : W p l e R s m args below meth c H locs mc ms (MQ below (va_Qv post (fun u t => Aft X A (w1 u) t) A) args s mc ms A) (F0 m pc ls []) :=
  W.vret hx hb hr (fun t ht _ => ⟨⟨u, rfl, hq, by rw [ht]; exact hP, hD⟩, hS.F ht⟩) hS.2.2 hdg hlk
theorem retR {post : S → Prop} {ad : S → Nat} {u : S} {a : Nat} {C : String} (hx : p.tables.exec = Jvm.exec) (hb : c.code = cc) (hr : meth.sig.returnType = some (.object C)) (hlk : meth.locks = false) (hP : va_P X.1 classes (w1 u) H) (hD : va_D A (w1 u)) (hS : va_S A s.heap H locs) (hq : post u) (ha : a = ad u) (hdg : decode cc pc = .ok (.areturn, 1)) : W p l e R s m args below meth c H locs mc ms (MQ below (va_Qr post (fun u a t => a = ad u ∧ Aft X A (w1 u) t) A) args s mc ms A) (F0 m pc ls [.ref a]) :=
  W.aret hx hb hr (Or.inl ⟨C, rfl⟩) (Or.inr ⟨a, rfl⟩) (fun t ht _ => ⟨⟨u, a, rfl, hq, ha, by rw [ht]; exact hP, hD⟩, hS.F ht⟩) hS.2.2 hdg hlk
theorem topI {x y : Int32} (h : x = y) (k : W p l e R s m args below meth c H locs cells slots Q (F0 m pc ls (.int y :: rest))) : W p l e R s m args below meth c H locs cells slots Q (F0 m pc ls (.int x :: rest)) := h ▸ k
theorem topL {x y : Int64} (h : x = y) (k : W p l e R s m args below meth c H locs cells slots Q (F0 m pc ls (.long y :: rest))) : W p l e R s m args below meth c H locs cells slots Q (F0 m pc ls (.long x :: rest)) := h ▸ k
theorem topR {x y : Value} (h : x = y) (k : W p l e R s m args below meth c H locs cells slots Q (F0 m pc ls (y :: rest))) : W p l e R s m args below meth c H locs cells slots Q (F0 m pc ls (x :: rest)) := h ▸ k
/-- a loop: J what holds of the state x, ws its world, lo its locals -/
theorem wLoop {nL : Nat} {σ : Type} (μ : σ → Nat) (J : σ → Prop) (ws : σ → va_W) (lo : σ → List (Nat × Value))
    (hs : ∀ (x : σ) (H : Heap) (locs : List Loc) (ls : Array Slot), J x → va_P X.1 classes (ws x) H → va_D A (ws x) → va_S A s.heap H locs → lv_has ls nL (lo x) → (∀ (y : σ) (H : Heap) (locs : List Loc) (ls : Array Slot), μ y < μ x → J y → va_P X.1 classes (ws y) H → va_D A (ws y) → va_S A s.heap H locs → lv_has ls nL (lo y) → W p l e R s m args below meth c H locs cells slots Q (F0 m pc ls [])) → W p l e R s m args below meth c H locs cells slots Q (F0 m pc ls []))
    (x : σ) (hJ : J x) (hP : va_P X.1 classes (ws x) H) (hD : va_D A (ws x)) (hS : va_S A s.heap H locs) (hl : lv_has ls nL (lo x)) : W p l e R s m args below meth c H locs cells slots Q (F0 m pc ls []) := by
  have key : ∀ (n : Nat) (x : σ) (H : Heap) (locs : List Loc) (ls : Array Slot), μ x < n → J x → va_P X.1 classes (ws x) H → va_D A (ws x) → va_S A s.heap H locs → lv_has ls nL (lo x) → W p l e R s m args below meth c H locs cells slots Q (F0 m pc ls []) := by
    intro n
    induction n with
    | zero => intro x _ _ _ h; exact absurd h (Nat.not_lt_zero _)
    | succ n ih =>
      intro x H locs ls hn hJ hP hD hS hl
      exact hs x H locs ls hJ hP hD hS hl (fun y H locs ls hy => ih y H locs ls (by omega))
  exact key (μ x + 1) x H locs ls (Nat.lt_succ_self _) hJ hP hD hS hl
/-- a place where roads join -/
theorem wCut {nL : Nat} {σ : Type} {pcJ : Nat} {g : JFrame} (J : σ → Prop) (ws : σ → va_W) (lo : σ → List (Nat × Value)) (st : σ → List Value)
    (hk : ∀ (x : σ) (H : Heap) (locs : List Loc) (ls : Array Slot), J x → va_P X.1 classes (ws x) H → va_D A (ws x) → va_S A s.heap H locs → lv_has ls nL (lo x) → W p l e R s m args below meth c H locs cells slots Q (F0 m pcJ ls (st x)))
    (body : (∀ (x : σ) (H : Heap) (locs : List Loc) (ls : Array Slot), J x → va_P X.1 classes (ws x) H → va_D A (ws x) → va_S A s.heap H locs → lv_has ls nL (lo x) → W p l e R s m args below meth c H locs cells slots Q (F0 m pcJ ls (st x))) → W p l e R s m args below meth c H locs cells slots Q g) : W p l e R s m args below meth c H locs cells slots Q g := body hk
theorem clVI {tys : List (ClassId × FieldType)} {nL maxL idx n mc ms : Nat} {own : String} {y : MethodName} {bytes : ByteArray} {ret : Option FieldType} {rm : Room} {As : List Value} {ws wc wr : va_W} {C : String} {T : u_T} {N ci : Nat} {fs : List Value} {b : Nat} {post : Int32 → S → Prop} (hx : p.tables.exec = Jvm.exec) (hb : c.code = cc) (hml : c.maxLocals = nL) (hown : s.vm.findClass own = some m.cls) (hg : ∀ w ∈ gW, w.before args s = true) (hE : En X tys A s s.heap) (hA : ∀ q : Nat, s.heap.size ≤ q → A q) (hP : va_P X.1 classes ws H) (hD : va_D A ws) (hS : va_S A s.heap H locs)
    (hM : CtI l X tys y (.code y bytes maxL ret) rm (.ref b :: As) wc post w1 mc ms) (hT : GoodIn gW (wsV own idx C y (.code y bytes maxL ret :: gW))) (hd : y.cls = C ∧ y.cls ≠ "java/lang/invoke/MethodHandle" ∧ y.cls ≠ "java/lang/invoke/VarHandle" ∧ (parseMethodDescriptor y.desc).map (fun d => d.parameters.length) = some n) (isC isR : List Nat) (hC : isC.map (fun i => ws[i]?) = wc.map some) (hR : isR.map (fun i => ws[i]?) = wr.map some) (hnC : va_nd isC = true) (hn : va_nd isR = true) (hdis : ∀ i ∈ isR, i ∉ isC) (qb : Nat) (hqb : wc[qb]? = some (b, .inr (ci, fs))) (hc : classes[ci]? = some (C, T, N)) (hlen : As.length = n) (hsz : ls.size = nL) (hroom : (rest.map fun v => v.category).sum ≤ 8) (hst0 : st = As.reverse ++ .ref b :: rest) (hdg : decode cc pc = .ok (.invokevirtual idx, 3)) (hrm : rm.cells = mc ∧ rm.slots = ms ∧ rm.frames + 1 ≤ R.frames ∧ 8 + (maxL + 11) + rm.locals ≤ R.locals) (hf : cells + mc ≤ R.cells ∧ slots + ms ≤ R.slots)
    (kk : ∀ (r : Int32) (u : S) (H1 : Heap) (locs1 : List Loc), post r u → va_P X.1 classes (wr ++ w1 u) H1 → va_D A (wr ++ w1 u) → va_S A s.heap H1 locs1 → W p l e R s m args below meth c H1 locs1 (cells + mc) (slots + ms) Q (F0 m (pc + 3) ls (.int r :: rest))) : W p l e R s m args below meth c H locs cells slots Q (F0 m pc ls st) := by
  have hPc := hP.sub (ws' := wc) isC (fm_of_map hC)
  have hFc := va_free (wc := wc) hD hS hA isC hC
  have hDc : va_D A wc := ⟨(hD.sub (ws' := wc) isC hnC hC).1, fun k q hq => hFc q.1 (va_A.in hq)⟩
  refine va_calli (va_runV (As := As) (rest := rest) ⟨hx, hb, hml, hown, hg⟩ (hM H.size) (cwV n hg hT rfl hrm.1 hrm.2.1 hd hrm.2.2) ⟨Pre0.blind, va_recv hE.1 hPc hc hqb, fun U hU hW => Pre0.of hE hS hFc hPc hDc hU hW⟩ rfl hlen hsz hst0 (lv_room hroom) hdg hf) hS (fun q _ h => hFc q h) hFc (fun r u t H1 locs1 ht hvm h5 hB hz1 hk1 hS1 => ?_)
  obtain ⟨hP1, hD1⟩ := hB
  rw [ht] at hP1
  obtain ⟨hP2, hD2⟩ := va_join (wr := wr) (w1 := w1 u) hP hD isC isR hC hR hn hdis hk1 hFc hP1 hD1
  exact kk r u H1 locs1 h5 hP2 hD2 hS1
theorem clVL {tys : List (ClassId × FieldType)} {nL maxL idx n mc ms : Nat} {own : String} {y : MethodName} {bytes : ByteArray} {ret : Option FieldType} {rm : Room} {As : List Value} {ws wc wr : va_W} {C : String} {T : u_T} {N ci : Nat} {fs : List Value} {b : Nat} {post : Int64 → S → Prop} (hx : p.tables.exec = Jvm.exec) (hb : c.code = cc) (hml : c.maxLocals = nL) (hown : s.vm.findClass own = some m.cls) (hg : ∀ w ∈ gW, w.before args s = true) (hE : En X tys A s s.heap) (hA : ∀ q : Nat, s.heap.size ≤ q → A q) (hP : va_P X.1 classes ws H) (hD : va_D A ws) (hS : va_S A s.heap H locs)
    (hM : CtL l X tys y (.code y bytes maxL ret) rm (.ref b :: As) wc post w1 mc ms) (hT : GoodIn gW (wsV own idx C y (.code y bytes maxL ret :: gW))) (hd : y.cls = C ∧ y.cls ≠ "java/lang/invoke/MethodHandle" ∧ y.cls ≠ "java/lang/invoke/VarHandle" ∧ (parseMethodDescriptor y.desc).map (fun d => d.parameters.length) = some n) (isC isR : List Nat) (hC : isC.map (fun i => ws[i]?) = wc.map some) (hR : isR.map (fun i => ws[i]?) = wr.map some) (hnC : va_nd isC = true) (hn : va_nd isR = true) (hdis : ∀ i ∈ isR, i ∉ isC) (qb : Nat) (hqb : wc[qb]? = some (b, .inr (ci, fs))) (hc : classes[ci]? = some (C, T, N)) (hlen : As.length = n) (hsz : ls.size = nL) (hroom : (rest.map fun v => v.category).sum ≤ 8) (hst0 : st = As.reverse ++ .ref b :: rest) (hdg : decode cc pc = .ok (.invokevirtual idx, 3)) (hrm : rm.cells = mc ∧ rm.slots = ms ∧ rm.frames + 1 ≤ R.frames ∧ 8 + (maxL + 11) + rm.locals ≤ R.locals) (hf : cells + mc ≤ R.cells ∧ slots + ms ≤ R.slots)
    (kk : ∀ (r : Int64) (u : S) (H1 : Heap) (locs1 : List Loc), post r u → va_P X.1 classes (wr ++ w1 u) H1 → va_D A (wr ++ w1 u) → va_S A s.heap H1 locs1 → W p l e R s m args below meth c H1 locs1 (cells + mc) (slots + ms) Q (F0 m (pc + 3) ls (.long r :: rest))) : W p l e R s m args below meth c H locs cells slots Q (F0 m pc ls st) := by
  have hPc := hP.sub (ws' := wc) isC (fm_of_map hC)
  have hFc := va_free (wc := wc) hD hS hA isC hC
  have hDc : va_D A wc := ⟨(hD.sub (ws' := wc) isC hnC hC).1, fun k q hq => hFc q.1 (va_A.in hq)⟩
  refine va_calll (va_runV (As := As) (rest := rest) ⟨hx, hb, hml, hown, hg⟩ (hM H.size) (cwV n hg hT rfl hrm.1 hrm.2.1 hd hrm.2.2) ⟨Pre0.blind, va_recv hE.1 hPc hc hqb, fun U hU hW => Pre0.of hE hS hFc hPc hDc hU hW⟩ rfl hlen hsz hst0 (lv_room hroom) hdg hf) hS (fun q _ h => hFc q h) hFc (fun r u t H1 locs1 ht hvm h5 hB hz1 hk1 hS1 => ?_)
  obtain ⟨hP1, hD1⟩ := hB
  rw [ht] at hP1
  obtain ⟨hP2, hD2⟩ := va_join (wr := wr) (w1 := w1 u) hP hD isC isR hC hR hn hdis hk1 hFc hP1 hD1
  exact kk r u H1 locs1 h5 hP2 hD2 hS1
theorem clVV {tys : List (ClassId × FieldType)} {nL maxL idx n mc ms : Nat} {own : String} {y : MethodName} {bytes : ByteArray} {ret : Option FieldType} {rm : Room} {As : List Value} {ws wc wr : va_W} {C : String} {T : u_T} {N ci : Nat} {fs : List Value} {b : Nat} {post : S → Prop} (hx : p.tables.exec = Jvm.exec) (hb : c.code = cc) (hml : c.maxLocals = nL) (hown : s.vm.findClass own = some m.cls) (hg : ∀ w ∈ gW, w.before args s = true) (hE : En X tys A s s.heap) (hA : ∀ q : Nat, s.heap.size ≤ q → A q) (hP : va_P X.1 classes ws H) (hD : va_D A ws) (hS : va_S A s.heap H locs)
    (hM : CtV l X tys y (.code y bytes maxL ret) rm (.ref b :: As) wc post w1 mc ms) (hT : GoodIn gW (wsV own idx C y (.code y bytes maxL ret :: gW))) (hd : y.cls = C ∧ y.cls ≠ "java/lang/invoke/MethodHandle" ∧ y.cls ≠ "java/lang/invoke/VarHandle" ∧ (parseMethodDescriptor y.desc).map (fun d => d.parameters.length) = some n) (isC isR : List Nat) (hC : isC.map (fun i => ws[i]?) = wc.map some) (hR : isR.map (fun i => ws[i]?) = wr.map some) (hnC : va_nd isC = true) (hn : va_nd isR = true) (hdis : ∀ i ∈ isR, i ∉ isC) (qb : Nat) (hqb : wc[qb]? = some (b, .inr (ci, fs))) (hc : classes[ci]? = some (C, T, N)) (hlen : As.length = n) (hsz : ls.size = nL) (hroom : (rest.map fun v => v.category).sum ≤ 8) (hst0 : st = As.reverse ++ .ref b :: rest) (hdg : decode cc pc = .ok (.invokevirtual idx, 3)) (hrm : rm.cells = mc ∧ rm.slots = ms ∧ rm.frames + 1 ≤ R.frames ∧ 8 + (maxL + 11) + rm.locals ≤ R.locals) (hf : cells + mc ≤ R.cells ∧ slots + ms ≤ R.slots)
    (kk : ∀ (u : S) (H1 : Heap) (locs1 : List Loc), post u → va_P X.1 classes (wr ++ w1 u) H1 → va_D A (wr ++ w1 u) → va_S A s.heap H1 locs1 → W p l e R s m args below meth c H1 locs1 (cells + mc) (slots + ms) Q (F0 m (pc + 3) ls (rest))) : W p l e R s m args below meth c H locs cells slots Q (F0 m pc ls st) := by
  have hPc := hP.sub (ws' := wc) isC (fm_of_map hC)
  have hFc := va_free (wc := wc) hD hS hA isC hC
  have hDc : va_D A wc := ⟨(hD.sub (ws' := wc) isC hnC hC).1, fun k q hq => hFc q.1 (va_A.in hq)⟩
  refine va_callv (va_runV (As := As) (rest := rest) ⟨hx, hb, hml, hown, hg⟩ (hM H.size) (cwV n hg hT rfl hrm.1 hrm.2.1 hd hrm.2.2) ⟨Pre0.blind, va_recv hE.1 hPc hc hqb, fun U hU hW => Pre0.of hE hS hFc hPc hDc hU hW⟩ rfl hlen hsz hst0 (lv_room hroom) hdg hf) hS (fun q _ h => hFc q h) hFc (fun u t H1 locs1 ht hvm h5 hB hz1 hk1 hS1 => ?_)
  obtain ⟨hP1, hD1⟩ := hB
  rw [ht] at hP1
  obtain ⟨hP2, hD2⟩ := va_join (wr := wr) (w1 := w1 u) hP hD isC isR hC hR hn hdis hk1 hFc hP1 hD1
  exact kk u H1 locs1 h5 hP2 hD2 hS1
theorem clVR {tys : List (ClassId × FieldType)} {nL maxL idx n mc ms : Nat} {own : String} {y : MethodName} {bytes : ByteArray} {ret : Option FieldType} {rm : Room} {As : List Value} {ws wc wr : va_W} {C : String} {T : u_T} {N ci : Nat} {fs : List Value} {b : Nat} {post : S → Prop} {ad : S → Nat} (hx : p.tables.exec = Jvm.exec) (hb : c.code = cc) (hml : c.maxLocals = nL) (hown : s.vm.findClass own = some m.cls) (hg : ∀ w ∈ gW, w.before args s = true) (hE : En X tys A s s.heap) (hA : ∀ q : Nat, s.heap.size ≤ q → A q) (hP : va_P X.1 classes ws H) (hD : va_D A ws) (hS : va_S A s.heap H locs)
    (hM : CtR l X tys y (.code y bytes maxL ret) rm (.ref b :: As) wc post ad w1 mc ms) (hT : GoodIn gW (wsV own idx C y (.code y bytes maxL ret :: gW))) (hd : y.cls = C ∧ y.cls ≠ "java/lang/invoke/MethodHandle" ∧ y.cls ≠ "java/lang/invoke/VarHandle" ∧ (parseMethodDescriptor y.desc).map (fun d => d.parameters.length) = some n) (isC isR : List Nat) (hC : isC.map (fun i => ws[i]?) = wc.map some) (hR : isR.map (fun i => ws[i]?) = wr.map some) (hnC : va_nd isC = true) (hn : va_nd isR = true) (hdis : ∀ i ∈ isR, i ∉ isC) (qb : Nat) (hqb : wc[qb]? = some (b, .inr (ci, fs))) (hc : classes[ci]? = some (C, T, N)) (hlen : As.length = n) (hsz : ls.size = nL) (hroom : (rest.map fun v => v.category).sum ≤ 8) (hst0 : st = As.reverse ++ .ref b :: rest) (hdg : decode cc pc = .ok (.invokevirtual idx, 3)) (hrm : rm.cells = mc ∧ rm.slots = ms ∧ rm.frames + 1 ≤ R.frames ∧ 8 + (maxL + 11) + rm.locals ≤ R.locals) (hf : cells + mc ≤ R.cells ∧ slots + ms ≤ R.slots)
    (kk : ∀ (u : S) (H1 : Heap) (locs1 : List Loc), post u → va_P X.1 classes (wr ++ w1 u) H1 → va_D A (wr ++ w1 u) → va_S A s.heap H1 locs1 → W p l e R s m args below meth c H1 locs1 (cells + mc) (slots + ms) Q (F0 m (pc + 3) ls (.ref (ad u) :: rest))) : W p l e R s m args below meth c H locs cells slots Q (F0 m pc ls st) := by
  have hPc := hP.sub (ws' := wc) isC (fm_of_map hC)
  have hFc := va_free (wc := wc) hD hS hA isC hC
  have hDc : va_D A wc := ⟨(hD.sub (ws' := wc) isC hnC hC).1, fun k q hq => hFc q.1 (va_A.in hq)⟩
  refine va_callr (va_runV (As := As) (rest := rest) ⟨hx, hb, hml, hown, hg⟩ (hM H.size) (cwV n hg hT rfl hrm.1 hrm.2.1 hd hrm.2.2) ⟨Pre0.blind, va_recv hE.1 hPc hc hqb, fun U hU hW => Pre0.of hE hS hFc hPc hDc hU hW⟩ rfl hlen hsz hst0 (lv_room hroom) hdg hf) hS (fun q _ h => hFc q h) hFc (fun u a t H1 locs1 ht hvm h5 hB hz1 hk1 hS1 => ?_)
  obtain ⟨rfl, hP1, hD1⟩ := hB
  rw [ht] at hP1
  obtain ⟨hP2, hD2⟩ := va_join (wr := wr) (w1 := w1 u) hP hD isC isR hC hR hn hdis hk1 hFc hP1 hD1
  exact kk u H1 locs1 h5 hP2 hD2 hS1
theorem clSI {tys : List (ClassId × FieldType)} {nL maxL idx n mc ms : Nat} {own : String} {y : MethodName} {bytes : ByteArray} {ret : Option FieldType} {rm : Room} {As : List Value} {ws wc wr : va_W} {post : Int32 → S → Prop} (hx : p.tables.exec = Jvm.exec) (hb : c.code = cc) (hml : c.maxLocals = nL) (hown : s.vm.findClass own = some m.cls) (hg : ∀ w ∈ gW, w.before args s = true) (hE : En X tys A s s.heap) (hA : ∀ q : Nat, s.heap.size ≤ q → A q) (hP : va_P X.1 classes ws H) (hD : va_D A ws) (hS : va_S A s.heap H locs)
    (hM : CtI l X tys y (.code y bytes maxL ret) rm As wc post w1 mc ms) (hT : GoodIn gW (va_wsS own idx y (.code y bytes maxL ret :: gW))) (hd : y.cls ≠ "java/lang/invoke/MethodHandle" ∧ y.cls ≠ "java/lang/invoke/VarHandle" ∧ (parseMethodDescriptor y.desc).map (fun d => d.parameters.length) = some n) (isC isR : List Nat) (hC : isC.map (fun i => ws[i]?) = wc.map some) (hR : isR.map (fun i => ws[i]?) = wr.map some) (hnC : va_nd isC = true) (hn : va_nd isR = true) (hdis : ∀ i ∈ isR, i ∉ isC) (hlen : As.length = n) (hsz : ls.size = nL) (hroom : (rest.map fun v => v.category).sum ≤ 8) (hst0 : st = As.reverse ++ rest) (hdg : decode cc pc = .ok (.invokestatic idx, 3)) (hrm : rm.cells = mc ∧ rm.slots = ms ∧ rm.frames + 1 ≤ R.frames ∧ 8 + (maxL + 11) + rm.locals ≤ R.locals) (hf : cells + mc ≤ R.cells ∧ slots + ms ≤ R.slots)
    (kk : ∀ (r : Int32) (u : S) (H1 : Heap) (locs1 : List Loc), post r u → va_P X.1 classes (wr ++ w1 u) H1 → va_D A (wr ++ w1 u) → va_S A s.heap H1 locs1 → W p l e R s m args below meth c H1 locs1 (cells + mc) (slots + ms) Q (F0 m (pc + 3) ls (.int r :: rest))) : W p l e R s m args below meth c H locs cells slots Q (F0 m pc ls st) := by
  have hPc := hP.sub (ws' := wc) isC (fm_of_map hC)
  have hFc := va_free (wc := wc) hD hS hA isC hC
  have hDc : va_D A wc := ⟨(hD.sub (ws' := wc) isC hnC hC).1, fun k q hq => hFc q.1 (va_A.in hq)⟩
  refine va_calli (va_runS (As := As) (rest := rest) ⟨hx, hb, hml, hown, hg⟩ (hM H.size) (va_cwS n hg hT rfl hrm.1 hrm.2.1 hd hrm.2.2) ⟨Pre0.blind, fun U hU hW => Pre0.of hE hS hFc hPc hDc hU hW⟩ rfl hlen hsz hst0 (lv_room hroom) hdg hf) hS (fun q _ h => hFc q h) hFc (fun r u t H1 locs1 ht hvm h5 hB hz1 hk1 hS1 => ?_)
  obtain ⟨hP1, hD1⟩ := hB
  rw [ht] at hP1
  obtain ⟨hP2, hD2⟩ := va_join (wr := wr) (w1 := w1 u) hP hD isC isR hC hR hn hdis hk1 hFc hP1 hD1
  exact kk r u H1 locs1 h5 hP2 hD2 hS1
theorem clSL {tys : List (ClassId × FieldType)} {nL maxL idx n mc ms : Nat} {own : String} {y : MethodName} {bytes : ByteArray} {ret : Option FieldType} {rm : Room} {As : List Value} {ws wc wr : va_W} {post : Int64 → S → Prop} (hx : p.tables.exec = Jvm.exec) (hb : c.code = cc) (hml : c.maxLocals = nL) (hown : s.vm.findClass own = some m.cls) (hg : ∀ w ∈ gW, w.before args s = true) (hE : En X tys A s s.heap) (hA : ∀ q : Nat, s.heap.size ≤ q → A q) (hP : va_P X.1 classes ws H) (hD : va_D A ws) (hS : va_S A s.heap H locs)
    (hM : CtL l X tys y (.code y bytes maxL ret) rm As wc post w1 mc ms) (hT : GoodIn gW (va_wsS own idx y (.code y bytes maxL ret :: gW))) (hd : y.cls ≠ "java/lang/invoke/MethodHandle" ∧ y.cls ≠ "java/lang/invoke/VarHandle" ∧ (parseMethodDescriptor y.desc).map (fun d => d.parameters.length) = some n) (isC isR : List Nat) (hC : isC.map (fun i => ws[i]?) = wc.map some) (hR : isR.map (fun i => ws[i]?) = wr.map some) (hnC : va_nd isC = true) (hn : va_nd isR = true) (hdis : ∀ i ∈ isR, i ∉ isC) (hlen : As.length = n) (hsz : ls.size = nL) (hroom : (rest.map fun v => v.category).sum ≤ 8) (hst0 : st = As.reverse ++ rest) (hdg : decode cc pc = .ok (.invokestatic idx, 3)) (hrm : rm.cells = mc ∧ rm.slots = ms ∧ rm.frames + 1 ≤ R.frames ∧ 8 + (maxL + 11) + rm.locals ≤ R.locals) (hf : cells + mc ≤ R.cells ∧ slots + ms ≤ R.slots)
    (kk : ∀ (r : Int64) (u : S) (H1 : Heap) (locs1 : List Loc), post r u → va_P X.1 classes (wr ++ w1 u) H1 → va_D A (wr ++ w1 u) → va_S A s.heap H1 locs1 → W p l e R s m args below meth c H1 locs1 (cells + mc) (slots + ms) Q (F0 m (pc + 3) ls (.long r :: rest))) : W p l e R s m args below meth c H locs cells slots Q (F0 m pc ls st) := by
  have hPc := hP.sub (ws' := wc) isC (fm_of_map hC)
  have hFc := va_free (wc := wc) hD hS hA isC hC
  have hDc : va_D A wc := ⟨(hD.sub (ws' := wc) isC hnC hC).1, fun k q hq => hFc q.1 (va_A.in hq)⟩
  refine va_calll (va_runS (As := As) (rest := rest) ⟨hx, hb, hml, hown, hg⟩ (hM H.size) (va_cwS n hg hT rfl hrm.1 hrm.2.1 hd hrm.2.2) ⟨Pre0.blind, fun U hU hW => Pre0.of hE hS hFc hPc hDc hU hW⟩ rfl hlen hsz hst0 (lv_room hroom) hdg hf) hS (fun q _ h => hFc q h) hFc (fun r u t H1 locs1 ht hvm h5 hB hz1 hk1 hS1 => ?_)
  obtain ⟨hP1, hD1⟩ := hB
  rw [ht] at hP1
  obtain ⟨hP2, hD2⟩ := va_join (wr := wr) (w1 := w1 u) hP hD isC isR hC hR hn hdis hk1 hFc hP1 hD1
  exact kk r u H1 locs1 h5 hP2 hD2 hS1
theorem clSV {tys : List (ClassId × FieldType)} {nL maxL idx n mc ms : Nat} {own : String} {y : MethodName} {bytes : ByteArray} {ret : Option FieldType} {rm : Room} {As : List Value} {ws wc wr : va_W} {post : S → Prop} (hx : p.tables.exec = Jvm.exec) (hb : c.code = cc) (hml : c.maxLocals = nL) (hown : s.vm.findClass own = some m.cls) (hg : ∀ w ∈ gW, w.before args s = true) (hE : En X tys A s s.heap) (hA : ∀ q : Nat, s.heap.size ≤ q → A q) (hP : va_P X.1 classes ws H) (hD : va_D A ws) (hS : va_S A s.heap H locs)
    (hM : CtV l X tys y (.code y bytes maxL ret) rm As wc post w1 mc ms) (hT : GoodIn gW (va_wsS own idx y (.code y bytes maxL ret :: gW))) (hd : y.cls ≠ "java/lang/invoke/MethodHandle" ∧ y.cls ≠ "java/lang/invoke/VarHandle" ∧ (parseMethodDescriptor y.desc).map (fun d => d.parameters.length) = some n) (isC isR : List Nat) (hC : isC.map (fun i => ws[i]?) = wc.map some) (hR : isR.map (fun i => ws[i]?) = wr.map some) (hnC : va_nd isC = true) (hn : va_nd isR = true) (hdis : ∀ i ∈ isR, i ∉ isC) (hlen : As.length = n) (hsz : ls.size = nL) (hroom : (rest.map fun v => v.category).sum ≤ 8) (hst0 : st = As.reverse ++ rest) (hdg : decode cc pc = .ok (.invokestatic idx, 3)) (hrm : rm.cells = mc ∧ rm.slots = ms ∧ rm.frames + 1 ≤ R.frames ∧ 8 + (maxL + 11) + rm.locals ≤ R.locals) (hf : cells + mc ≤ R.cells ∧ slots + ms ≤ R.slots)
    (kk : ∀ (u : S) (H1 : Heap) (locs1 : List Loc), post u → va_P X.1 classes (wr ++ w1 u) H1 → va_D A (wr ++ w1 u) → va_S A s.heap H1 locs1 → W p l e R s m args below meth c H1 locs1 (cells + mc) (slots + ms) Q (F0 m (pc + 3) ls (rest))) : W p l e R s m args below meth c H locs cells slots Q (F0 m pc ls st) := by
  have hPc := hP.sub (ws' := wc) isC (fm_of_map hC)
  have hFc := va_free (wc := wc) hD hS hA isC hC
  have hDc : va_D A wc := ⟨(hD.sub (ws' := wc) isC hnC hC).1, fun k q hq => hFc q.1 (va_A.in hq)⟩
  refine va_callv (va_runS (As := As) (rest := rest) ⟨hx, hb, hml, hown, hg⟩ (hM H.size) (va_cwS n hg hT rfl hrm.1 hrm.2.1 hd hrm.2.2) ⟨Pre0.blind, fun U hU hW => Pre0.of hE hS hFc hPc hDc hU hW⟩ rfl hlen hsz hst0 (lv_room hroom) hdg hf) hS (fun q _ h => hFc q h) hFc (fun u t H1 locs1 ht hvm h5 hB hz1 hk1 hS1 => ?_)
  obtain ⟨hP1, hD1⟩ := hB
  rw [ht] at hP1
  obtain ⟨hP2, hD2⟩ := va_join (wr := wr) (w1 := w1 u) hP hD isC isR hC hR hn hdis hk1 hFc hP1 hD1
  exact kk u H1 locs1 h5 hP2 hD2 hS1
theorem clSNI {tys : List (ClassId × FieldType)} {nL maxL idx n mc ms : Nat} {own : String} {y : MethodName} {bytes : ByteArray} {ret : Option FieldType} {rm : Room} {As : List Value} {ws wc wr : va_W} {host : String} {post : Int32 → S → Prop} (hx : p.tables.exec = Jvm.exec) (hb : c.code = cc) (hml : c.maxLocals = nL) (hown : s.vm.findClass own = some m.cls) (hg : ∀ w ∈ gW, w.before args s = true) (hE : En X tys A s s.heap) (hA : ∀ q : Nat, s.heap.size ≤ q → A q) (hP : va_P X.1 classes ws H) (hD : va_D A ws) (hS : va_S A s.heap H locs)
    (hM : CtI l X tys y (.code y bytes maxL ret) rm As wc post w1 mc ms) (hT : Cond.code y bytes maxL ret ∈ gW) (hst : Cond.static y ∈ gW) (hini : Cond.initialized y.cls ∈ gW) (hl : va_Nw (.methodLinkNest own idx y host) s) (hd : y.cls ≠ "java/lang/invoke/MethodHandle" ∧ y.cls ≠ "java/lang/invoke/VarHandle" ∧ (parseMethodDescriptor y.desc).map (fun d => d.parameters.length) = some n) (isC isR : List Nat) (hC : isC.map (fun i => ws[i]?) = wc.map some) (hR : isR.map (fun i => ws[i]?) = wr.map some) (hnC : va_nd isC = true) (hn : va_nd isR = true) (hdis : ∀ i ∈ isR, i ∉ isC) (hlen : As.length = n) (hsz : ls.size = nL) (hroom : (rest.map fun v => v.category).sum ≤ 8) (hst0 : st = As.reverse ++ rest) (hdg : decode cc pc = .ok (.invokestatic idx, 3)) (hrm : rm.cells = mc ∧ rm.slots = ms ∧ rm.frames + 1 ≤ R.frames ∧ 8 + (maxL + 11) + rm.locals ≤ R.locals) (hf : cells + mc ≤ R.cells ∧ slots + ms ≤ R.slots)
    (kk : ∀ (r : Int32) (u : S) (H1 : Heap) (locs1 : List Loc), post r u → va_P X.1 classes (wr ++ w1 u) H1 → va_D A (wr ++ w1 u) → va_S A s.heap H1 locs1 → W p l e R s m args below meth c H1 locs1 (cells + mc) (slots + ms) Q (F0 m (pc + 3) ls (.int r :: rest))) : W p l e R s m args below meth c H locs cells slots Q (F0 m pc ls st) := by
  have hPc := hP.sub (ws' := wc) isC (fm_of_map hC)
  have hFc := va_free (wc := wc) hD hS hA isC hC
  have hDc : va_D A wc := ⟨(hD.sub (ws' := wc) isC hnC hC).1, fun k q hq => hFc q.1 (va_A.in hq)⟩
  refine va_calli (va_runSN (As := As) (rest := rest) ⟨hx, hb, hml, hown, hg⟩ (hM H.size) ⟨va_cnB n hg (gcons hT gG) rfl hrm.1 hrm.2.1 hl (hg _ hini) hd hrm.2.2, hg _ hst, trivial⟩ ⟨Pre0.blind, fun U hU hW => Pre0.of hE hS hFc hPc hDc hU hW⟩ rfl hlen hsz hst0 (lv_room hroom) hdg hf) hS (fun q _ h => hFc q h) hFc (fun r u t H1 locs1 ht hvm h5 hB hz1 hk1 hS1 => ?_)
  obtain ⟨hP1, hD1⟩ := hB
  rw [ht] at hP1
  obtain ⟨hP2, hD2⟩ := va_join (wr := wr) (w1 := w1 u) hP hD isC isR hC hR hn hdis hk1 hFc hP1 hD1
  exact kk r u H1 locs1 h5 hP2 hD2 hS1
theorem clSNL {tys : List (ClassId × FieldType)} {nL maxL idx n mc ms : Nat} {own : String} {y : MethodName} {bytes : ByteArray} {ret : Option FieldType} {rm : Room} {As : List Value} {ws wc wr : va_W} {host : String} {post : Int64 → S → Prop} (hx : p.tables.exec = Jvm.exec) (hb : c.code = cc) (hml : c.maxLocals = nL) (hown : s.vm.findClass own = some m.cls) (hg : ∀ w ∈ gW, w.before args s = true) (hE : En X tys A s s.heap) (hA : ∀ q : Nat, s.heap.size ≤ q → A q) (hP : va_P X.1 classes ws H) (hD : va_D A ws) (hS : va_S A s.heap H locs)
    (hM : CtL l X tys y (.code y bytes maxL ret) rm As wc post w1 mc ms) (hT : Cond.code y bytes maxL ret ∈ gW) (hst : Cond.static y ∈ gW) (hini : Cond.initialized y.cls ∈ gW) (hl : va_Nw (.methodLinkNest own idx y host) s) (hd : y.cls ≠ "java/lang/invoke/MethodHandle" ∧ y.cls ≠ "java/lang/invoke/VarHandle" ∧ (parseMethodDescriptor y.desc).map (fun d => d.parameters.length) = some n) (isC isR : List Nat) (hC : isC.map (fun i => ws[i]?) = wc.map some) (hR : isR.map (fun i => ws[i]?) = wr.map some) (hnC : va_nd isC = true) (hn : va_nd isR = true) (hdis : ∀ i ∈ isR, i ∉ isC) (hlen : As.length = n) (hsz : ls.size = nL) (hroom : (rest.map fun v => v.category).sum ≤ 8) (hst0 : st = As.reverse ++ rest) (hdg : decode cc pc = .ok (.invokestatic idx, 3)) (hrm : rm.cells = mc ∧ rm.slots = ms ∧ rm.frames + 1 ≤ R.frames ∧ 8 + (maxL + 11) + rm.locals ≤ R.locals) (hf : cells + mc ≤ R.cells ∧ slots + ms ≤ R.slots)
    (kk : ∀ (r : Int64) (u : S) (H1 : Heap) (locs1 : List Loc), post r u → va_P X.1 classes (wr ++ w1 u) H1 → va_D A (wr ++ w1 u) → va_S A s.heap H1 locs1 → W p l e R s m args below meth c H1 locs1 (cells + mc) (slots + ms) Q (F0 m (pc + 3) ls (.long r :: rest))) : W p l e R s m args below meth c H locs cells slots Q (F0 m pc ls st) := by
  have hPc := hP.sub (ws' := wc) isC (fm_of_map hC)
  have hFc := va_free (wc := wc) hD hS hA isC hC
  have hDc : va_D A wc := ⟨(hD.sub (ws' := wc) isC hnC hC).1, fun k q hq => hFc q.1 (va_A.in hq)⟩
  refine va_calll (va_runSN (As := As) (rest := rest) ⟨hx, hb, hml, hown, hg⟩ (hM H.size) ⟨va_cnB n hg (gcons hT gG) rfl hrm.1 hrm.2.1 hl (hg _ hini) hd hrm.2.2, hg _ hst, trivial⟩ ⟨Pre0.blind, fun U hU hW => Pre0.of hE hS hFc hPc hDc hU hW⟩ rfl hlen hsz hst0 (lv_room hroom) hdg hf) hS (fun q _ h => hFc q h) hFc (fun r u t H1 locs1 ht hvm h5 hB hz1 hk1 hS1 => ?_)
  obtain ⟨hP1, hD1⟩ := hB
  rw [ht] at hP1
  obtain ⟨hP2, hD2⟩ := va_join (wr := wr) (w1 := w1 u) hP hD isC isR hC hR hn hdis hk1 hFc hP1 hD1
  exact kk r u H1 locs1 h5 hP2 hD2 hS1
theorem clSNV {tys : List (ClassId × FieldType)} {nL maxL idx n mc ms : Nat} {own : String} {y : MethodName} {bytes : ByteArray} {ret : Option FieldType} {rm : Room} {As : List Value} {ws wc wr : va_W} {host : String} {post : S → Prop} (hx : p.tables.exec = Jvm.exec) (hb : c.code = cc) (hml : c.maxLocals = nL) (hown : s.vm.findClass own = some m.cls) (hg : ∀ w ∈ gW, w.before args s = true) (hE : En X tys A s s.heap) (hA : ∀ q : Nat, s.heap.size ≤ q → A q) (hP : va_P X.1 classes ws H) (hD : va_D A ws) (hS : va_S A s.heap H locs)
    (hM : CtV l X tys y (.code y bytes maxL ret) rm As wc post w1 mc ms) (hT : Cond.code y bytes maxL ret ∈ gW) (hst : Cond.static y ∈ gW) (hini : Cond.initialized y.cls ∈ gW) (hl : va_Nw (.methodLinkNest own idx y host) s) (hd : y.cls ≠ "java/lang/invoke/MethodHandle" ∧ y.cls ≠ "java/lang/invoke/VarHandle" ∧ (parseMethodDescriptor y.desc).map (fun d => d.parameters.length) = some n) (isC isR : List Nat) (hC : isC.map (fun i => ws[i]?) = wc.map some) (hR : isR.map (fun i => ws[i]?) = wr.map some) (hnC : va_nd isC = true) (hn : va_nd isR = true) (hdis : ∀ i ∈ isR, i ∉ isC) (hlen : As.length = n) (hsz : ls.size = nL) (hroom : (rest.map fun v => v.category).sum ≤ 8) (hst0 : st = As.reverse ++ rest) (hdg : decode cc pc = .ok (.invokestatic idx, 3)) (hrm : rm.cells = mc ∧ rm.slots = ms ∧ rm.frames + 1 ≤ R.frames ∧ 8 + (maxL + 11) + rm.locals ≤ R.locals) (hf : cells + mc ≤ R.cells ∧ slots + ms ≤ R.slots)
    (kk : ∀ (u : S) (H1 : Heap) (locs1 : List Loc), post u → va_P X.1 classes (wr ++ w1 u) H1 → va_D A (wr ++ w1 u) → va_S A s.heap H1 locs1 → W p l e R s m args below meth c H1 locs1 (cells + mc) (slots + ms) Q (F0 m (pc + 3) ls (rest))) : W p l e R s m args below meth c H locs cells slots Q (F0 m pc ls st) := by
  have hPc := hP.sub (ws' := wc) isC (fm_of_map hC)
  have hFc := va_free (wc := wc) hD hS hA isC hC
  have hDc : va_D A wc := ⟨(hD.sub (ws' := wc) isC hnC hC).1, fun k q hq => hFc q.1 (va_A.in hq)⟩
  refine va_callv (va_runSN (As := As) (rest := rest) ⟨hx, hb, hml, hown, hg⟩ (hM H.size) ⟨va_cnB n hg (gcons hT gG) rfl hrm.1 hrm.2.1 hl (hg _ hini) hd hrm.2.2, hg _ hst, trivial⟩ ⟨Pre0.blind, fun U hU hW => Pre0.of hE hS hFc hPc hDc hU hW⟩ rfl hlen hsz hst0 (lv_room hroom) hdg hf) hS (fun q _ h => hFc q h) hFc (fun u t H1 locs1 ht hvm h5 hB hz1 hk1 hS1 => ?_)
  obtain ⟨hP1, hD1⟩ := hB
  rw [ht] at hP1
  obtain ⟨hP2, hD2⟩ := va_join (wr := wr) (w1 := w1 u) hP hD isC isR hC hR hn hdis hk1 hFc hP1 hD1
  exact kk u H1 locs1 h5 hP2 hD2 hS1
theorem clIV {tys : List (ClassId × FieldType)} {nL maxL idx n mc ms : Nat} {own : String} {y : MethodName} {bytes : ByteArray} {ret : Option FieldType} {rm : Room} {As : List Value} {ws wc wr : va_W} {b : Nat} {post : S → Prop} (hx : p.tables.exec = Jvm.exec) (hb : c.code = cc) (hml : c.maxLocals = nL) (hown : s.vm.findClass own = some m.cls) (hg : ∀ w ∈ gW, w.before args s = true) (hE : En X tys A s s.heap) (hA : ∀ q : Nat, s.heap.size ≤ q → A q) (hP : va_P X.1 classes ws H) (hD : va_D A ws) (hS : va_S A s.heap H locs)
    (hM : CtV l X tys y (.code y bytes maxL none) rm (.ref b :: As) wc post w1 mc ms) (hT : Cond.code y bytes maxL none ∈ gW) (hini : Cond.initialized y.cls ∈ gW) (hl : Cond.methodLink own idx y ∈ gW) (him : Cond.instanceMethod y ∈ gW) (hy1 : y.name = "<init>") (hd : y.cls ≠ "java/lang/invoke/MethodHandle" ∧ y.cls ≠ "java/lang/invoke/VarHandle" ∧ (parseMethodDescriptor y.desc).map (fun d => d.parameters.length) = some n) (isC isR : List Nat) (hC : isC.map (fun i => ws[i]?) = wc.map some) (hR : isR.map (fun i => ws[i]?) = wr.map some) (hnC : va_nd isC = true) (hn : va_nd isR = true) (hdis : ∀ i ∈ isR, i ∉ isC) (hlen : As.length = n) (hsz : ls.size = nL) (hroom : (rest.map fun v => v.category).sum ≤ 8) (hst0 : st = As.reverse ++ .ref b :: rest) (hdg : decode cc pc = .ok (.invokespecial idx, 3)) (hrm : rm.cells = mc ∧ rm.slots = ms ∧ rm.frames + 1 ≤ R.frames ∧ 8 + (maxL + 11) + rm.locals ≤ R.locals) (hf : cells + mc ≤ R.cells ∧ slots + ms ≤ R.slots)
    (kk : ∀ (u : S) (H1 : Heap) (locs1 : List Loc), post u → va_P X.1 classes (wr ++ w1 u) H1 → va_D A (wr ++ w1 u) → va_S A s.heap H1 locs1 → W p l e R s m args below meth c H1 locs1 (cells + mc) (slots + ms) Q (F0 m (pc + 3) ls (rest))) : W p l e R s m args below meth c H locs cells slots Q (F0 m pc ls st) := by
  have hPc := hP.sub (ws' := wc) isC (fm_of_map hC)
  have hFc := va_free (wc := wc) hD hS hA isC hC
  have hDc : va_D A wc := ⟨(hD.sub (ws' := wc) isC hnC hC).1, fun k q hq => hFc q.1 (va_A.in hq)⟩
  refine va_callv (va_runI (As := As) (rest := rest) ⟨hx, hb, hml, hown, hg⟩ (hM H.size) (cwI n hg (gcons hT gG) rfl hrm.1 hrm.2.1 (hg _ hini) (hg _ hl) (hg _ him) hy1 hd hrm.2.2) ⟨Pre0.blind, fun U hU hW => Pre0.of hE hS hFc hPc hDc hU hW⟩ rfl hlen hsz hst0 (lv_room hroom) hdg hf) hS (fun q _ h => hFc q h) hFc (fun u t H1 locs1 ht hvm h5 hB hz1 hk1 hS1 => ?_)
  obtain ⟨hP1, hD1⟩ := hB
  rw [ht] at hP1
  obtain ⟨hP2, hD2⟩ := va_join (wr := wr) (w1 := w1 u) hP hD isC isR hC hR hn hdis hk1 hFc hP1 hD1
  exact kk u H1 locs1 h5 hP2 hD2 hS1
theorem clINV {tys : List (ClassId × FieldType)} {nL maxL idx n mc ms : Nat} {own : String} {y : MethodName} {bytes : ByteArray} {ret : Option FieldType} {rm : Room} {As : List Value} {ws wc wr : va_W} {host : String} {b : Nat} {post : S → Prop} (hx : p.tables.exec = Jvm.exec) (hb : c.code = cc) (hml : c.maxLocals = nL) (hown : s.vm.findClass own = some m.cls) (hg : ∀ w ∈ gW, w.before args s = true) (hE : En X tys A s s.heap) (hA : ∀ q : Nat, s.heap.size ≤ q → A q) (hP : va_P X.1 classes ws H) (hD : va_D A ws) (hS : va_S A s.heap H locs)
    (hM : CtV l X tys y (.code y bytes maxL none) rm (.ref b :: As) wc post w1 mc ms) (hT : Cond.code y bytes maxL none ∈ gW) (hini : Cond.initialized y.cls ∈ gW) (hl : va_Nw (.methodLinkNest own idx y host) s) (him : Cond.instanceMethod y ∈ gW) (hy1 : y.name = "<init>") (hd : y.cls ≠ "java/lang/invoke/MethodHandle" ∧ y.cls ≠ "java/lang/invoke/VarHandle" ∧ (parseMethodDescriptor y.desc).map (fun d => d.parameters.length) = some n) (isC isR : List Nat) (hC : isC.map (fun i => ws[i]?) = wc.map some) (hR : isR.map (fun i => ws[i]?) = wr.map some) (hnC : va_nd isC = true) (hn : va_nd isR = true) (hdis : ∀ i ∈ isR, i ∉ isC) (hlen : As.length = n) (hsz : ls.size = nL) (hroom : (rest.map fun v => v.category).sum ≤ 8) (hst0 : st = As.reverse ++ .ref b :: rest) (hdg : decode cc pc = .ok (.invokespecial idx, 3)) (hrm : rm.cells = mc ∧ rm.slots = ms ∧ rm.frames + 1 ≤ R.frames ∧ 8 + (maxL + 11) + rm.locals ≤ R.locals) (hf : cells + mc ≤ R.cells ∧ slots + ms ≤ R.slots)
    (kk : ∀ (u : S) (H1 : Heap) (locs1 : List Loc), post u → va_P X.1 classes (wr ++ w1 u) H1 → va_D A (wr ++ w1 u) → va_S A s.heap H1 locs1 → W p l e R s m args below meth c H1 locs1 (cells + mc) (slots + ms) Q (F0 m (pc + 3) ls (rest))) : W p l e R s m args below meth c H locs cells slots Q (F0 m pc ls st) := by
  have hPc := hP.sub (ws' := wc) isC (fm_of_map hC)
  have hFc := va_free (wc := wc) hD hS hA isC hC
  have hDc : va_D A wc := ⟨(hD.sub (ws' := wc) isC hnC hC).1, fun k q hq => hFc q.1 (va_A.in hq)⟩
  refine va_callv (va_runIN (As := As) (rest := rest) ⟨hx, hb, hml, hown, hg⟩ (hM H.size) ⟨va_cnB n hg (gcons hT gG) rfl hrm.1 hrm.2.1 hl (hg _ hini) hd hrm.2.2, hy1, hg _ him⟩ ⟨Pre0.blind, fun U hU hW => Pre0.of hE hS hFc hPc hDc hU hW⟩ rfl hlen hsz hst0 (lv_room hroom) hdg hf) hS (fun q _ h => hFc q h) hFc (fun u t H1 locs1 ht hvm h5 hB hz1 hk1 hS1 => ?_)
  obtain ⟨hP1, hD1⟩ := hB
  rw [ht] at hP1
  obtain ⟨hP2, hD2⟩ := va_join (wr := wr) (w1 := w1 u) hP hD isC isR hC hR hn hdis hk1 hFc hP1 hD1
  exact kk u H1 locs1 h5 hP2 hD2 hS1
theorem newaX {tys : List (ClassId × FieldType)} {ws : va_W} {atype : ArrayType} {ty : FieldType} {n : Int32} {N' : Nat} {a0 : vp_A} {cA0 : ClassId} (hx : p.tables.exec = Jvm.exec) (hb : c.code = cc) (harr : (Cond.arrayClass (newarray.typeOf atype)).before args s = true) (hty : newarray.typeOf atype = ty) (hE : En X tys A s s.heap) (hP : va_P X.1 classes ws H) (hD : va_D A ws) (hS : va_S A s.heap H locs) (hA : ∀ q : Nat, s.heap.size ≤ q → A q) (k : Nat) (ht : tys[k]? = some (cA0, ty)) (ha : ∀ cA : ClassId, vp_cell cA a0 = arrV cA N' (fun _ => defaultValue ty)) (hn : ¬ n < 0) (hN : n.toNatClampNeg = N') (hbytes : N' * componentBytes ty ≤ 536870912) (hcells : cells + 1 ≤ R.cells) (hslots : slots + N' ≤ R.slots) (hdg : decode cc pc = .ok (.newarray atype, 2))
    (kk : ∀ (q : Nat) (H1 : Heap), va_P X.1 classes (ws ++ [(q, .inl (cA0, a0))]) H1 → va_D A (ws ++ [(q, .inl (cA0, a0))]) → va_S A s.heap H1 locs → W p l e R s m args below meth c H1 locs (cells + 1) (slots + N') Q (F0 m (pc + 2) ls (.ref q :: rest))) : W p l e R s m args below meth c H locs cells slots Q (F0 m pc ls (.int n :: rest)) := by
  refine va_newa hx hb harr hty hE.1 hP hD hS hA ha hn hN hbytes hcells hslots hdg (fun q cA H1 hK1 hP1 hD1 hS1 => ?_)
  have e : cA = cA0 := RA_uniq (hK1.2 tys.length (cA, ty) (by simp)).2 (hE.1.2 k _ ht).2
  subst e
  exact kk q H1 hP1 hD1 hS1
theorem newqX {tys : List (ClassId × FieldType)} {ws : va_W} {own : String} {index : Nat} {n : Int32} {N' : Nat} {cA0 : ClassId} (hx : p.tables.exec = Jvm.exec) (hb : c.code = cc) (hown : s.vm.findClass own = some m.cls) (hclink : (Cond.classLink own index R_NS).before args s = true) (hE : En X tys A s s.heap) (hP : va_P X.1 classes ws H) (hD : va_D A ws) (hS : va_S A s.heap H locs) (hA : ∀ q : Nat, s.heap.size ≤ q → A q) (k : Nat) (ht : tys[k]? = some (cA0, .object R_NS)) (hn : ¬ n < 0) (hN : n.toNatClampNeg = N') (hbytes : N' * 4 ≤ 536870912) (hcells : cells + 1 ≤ R.cells) (hslots : slots + N' ≤ R.slots) (hdg : decode cc pc = .ok (.anewarray index, 3))
    (kk : ∀ (q : Nat) (H1 : Heap), va_P X.1 classes (ws ++ [(q, .inl (cA0, N', .inr (.inr (.inr (.inr (fun _ => none))))))]) H1 → va_D A (ws ++ [(q, .inl (cA0, N', .inr (.inr (.inr (.inr (fun _ => none))))))]) → va_S A s.heap H1 locs → W p l e R s m args below meth c H1 locs (cells + 1) (slots + N') Q (F0 m (pc + 3) ls (.ref q :: rest))) : W p l e R s m args below meth c H locs cells slots Q (F0 m pc ls (.int n :: rest)) := by
  refine va_newq hx hb hown hclink hE.2.1.2 hE.1 hP hD hS hA hn hN hbytes hcells hslots hdg (fun q cA H1 hK1 hP1 hD1 hS1 => ?_)
  have e : cA = cA0 := RA_uniq (hK1.2 tys.length (cA, .object R_NS) (by simp)).2 (hE.1.2 k _ ht).2
  subst e
  exact kk q H1 hP1 hD1 hS1
end BASE
end
section
/-! pasted families of kit/laws/BITS.to-paste: s_l, nx_and, ts_, wb_, u_tn -/
theorem s_l : ∀ n, n < 32 → ((nI n &&& 31).toBitVec.smod 32).toNat = n := by decide +kernel
theorem nx_and (a b : Nat) : nI a &&& nI b = nI (a &&& b) := by
  apply Int32.toBitVec_inj.1
  show BitVec.ofNat 32 a &&& BitVec.ofNat 32 b = BitVec.ofNat 32 (a &&& b)
  apply BitVec.eq_of_getLsbD_eq
  intro i hi
  simp [hi]
theorem nx_or (a b : Nat) : nI a ||| nI b = nI (a ||| b) := by
  apply Int32.toBitVec_inj.1
  show BitVec.ofNat 32 a ||| BitVec.ofNat 32 b = BitVec.ofNat 32 (a ||| b)
  apply BitVec.eq_of_getLsbD_eq
  intro i hi
  simp [hi]
theorem ts_nf {x : Bool} (h : ¬ x = false) : x = true := by cases x <;> first | rfl | exact absurd rfl h
theorem ts_nt {x : Bool} (h : ¬ x = true) : x = false := by cases x <;> first | rfl | exact absurd rfl h
theorem ts_bit {w : Int64} {s : UInt64} {j : Nat} (hj : j < 64) (hs : s.toNat = j) : ((w.toUInt64 >>> s).toInt64 &&& 1) = 0 ↔ w.toBitVec.getLsbD j = false := by
  have e : (w.toUInt64 >>> s).toInt64.toBitVec = w.toBitVec >>> j := by
    apply BitVec.eq_of_toNat_eq
    show (w.toUInt64 >>> s).toNat = _
    rw [UInt64.toNat_shiftRight, hs, Nat.mod_eq_of_lt hj, BitVec.toNat_ushiftRight]
    rfl
  rw [← Int64.toBitVec_inj, Int64.toBitVec_and, e]
  show w.toBitVec >>> j &&& 1#64 = 0#64 ↔ _
  constructor
  · intro h
    have t := congrArg (fun x => x.getLsbD 0) h
    simpa using t
  · intro h
    apply BitVec.eq_of_getLsbD_eq
    intro i hi
    cases i with
    | zero => simp [h]
    | succ i => simp
theorem wb_c : ∀ k, k < 64 → ((nI k).toInt64 &&& 63) = lN k := by decide +kernel
theorem wb_cu : ∀ k, k < 64 → ((nI k).toInt64.toUInt64 &&& Int64.toUInt64 63) = UInt64.ofNat k := by decide +kernel
theorem wb_sm : ∀ k, k < 64 → (BitVec.ofNat 64 k).smod 64 = BitVec.ofNat 64 k := by decide +kernel
theorem u_tn {n : Nat} (h : n < 2 ^ 64) : (UInt64.ofNat n).toNat = n := Nat.mod_eq_of_lt h
/-! small numbers in ints -/
theorem shrN {a b : Nat} (ha : a < 2 ^ 31) (hb : b < 32) : nI a >>> (nI b &&& 31) = nI (a / 2 ^ b) := pk_shrN ha _ b (s_l b hb)
theorem shlN {a b : Nat} (hb : b < 32) (h : a * 2 ^ b < 2 ^ 32) : nI a <<< (nI b &&& 31) = nI (a * 2 ^ b) := pk_shlN _ b (s_l b hb) h
theorem n_z {a : Nat} (h : a < 2 ^ 31) : nI a = 0 ↔ a = 0 := nI_eq (b := 0) h (by decide)
theorem n_lt0 {a : Nat} (h : a < 2 ^ 31) : nI a < 0 ↔ a < 0 := nI_ltI (b := 0) h (by decide)
theorem n_ge0 {a : Nat} (h : a < 2 ^ 31) : 0 ≤ nI a ↔ 0 ≤ a := nI_leI (a := 0) (by decide) h
theorem n_gt0 {a : Nat} (h : a < 2 ^ 31) : 0 < nI a ↔ 0 < a := nI_ltI (a := 0) (by decide) h
theorem n_le0 {a : Nat} (h : a < 2 ^ 31) : nI a ≤ 0 ↔ a ≤ 0 := nI_leI (b := 0) h (by decide)
theorem lcz {x y : Int64} : lg_cmp x y = 0 ↔ x = y := lg_cmp_eq x y
theorem tb_z {n i : Nat} : nI ((n / 2 ^ i) &&& 1) = 0 ↔ n.testBit i = false := by
  have h : (n / 2 ^ i) &&& 1 = n / 2 ^ i % 2 := Nat.and_one_is_mod _
  rw [h, Nat.testBit_eq_decide_div_mod_eq, decide_eq_false_iff_not]
  generalize n / 2 ^ i = z
  rw [n_z (by omega)]
  omega
def bI (b : Bool) : Int32 := cond b (nI 1) (nI 0)
theorem bI_z {b : Bool} : bI b = 0 ↔ b = false := by cases b <;> decide
theorem bI_01 (b : Bool) : bI b = 0 ∨ bI b = 1 := by cases b <;> decide
/-! bits of longs -/
def bL (x : Int64) (t : Nat) : Bool := x.toBitVec.getLsbD t
theorem bL_and (x y : Int64) (t : Nat) : bL (x &&& y) t = (bL x t && bL y t) := by unfold bL; rw [Int64.toBitVec_and, BitVec.getLsbD_and]
theorem bL_or (x y : Int64) (t : Nat) : bL (x ||| y) t = (bL x t || bL y t) := by unfold bL; rw [Int64.toBitVec_or, BitVec.getLsbD_or]
theorem bL_m1 {t : Nat} (ht : t < 64) : bL (-1) t = true := (by decide +kernel : ∀ t, t < 64 → bL (-1) t = true) t ht
theorem bL_0 (t : Nat) : bL 0 t = false := BitVec.getLsbD_zero
theorem bL_not {x : Int64} {t : Nat} (ht : t < 64) : bL (x ^^^ (-1)) t = !(bL x t) := by
  have h := bL_m1 ht
  unfold bL at h ⊢
  rw [Int64.toBitVec_xor, BitVec.getLsbD_xor, h, Bool.xor_true]
theorem bL_ext0 {x : Int64} (h : ∀ t, t < 64 → bL x t = false) : x = 0 := Int64.toBitVec_inj.mp (BitVec.eq_of_getLsbD_eq (fun i hi => (h i hi).trans BitVec.getLsbD_zero.symm))
theorem bit_at (x : Int64) {k : Nat} (hk : k < 64) : ((x.toUInt64 >>> ((nI k).toInt64.toUInt64 &&& Int64.toUInt64 63)).toInt64 &&& 1) = 0 ↔ bL x k = false := by
  rw [wb_cu k hk]
  exact ts_bit hk (u_tn (by omega))
def RS (f : Nat → Int64) (S : Nat → Bool) : Prop := ∀ w, w < 64 → ∀ t, t < 64 → bL (f w) t = S (64 * w + t)
theorem RS.at {f : Nat → Int64} {S : Nat → Bool} (h : RS f S) {n : Nat} (hn : n < 4096) : bL (f (n / 64)) (n % 64) = S n := by
  have := h (n / 64) (by omega) (n % 64) (by omega)
  rw [this]
  congr 1
  omega
/-! digits -/
def dg (r p : Nat) : Nat := r / 4 ^ p % 4
theorem dg_lt (r p : Nat) : dg r p < 4 := Nat.mod_lt _ (by decide)
theorem dg_lt31 (r p : Nat) : dg r p < 2 ^ 31 := Nat.lt_trans (dg_lt r p) (by decide)
theorem p24 (p : Nat) : 2 ^ (2 * p) = 4 ^ p := Nat.pow_mul ..
theorem dg_eq (n q : Nat) : dg n q = (n / 2 ^ (2 * q)) &&& 3 := by
  have h : n / 2 ^ (2 * q) &&& 3 = n / 2 ^ (2 * q) % 4 := Nat.and_two_pow_sub_one_eq_mod _ 2
  rw [h, p24]
  rfl
theorem dg_0 (r : Nat) : dg r 0 = r % 4 := by unfold dg; rw [Nat.pow_zero, Nat.div_one]
theorem dg_s (r p : Nat) : dg r (p + 1) = dg (r / 4) p := by unfold dg; rw [Nat.pow_succ', ← Nat.div_div_eq_div_mul]
theorem dg_z (p : Nat) : dg 0 p = 0 := by unfold dg; rw [Nat.zero_div]
theorem dg_big {r p : Nat} (h : r < 4 ^ p) : dg r p = 0 := by unfold dg; rw [Nat.div_eq_of_lt h]
theorem p4 (k : Nat) : 0 < 4 ^ k := Nat.pow_pos (by decide)
theorem p4le {a b : Nat} (h : a ≤ b) : 4 ^ a ≤ 4 ^ b := Nat.pow_le_pow_right (by decide) h
theorem dg_add {a d k : Nat} (p : Nat) (ha : a < 4 ^ k) (hd : d < 4) : dg (a + d * 4 ^ k) p = if p < k then dg a p else if p = k then d else 0 := by
  rcases Nat.lt_trichotomy p k with h | h | h
  · rw [if_pos h]
    obtain ⟨e, rfl⟩ : ∃ e, k = p + 1 + e := ⟨k - p - 1, by omega⟩
    unfold dg
    have h1 : d * 4 ^ (p + 1 + e) = 4 ^ p * (4 * (4 ^ e * d)) := by
      rw [Nat.pow_add, Nat.pow_succ]
      ac_rfl
    rw [h1, Nat.add_mul_div_left _ _ (p4 p), Nat.add_mul_mod_self_left]
  · subst h
    rw [if_neg (Nat.lt_irrefl _), if_pos rfl]
    unfold dg
    rw [Nat.mul_comm, Nat.add_mul_div_left _ _ (p4 p), Nat.div_eq_of_lt ha, Nat.zero_add, Nat.mod_eq_of_lt hd]
  · rw [if_neg (by omega), if_neg (by omega)]
    apply dg_big
    have h1 : 4 ^ (k + 1) ≤ 4 ^ p := p4le h
    rw [Nat.pow_succ] at h1
    have h2 : d * 4 ^ k ≤ 3 * 4 ^ k := Nat.mul_le_mul_right _ (by omega)
    omega
theorem dg_ext : ∀ {k r s : Nat}, r < 4 ^ k → s < 4 ^ k → (∀ p, p < k → dg r p = dg s p) → r = s
  | 0, r, s, hr, hs, _ => by rw [Nat.pow_zero] at hr hs; omega
  | k + 1, r, s, hr, hs, h => by
    rw [Nat.pow_succ] at hr hs
    have h0 := h 0 (by omega)
    rw [dg_0, dg_0] at h0
    have h1 : r / 4 = s / 4 := dg_ext (k := k) (by omega) (by omega) (fun p hp => by
      have := h (p + 1) (by omega)
      rw [dg_s, dg_s] at this
      exact this)
    omega
theorem dg_and (r s p : Nat) : dg (r &&& s) p = dg r p &&& dg s p := by
  unfold dg
  rw [← p24, Nat.and_div_two_pow]
  exact Nat.and_mod_two_pow (n := 2)
theorem dg_or (r s p : Nat) : dg (r ||| s) p = dg r p ||| dg s p := by
  unfold dg
  rw [← p24, Nat.or_div_two_pow]
  exact Nat.or_mod_two_pow (n := 2)
theorem dg_hi {w t q : Nat} (ht : t < 64) (hq : 3 ≤ q) : dg (64 * w + t) q = dg w (q - 3) := by
  obtain ⟨k, rfl⟩ : ∃ k, q = 3 + k := ⟨q - 3, by omega⟩
  unfold dg
  rw [Nat.pow_add, ← Nat.div_div_eq_div_mul, show (64 * w + t) / 4 ^ 3 = w by omega, Nat.add_sub_cancel_left]
theorem dg_lo {w t q : Nat} (hq : q < 3) : dg (64 * w + t) q = dg t q := by
  have h : q = 0 ∨ q = 1 ∨ q = 2 := by omega
  unfold dg
  rcases h with rfl | rfl | rfl <;> omega
/-- digits f below place k -/
def sd (f : Nat → Nat) : Nat → Nat
  | 0 => 0
  | i + 1 => sd f i + f i * 4 ^ i
theorem sd_lt {f : Nat → Nat} (hf : ∀ p, f p < 4) : ∀ k, sd f k < 4 ^ k
  | 0 => by show 0 < 1; decide
  | k + 1 => by
    have h := sd_lt hf k
    have h2 : f k * 4 ^ k ≤ 3 * 4 ^ k := Nat.mul_le_mul_right _ (by have := hf k; omega)
    show sd f k + f k * 4 ^ k < 4 ^ (k + 1)
    rw [Nat.pow_succ]
    omega
theorem dg_sd {f : Nat → Nat} (hf : ∀ p, f p < 4) : ∀ k p, dg (sd f k) p = if p < k then f p else 0
  | 0, p => by rw [if_neg (Nat.not_lt_zero _)]; exact dg_z p
  | k + 1, p => by
    show dg (sd f k + f k * 4 ^ k) p = _
    rw [dg_add p (sd_lt hf k) (hf k), dg_sd hf k p]
    by_cases h : p < k
    · rw [if_pos h, if_pos h, if_pos (by omega)]
    · rw [if_neg h]
      by_cases h2 : p = k
      · subst h2; rw [if_pos rfl, if_pos (by omega)]
      · rw [if_neg h2, if_neg (by omega)]
theorem sd_dg {k r : Nat} (h : r < 4 ^ k) : sd (dg r) k = r :=
  dg_ext (sd_lt (dg_lt r) k) h (fun p hp => by rw [dg_sd (dg_lt r) k p, if_pos hp])
/-! sets of parameters: n < 64; fields, count, the j-th tuple, the place of a row's tuple -/
def cn (n : Nat) : Nat → Nat
  | 0 => 0
  | i + 1 => cn n i + cond (n.testBit i) 1 0
theorem cn_le (n : Nat) : ∀ i, cn n i ≤ i
  | 0 => Nat.le_refl _
  | i + 1 => by
    have h := cn_le n i
    show cn n i + cond (n.testBit i) 1 0 ≤ i + 1
    cases n.testBit i <;> simp only [cond_true, cond_false] <;> omega
theorem cn_mono (n : Nat) {i : Nat} : ∀ {k : Nat}, i ≤ k → cn n i ≤ cn n k
  | 0, h => by obtain rfl : i = 0 := by omega
               exact Nat.le_refl _
  | k + 1, h => by
    by_cases e : i = k + 1
    · subst e; exact Nat.le_refl _
    · have := cn_mono n (i := i) (k := k) (by omega)
      show _ ≤ cn n k + _
      omega
theorem cn_t {n i : Nat} (h : n.testBit i = true) : cn n (i + 1) = cn n i + 1 := by show cn n i + cond (n.testBit i) 1 0 = _; rw [h]; rfl
theorem cn_f {n i : Nat} (h : n.testBit i = false) : cn n (i + 1) = cn n i := by show cn n i + cond (n.testBit i) 1 0 = _; rw [h]; rfl
theorem cn_lt {n p k : Nat} (h : n.testBit p = true) (hp : p < k) : cn n p < cn n k := by
  have h1 := cn_mono n (i := p + 1) (k := k) hp
  rw [cn_t h] at h1
  omega
def fo (n : Nat) (i : Nat) : Nat := sd (fun p => cond (n.testBit p) 3 0) i
theorem fo_d4 (n p : Nat) : cond (n.testBit p) 3 0 < 4 := by cases n.testBit p <;> decide
theorem fo_lt (n i : Nat) (h : i ≤ 6) : fo n i < 4096 := Nat.lt_of_lt_of_le (sd_lt (fo_d4 n) i) (p4le (b := 6) h)
theorem fo_f {n i : Nat} (h : n.testBit i = false) : fo n (i + 1) = fo n i := by
  show sd _ i + cond (n.testBit i) 3 0 * 4 ^ i = sd _ i
  rw [h]
  show sd _ i + 0 * 4 ^ i = _
  rw [Nat.zero_mul, Nat.add_zero]
theorem fo_t {n i : Nat} (h : n.testBit i = true) : fo n (i + 1) = fo n i ||| 3 * 2 ^ (2 * i) := by
  have h1 : fo n i < 2 ^ (2 * i) := by rw [p24]; exact sd_lt (fo_d4 n) i
  have h2 := Nat.shiftLeft_add_eq_or_of_lt h1 3
  rw [Nat.shiftLeft_eq] at h2
  rw [Nat.or_comm, ← h2]
  show sd _ i + cond (n.testBit i) 3 0 * 4 ^ i = _
  rw [h, p24]
  show fo n i + 3 * 4 ^ i = 3 * 4 ^ i + fo n i
  exact Nat.add_comm _ _
theorem dg_fo (n : Nat) {p : Nat} (hp : p < 6) : dg (fo n 6) p = cond (n.testBit p) 3 0 := by unfold fo; rw [dg_sd (fo_d4 n), if_pos hp]
theorem dg_fo0 {n p : Nat} (hp : p < 6) : dg (fo n 6) p = 0 ↔ n.testBit p = false := by rw [dg_fo n hp]; cases n.testBit p <;> decide
theorem p3 {i : Nat} (h : i < 6) : 3 * 2 ^ (2 * i) < 2 ^ 32 := by
  have := Nat.pow_le_pow_right (n := 2) (by decide) (show 2 * i ≤ 10 by omega)
  omega
theorem v4q {v q : Nat} (hv : v < 4) (hq : q ≤ 6) : v * 2 ^ (2 * q) < 2 ^ 32 :=
  Nat.lt_of_le_of_lt (Nat.mul_le_mul (show v ≤ 3 by omega) (Nat.pow_le_pow_right (n := 2) (by decide) (show 2 * q ≤ 12 by omega))) (by decide)
def uxf (n j p : Nat) : Nat := cond (n.testBit p) (dg j (cn n p)) 0
theorem uxf4 (n j p : Nat) : uxf n j p < 4 := by
  unfold uxf
  cases n.testBit p
  · show 0 < 4
    decide
  · exact dg_lt _ _
/-- the j-th tuple of the set n, as bits of a number -/
def ux (n j : Nat) : Nat := sd (uxf n j) 6
theorem ux_lt (n j : Nat) : ux n j < 4096 := sd_lt (uxf4 n j) 6
theorem dg_ux (n j : Nat) {p : Nat} (hp : p < 6) : dg (ux n j) p = cond (n.testBit p) (dg j (cn n p)) 0 := by unfold ux; rw [dg_sd (uxf4 n j), if_pos hp]; rfl
theorem ux_0 (n : Nat) : ux n 0 = 0 := dg_ext (k := 6) (ux_lt n 0) (by decide) (fun p hp => by
  rw [dg_ux n 0 hp, dg_z, dg_z]
  cases n.testBit p <;> rfl)
/-- the place of r's tuple of the set n (lowest parameter lowest) -/
def tpU (n r : Nat) : Nat → Nat
  | 0 => 0
  | i + 1 => tpU n r i + cond (n.testBit i) (dg r i * 4 ^ cn n i) 0
def tp (n r : Nat) : Nat := tpU n r 6
theorem tpU_t {n r i : Nat} (h : n.testBit i = true) : tpU n r (i + 1) = tpU n r i + dg r i * 4 ^ cn n i := by show tpU n r i + cond (n.testBit i) _ 0 = _; rw [h]; rfl
theorem tpU_f {n r i : Nat} (h : n.testBit i = false) : tpU n r (i + 1) = tpU n r i := by show tpU n r i + cond (n.testBit i) _ 0 = _; rw [h]; rfl
theorem tpU_lt (n r : Nat) : ∀ i, tpU n r i < 4 ^ cn n i
  | 0 => by show 0 < 1; decide
  | i + 1 => by
    have h := tpU_lt n r i
    cases hb : n.testBit i
    · rw [tpU_f hb, cn_f hb]; exact h
    · rw [tpU_t hb, cn_t hb, Nat.pow_succ]
      have h2 : dg r i * 4 ^ cn n i ≤ 3 * 4 ^ cn n i := Nat.mul_le_mul_right _ (by have := dg_lt r i; omega)
      omega
theorem dg_tpU (n r : Nat) : ∀ i p, p < i → n.testBit p = true → dg (tpU n r i) (cn n p) = dg r p
  | 0, p, h, _ => absurd h (Nat.not_lt_zero _)
  | i + 1, p, h, hb => by
    cases hi : n.testBit i
    · rw [tpU_f hi]
      exact dg_tpU n r i p (by
        by_cases e : p = i
        · subst e; rw [hi] at hb; cases hb
        · omega) hb
    · rw [tpU_t hi, dg_add _ (tpU_lt n r i) (dg_lt r i)]
      by_cases e : p = i
      · subst e; rw [if_neg (Nat.lt_irrefl _), if_pos rfl]
      · have hp : p < i := by omega
        rw [if_pos (cn_lt hb hp)]
        exact dg_tpU n r i p hp hb
theorem dg_tp {n r p : Nat} (hp : p < 6) (hb : n.testBit p = true) : dg (tp n r) (cn n p) = dg r p := dg_tpU n r 6 p hp hb
theorem tp_lt4 (n r : Nat) : tp n r < 4 ^ cn n 6 := tpU_lt n r 6
/-- each place below the count is a parameter's -/
theorem cn_onto (n : Nat) : ∀ i k, k < cn n i → ∃ p, p < i ∧ n.testBit p = true ∧ cn n p = k
  | 0, k, h => absurd h (Nat.not_lt_zero _)
  | i + 1, k, h => by
    by_cases hk : k < cn n i
    · obtain ⟨p, h1, h2, h3⟩ := cn_onto n i k hk
      exact ⟨p, by omega, h2, h3⟩
    · cases hb : n.testBit i
      · rw [cn_f hb] at h; exact absurd h hk
      · rw [cn_t hb] at h; exact ⟨i, by omega, hb, by omega⟩
theorem tp_iff {n r j : Nat} (hj : j < 4 ^ cn n 6) : tp n r = j ↔ ∀ p, p < 6 → n.testBit p = true → dg r p = dg j (cn n p) := by
  constructor
  · intro h p hp hb
    rw [← h, dg_tp hp hb]
  · intro h
    refine dg_ext (tp_lt4 n r) hj (fun k hk => ?_)
    obtain ⟨p, h1, h2, rfl⟩ := cn_onto n 6 k hk
    rw [dg_tp h1 h2, h p h1 h2]
theorem tp_eq {n r s : Nat} : tp n r = tp n s ↔ ∀ p, p < 6 → n.testBit p = true → dg r p = dg s p := by
  rw [tp_iff (tp_lt4 n s)]
  constructor
  · intro h p hp hb; rw [h p hp hb, dg_tp hp hb]
  · intro h p hp hb; rw [h p hp hb, dg_tp hp hb]
theorem tp_ux {n j : Nat} (hj : j < 4 ^ cn n 6) : tp n (ux n j) = j := (tp_iff hj).mpr (fun p hp hb => by rw [dg_ux n j hp, hb]; rfl)
theorem and3 : ∀ a, a < 4 → a &&& 3 = a := by decide
/-- a row holds the tuple: the bits at the fields are the tuple's -/
theorem and_fo {n r j : Nat} (hr : r < 4096) (hj : j < 4 ^ cn n 6) : r &&& fo n 6 = ux n j ↔ tp n r = j := by
  have hd : ∀ p, p < 6 → dg (r &&& fo n 6) p = cond (n.testBit p) (dg r p) 0 := fun p hp => by
    rw [dg_and, dg_fo n hp]
    cases n.testBit p
    · exact Nat.and_zero _
    · exact and3 _ (dg_lt r p)
  rw [tp_iff hj]
  constructor
  · intro h p hp hb
    have h1 := hd p hp
    rw [h, dg_ux n j hp, hb] at h1
    exact h1.symm
  · intro h
    refine dg_ext (k := 6) (Nat.lt_of_le_of_lt Nat.and_le_left hr) (ux_lt n j) (fun p hp => ?_)
    rw [hd p hp, dg_ux n j hp]
    cases hb : n.testBit p
    · rfl
    · exact h p hp hb
theorem ux_and (n j : Nat) : ux n j &&& fo n 6 = ux n j := by
  refine dg_ext (k := 6) (Nat.lt_of_le_of_lt Nat.and_le_left (ux_lt n j)) (ux_lt n j) (fun p hp => ?_)
  rw [dg_and, dg_fo n hp, dg_ux n j hp]
  cases n.testBit p
  · exact Nat.and_zero 0
  · exact and3 _ (dg_lt _ _)
/-- the next tuple: the class's step over the bits of a mask -/
theorem ux_step : ∀ n, n < 64 → ∀ a, a < (4 ^ cn n 6 + 63) / 64 → ∀ c, c < 64 → 64 * a + c < 4 ^ cn n 6 → (nI (ux n (64 * a + c)) - nI (fo n 6)) &&& nI (fo n 6) = nI (ux n (64 * a + c + 1)) := by decide +kernel
theorem ux_next {n j : Nat} (hn : n < 64) (hj : j < 4 ^ cn n 6) : (nI (ux n j) - nI (fo n 6)) &&& nI (fo n 6) = nI (ux n (j + 1)) := by
  have h := ux_step n hn (j / 64) (by omega) (j % 64) (by omega) (by omega)
  rwa [show 64 * (j / 64) + j % 64 = j by omega] at h
end
section
/-! arrays filled and changed word by word -/
theorem fillK {g g2 : Nat → Int64} {v : Int64} {i : Nat} (hJ : ∀ j, j < i → g j = v) (h2 : vp_updL g i v = g2) : ∀ j, j < i + 1 → g2 j = v := by
  intro j hj
  rw [← h2]
  by_cases e : j = i
  · subst e; exact pk_uLs
  · rw [pk_uLn e]; exact hJ j (by omega)
theorem fillKI {g g2 : Nat → Int32} {v : Int32} {i : Nat} (hJ : ∀ j, j < i → g j = v) (h2 : upd g i v = g2) : ∀ j, j < i + 1 → g2 j = v := by
  intro j hj
  rw [← h2]
  by_cases e : j = i
  · subst e; exact pk_us
  · rw [pk_un e]; exact hJ j (by omega)
theorem opK (op : Int64 → Int64 → Int64) {f g d d2 : Nat → Int64} {i : Nat} (hd : ∀ w, w < 64 → d w = if w < i then op (f w) (g w) else f w) (hi : i < 64) (h2 : vp_updL d i (op (d i) (g i)) = d2) : ∀ w, w < 64 → d2 w = if w < i + 1 then op (f w) (g w) else f w := by
  intro w hw
  rw [← h2]
  by_cases e : w = i
  · subst e
    rw [pk_uLs, if_pos (Nat.lt_succ_self _), hd w hw, if_neg (Nat.lt_irrefl _)]
  · rw [pk_uLn e, hd w hw]
    by_cases h : w < i
    · rw [if_pos h, if_pos (by omega)]
    · rw [if_neg h, if_neg (by omega)]
theorem andDone {f g d : Nat → Int64} {S T : Nat → Bool} {i : Nat} (hf : RS f S) (hg : RS g T) (hd : ∀ w, w < 64 → d w = if w < i then f w &&& g w else f w) (hi : 64 ≤ i) : RS d (fun r => S r && T r) := fun w hw t ht => by
  rw [hd w hw, if_pos (by omega), bL_and, hf w hw t ht, hg w hw t ht]
theorem orDone {f g d : Nat → Int64} {S T : Nat → Bool} {i : Nat} (hf : RS f S) (hg : RS g T) (hd : ∀ w, w < 64 → d w = if w < i then f w ||| g w else f w) (hi : 64 ≤ i) : RS d (fun r => S r || T r) := fun w hw t ht => by
  rw [hd w hw, if_pos (by omega), bL_or, hf w hw t ht, hg w hw t ht]
theorem notDone {f d : Nat → Int64} {S : Nat → Bool} {i : Nat} (hf : RS f S) (hd : ∀ w, w < 64 → d w = if w < i then f w ^^^ (-1) else f w) (hi : 64 ≤ i) : RS d (fun r => !(S r)) := fun w hw t ht => by
  rw [hd w hw, if_pos (by omega), bL_not ht, hf w hw t ht]
theorem allDone {d : Nat → Int64} (hd : ∀ j, j < 64 → d j = -1) : RS d (fun _ => true) := fun w hw t ht => by
  rw [hd w hw]; exact bL_m1 ht
/-! a word's rows -/
theorem wordLo0 : ∀ q, q < 3 → ∀ v, v < 4 → ∀ t, t < 64 → bL (zw q <<< ((nI (v * 2 ^ (2 * q))).toInt64 &&& 63)) t = (dg t q == v) := by decide +kernel
theorem wordLo {q v w : Nat} (hq : q < 3) (hv : v < 4) : ∀ t, t < 64 → bL (zw q <<< ((nI (v * 2 ^ (2 * q))).toInt64 &&& 63)) t = (dg (64 * w + t) q == v) := fun t ht => by
  rw [wordLo0 q hq v hv t ht, dg_lo hq]
theorem wordHi1 {q v w : Nat} (hq : 3 ≤ q) (h : dg w (q - 3) = v) : ∀ t, t < 64 → bL (-1) t = (dg (64 * w + t) q == v) := fun t ht => by
  rw [bL_m1 ht, dg_hi ht hq, h, beq_self_eq_true]
theorem wordHi0 {q v w : Nat} (hq : 3 ≤ q) (h : ¬ dg w (q - 3) = v) : ∀ t, t < 64 → bL 0 t = (dg (64 * w + t) q == v) := fun t ht => by
  rw [bL_0, dg_hi ht hq, beq_false_of_ne h]
theorem becK {q v i : Nat} {d d2 : Nat → Int64} {x : Int64} (hd : ∀ w, w < i → ∀ t, t < 64 → bL (d w) t = (dg (64 * w + t) q == v)) (hx : ∀ t, t < 64 → bL x t = (dg (64 * i + t) q == v)) (h2 : vp_updL d i x = d2) : ∀ w, w < i + 1 → ∀ t, t < 64 → bL (d2 w) t = (dg (64 * w + t) q == v) := by
  intro w hw t ht
  rw [← h2]
  by_cases e : w = i
  · subst e; rw [pk_uLs]; exact hx t ht
  · rw [pk_uLn e]; exact hd w (by omega) t ht
/-! is there a row with these bits -/
def exB (N : Nat) (f : Nat → Bool) : Bool := (List.range N).any f
theorem exB_t {N : Nat} {f : Nat → Bool} : exB N f = true ↔ ∃ r, r < N ∧ f r = true := by
  unfold exB
  rw [List.any_eq_true]
  constructor
  · rintro ⟨x, hx, h⟩; exact ⟨x, List.mem_range.mp hx, h⟩
  · rintro ⟨x, hx, h⟩; exact ⟨x, List.mem_range.mpr hx, h⟩
theorem exB_f {N : Nat} {f : Nat → Bool} : exB N f = false ↔ ∀ r, r < N → f r = false := by
  constructor
  · intro h r hr
    cases hf : f r
    · rfl
    · rw [exB_t.mpr ⟨r, hr, hf⟩] at h; cases h
  · intro h
    apply ts_nt
    intro h1
    obtain ⟨r, hr, hf⟩ := exB_t.mp h1
    rw [h r hr] at hf; cases hf
def anyR (S : Nat → Bool) (n b : Nat) : Bool := exB 4096 (fun r => S r && (r &&& fo n 6 == b))
theorem anyR_t {S : Nat → Bool} {n b : Nat} : anyR S n b = true ↔ ∃ r, r < 4096 ∧ S r = true ∧ r &&& fo n 6 = b := by
  unfold anyR
  rw [exB_t]
  simp only [Bool.and_eq_true, beq_iff_eq]
def inW (n b t : Nat) : Nat → Bool
  | 0 => true
  | i + 1 => inW n b t i && (!(n.testBit i) || dg t i == dg b i)
theorem inW_iff {n b t : Nat} : ∀ {i : Nat}, inW n b t i = true ↔ ∀ p, p < i → n.testBit p = true → dg t p = dg b p
  | 0 => ⟨fun _ p hp => absurd hp (Nat.not_lt_zero _), fun _ => rfl⟩
  | i + 1 => by
    show (inW n b t i && (!(n.testBit i) || dg t i == dg b i)) = true ↔ _
    rw [Bool.and_eq_true, inW_iff, Bool.or_eq_true, Bool.not_eq_true', beq_iff_eq]
    constructor
    · rintro ⟨h1, h2⟩ p hp hb
      by_cases e : p = i
      · subst e
        rcases h2 with h2 | h2
        · rw [h2] at hb; cases hb
        · exact h2
      · exact h1 p (by omega) hb
    · intro h
      refine ⟨fun p hp hb => h p (by omega) hb, ?_⟩
      cases hb : n.testBit i
      · exact Or.inl rfl
      · exact Or.inr (h i (by omega) hb)
theorem inW_f {n b i : Nat} {x : Int64} (hi : i < 6) (hm : ∀ t, t < 64 → bL x t = inW n b t i) (hc : dg (fo n 6) i = 0) : ∀ t, t < 64 → bL x t = inW n b t (i + 1) := fun t ht => by
  rw [hm t ht]
  show _ = (inW n b t i && (!(n.testBit i) || dg t i == dg b i))
  rw [(dg_fo0 hi).mp hc]
  simp
theorem inW_t {n b i : Nat} {x : Int64} (hi : i < 3) (hm : ∀ t, t < 64 → bL x t = inW n b t i) (hc : ¬ dg (fo n 6) i = 0) : ∀ t, t < 64 → bL (x &&& (zw i <<< ((nI (dg b i * 2 ^ (2 * i))).toInt64 &&& 63))) t = inW n b t (i + 1) := fun t ht => by
  rw [bL_and, hm t ht, wordLo0 i hi _ (dg_lt b i) t ht]
  show _ = (inW n b t i && (!(n.testBit i) || dg t i == dg b i))
  rw [dg_fo0 (by omega)] at hc
  rw [ts_nf hc]
  simp
/-- the free parameters 3, 4, 5 of n, as a set of 0, 1, 2 -/
def hs (n : Nat) : Nat := 7 - n / 8
theorem hs_b : ∀ n, n < 64 → ∀ k, k < 6 → (hs n).testBit k = (decide (k < 3) && !(n.testBit (k + 3))) := by decide +kernel
theorem hs_fr : ∀ n, n < 64 → (nI ((fo n 6) / 2 ^ 6) ^^^ (-1)) &&& nI 63 = nI (fo (hs n) 6) := by decide +kernel
theorem fr_eq {n : Nat} (hn : n < 64) : (nI ((fo n 6) / 2 ^ 6) ^^^ (-1)) &&& nI 63 = nI (fo (hs n) 6) := hs_fr n hn
theorem hs_lt (n : Nat) : hs n < 64 := by unfold hs; omega
theorem hi6 {b : Nat} (hb : b < 4096) : nI (b / 2 ^ 6) &&& nI 63 = nI (b / 64) := by
  have h : b / 2 ^ 6 &&& 63 = b / 2 ^ 6 % 64 := Nat.and_two_pow_sub_one_eq_mod _ 6
  rw [nx_and, h]
  congr 1
  omega
theorem ux_lt64 {n : Nat} (hn : n < 64) (j : Nat) : ux (hs n) j < 64 := by
  have h : ∀ k, 3 ≤ k → k < 6 → uxf (hs n) j k = 0 := fun k h3 h6 => by
    unfold uxf
    rw [hs_b n hn k h6, decide_eq_false (by omega)]
    rfl
  have e : ux (hs n) j = sd (uxf (hs n) j) 3 + uxf (hs n) j 3 * 4 ^ 3 + uxf (hs n) j 4 * 4 ^ 4 + uxf (hs n) j 5 * 4 ^ 5 := rfl
  rw [e, h 3 (by omega) (by omega), h 4 (by omega) (by omega), h 5 (by omega) (by omega)]
  have := sd_lt (uxf4 (hs n) j) 3
  omega
theorem or64 {a b : Nat} (ha : a < 64) (hb : b < 64) : a ||| b < 64 := Nat.or_lt_two_pow (n := 6) ha hb
theorem dg_b0 {n b p : Nat} (hbs : b &&& fo n 6 = b) (hp : p < 6) (h : n.testBit p = false) : dg b p = 0 := by
  rw [← hbs, dg_and, (dg_fo0 hp).mpr h]
  exact Nat.and_zero _
theorem dg_up {b k : Nat} : dg b (k + 3) = dg (b / 64) k := by
  have h := dg_hi (w := b / 64) (t := b % 64) (q := k + 3) (by omega) (by omega)
  rwa [show 64 * (b / 64) + b % 64 = b by omega, Nat.add_sub_cancel] at h
theorem and_dg {n r b : Nat} (hr : r < 4096) (hb : b < 4096) (hbs : b &&& fo n 6 = b) : r &&& fo n 6 = b ↔ ∀ p, p < 6 → n.testBit p = true → dg r p = dg b p := by
  constructor
  · intro h p hp hbp
    have h1 := congrArg (fun x => dg x p) h
    simp only [dg_and] at h1
    rw [dg_fo n hp, hbp] at h1
    exact (and3 _ (dg_lt r p)).symm.trans h1
  · intro h
    refine dg_ext (k := 6) (Nat.lt_of_le_of_lt Nat.and_le_left hr) hb (fun p hp => ?_)
    rw [dg_and, dg_fo n hp]
    cases hbp : n.testBit p
    · rw [dg_b0 hbs hp hbp]; exact Nat.and_zero _
    · rw [← h p hp hbp]; exact and3 _ (dg_lt r p)
theorem hit_w {n b j t : Nat} (hn : n < 64) (hb : b < 4096) (hbs : b &&& fo n 6 = b) (ht : t < 64) (hi : inW n b t 3 = true) : (64 * (b / 64 ||| ux (hs n) j) + t) &&& fo n 6 = b := by
  have hw := or64 (show b / 64 < 64 by omega) (ux_lt64 hn j)
  rw [and_dg (by omega) hb hbs]
  intro p hp hbp
  by_cases h3 : p < 3
  · rw [dg_lo h3]; exact inW_iff.mp hi p h3 hbp
  · rw [dg_hi ht (by omega), dg_or, dg_ux _ _ (by omega), hs_b n hn _ (by omega), show p - 3 + 3 = p by omega, hbp]
    rw [← dg_up, show p - 3 + 3 = p by omega]
    simp
theorem hit_j {n b r : Nat} (hn : n < 64) (hr : r < 4096) (hb : b < 4096) (hbs : b &&& fo n 6 = b) (h : r &&& fo n 6 = b) : r / 64 = b / 64 ||| ux (hs n) (tp (hs n) (r / 64)) := by
  refine dg_ext (k := 3) (show r / 64 < 64 by omega) (or64 (show b / 64 < 64 by omega) (ux_lt64 hn _)) (fun p hp => ?_)
  rw [dg_or, dg_ux _ _ (by omega), ← dg_up, ← dg_up]
  have hd := (and_dg hr hb hbs).mp h
  cases hq : n.testBit (p + 3)
  · have e : (hs n).testBit p = true := by rw [hs_b n hn p (by omega), hq, decide_eq_true hp]; rfl
    rw [e, dg_b0 hbs (by omega) hq, dg_up]
    show _ = 0 ||| dg (tp (hs n) (r / 64)) (cn (hs n) p)
    rw [dg_tp (by omega) e, Nat.zero_or]
  · have e : (hs n).testBit p = false := by rw [hs_b n hn p (by omega), hq, decide_eq_true hp]; rfl
    rw [e, hd (p + 3) (by omega) hq]
    exact (Nat.or_zero _).symm
theorem hitYes {f : Nat → Int64} {S : Nat → Bool} {x : Int64} {n b j : Nat} (hf : RS f S) (hx : ∀ t, t < 64 → bL x t = inW n b t 3) (hn : n < 64) (hb : b < 4096) (hbs : b &&& fo n 6 = b) (h : ¬ f (b / 64 ||| ux (hs n) j) &&& x = 0) : anyR S n b = true := by
  apply Classical.byContradiction
  intro hno
  apply h
  apply bL_ext0
  intro t ht
  have hw := or64 (show b / 64 < 64 by omega) (ux_lt64 hn j)
  rw [bL_and, hf _ hw t ht, hx t ht]
  cases hi : inW n b t 3
  · exact Bool.and_false _
  · cases hS : S (64 * (b / 64 ||| ux (hs n) j) + t)
    · rfl
    · exact absurd (anyR_t.mpr ⟨_, by omega, hS, hit_w hn hb hbs ht hi⟩) hno
theorem hitNo {f : Nat → Int64} {S : Nat → Bool} {x : Int64} {n b j : Nat} (hf : RS f S) (hx : ∀ t, t < 64 → bL x t = inW n b t 3) (hn : n < 64) (hb : b < 4096) (hbs : b &&& fo n 6 = b) (hj : 4 ^ cn (hs n) 6 ≤ j) (h : ∀ k, k < j → f (b / 64 ||| ux (hs n) k) &&& x = 0) : anyR S n b = false := by
  apply ts_nt
  intro hy
  obtain ⟨r, hr, hS, hrb⟩ := anyR_t.mp hy
  have h1 := h (tp (hs n) (r / 64)) (Nat.lt_of_lt_of_le (tp_lt4 _ _) hj)
  rw [← hit_j hn hr hb hbs hrb] at h1
  have h2 := congrArg (fun y => bL y (r % 64)) h1
  simp only [bL_and] at h2
  rw [hf.at hr, hx _ (by omega), hS, bL_0] at h2
  have h3 : inW n b (r % 64) 3 = true := inW_iff.mpr (fun p hp hbp => by
    have := (and_dg hr hb hbs).mp hrb p (by omega) hbp
    rw [← this, ← dg_lo (w := r / 64) hp, show 64 * (r / 64) + r % 64 = r by omega])
  rw [h3] at h2
  cases h2
/-! counts of bits -/
def bcI (x : Int32) : Int32 :=
  let a1 := x - ((x.toUInt32 >>> ((nI 1).toUInt32 &&& Int32.toUInt32 31)).toInt32 &&& 1431655765)
  let a2 := (a1 &&& 858993459) + ((a1.toUInt32 >>> ((nI 2).toUInt32 &&& Int32.toUInt32 31)).toInt32 &&& 858993459)
  let a3 := (a2 + (a2.toUInt32 >>> ((nI 4).toUInt32 &&& Int32.toUInt32 31)).toInt32) &&& 252645135
  let a4 := a3 + (a3.toUInt32 >>> ((nI 8).toUInt32 &&& Int32.toUInt32 31)).toInt32
  let a5 := a4 + (a4.toUInt32 >>> ((nI 16).toUInt32 &&& Int32.toUInt32 31)).toInt32
  a5 &&& nI 63
def bcL (x : Int64) : Int32 :=
  let a1 := x - ((x.toUInt64 >>> ((nI 1).toInt64.toUInt64 &&& Int64.toUInt64 63)).toInt64 &&& 6148914691236517205)
  let a2 := (a1 &&& 3689348814741910323) + ((a1.toUInt64 >>> ((nI 2).toInt64.toUInt64 &&& Int64.toUInt64 63)).toInt64 &&& 3689348814741910323)
  let a3 := (a2 + (a2.toUInt64 >>> ((nI 4).toInt64.toUInt64 &&& Int64.toUInt64 63)).toInt64) &&& 1085102592571150095
  let a4 := a3 + (a3.toUInt64 >>> ((nI 8).toInt64.toUInt64 &&& Int64.toUInt64 63)).toInt64
  let a5 := a4 + (a4.toUInt64 >>> ((nI 16).toInt64.toUInt64 &&& Int64.toUInt64 63)).toInt64
  let a6 := a5 + (a5.toUInt64 >>> ((nI 32).toInt64.toUInt64 &&& Int64.toUInt64 63)).toInt64
  a6.toInt32 &&& nI 127
theorem bc6_all : ∀ n, n < 64 → bcI (nI n) = nI (cn n 6) := by decide +kernel
theorem bc6 {n : Nat} (hn : n < 64) : bcI (nI n) = nI (cn n 6) := bc6_all n hn
theorem bcF_all : ∀ n, n < 64 → nI 1 <<< (bcI (nI (fo n 6)) &&& 31) = nI (4 ^ cn n 6) := by decide +kernel
theorem bcF {n : Nat} (hn : n < 64) : nI 1 <<< (bcI (nI (fo n 6)) &&& 31) = nI (4 ^ cn n 6) := bcF_all n hn
theorem p4cn (n : Nat) : 4 ^ cn n 6 ≤ 4096 := p4le (b := 6) (cn_le n 6)
end
section
/-! the space: values vl, invalid values iv (bits), rows that meet the rules M -/
def ia (v : Nat → Nat) : Nat → Int32 := fun j => nI (v j)
def gdB (vl iv : Nat → Nat) (r k : Nat) : Bool := decide (dg r k < vl k) && !((iv k).testBit (dg r k))
def bdB (vl iv : Nat → Nat) (r k : Nat) : Bool := decide (dg r k < vl k) && (iv k).testBit (dg r k)
def vK (vl iv : Nat → Nat) (M : Nat → Bool) (r : Nat) : Nat → Bool
  | 0 => M r
  | k + 1 => vK vl iv M r k && gdB vl iv r k
def nK (vl iv : Nat → Nat) (M : Nat → Bool) (r : Nat) : Nat → Bool
  | 0 => false
  | k + 1 => (nK vl iv M r k && gdB vl iv r k) || (vK vl iv M r k && bdB vl iv r k)
theorem lt_sB (d v : Nat) : decide (d < v + 1) = (decide (d < v) || d == v) := by
  rw [Bool.eq_iff_iff, decide_eq_true_iff, Bool.or_eq_true, decide_eq_true_iff, beq_iff_eq]
  omega
theorem wwS {g : Nat} {c : Bool} (t : Nat) : bL 0 t = (decide (g < 0) && c) := by
  rw [bL_0, decide_eq_false (Nat.not_lt_zero _)]
  rfl
theorem wwF {a : Int64} {w q v : Nat} {cb : Nat → Bool} (ha : ∀ t, t < 64 → bL a t = (decide (dg (64 * w + t) q < v) && cb (dg (64 * w + t) q))) (hc : cb v = false) : ∀ t, t < 64 → bL a t = (decide (dg (64 * w + t) q < v + 1) && cb (dg (64 * w + t) q)) := fun t ht => by
  rw [ha t ht, lt_sB]
  by_cases e : dg (64 * w + t) q = v
  · rw [e, hc, Bool.and_false, Bool.and_false]
  · rw [beq_false_of_ne e, Bool.or_false]
theorem wwT {a x : Int64} {w q v : Nat} {cb : Nat → Bool} (ha : ∀ t, t < 64 → bL a t = (decide (dg (64 * w + t) q < v) && cb (dg (64 * w + t) q))) (hc : cb v = true) (hx : ∀ t, t < 64 → bL x t = (dg (64 * w + t) q == v)) : ∀ t, t < 64 → bL (a ||| x) t = (decide (dg (64 * w + t) q < v + 1) && cb (dg (64 * w + t) q)) := fun t ht => by
  rw [bL_or, ha t ht, hx t ht, lt_sB]
  by_cases e : dg (64 * w + t) q = v
  · rw [e, hc, beq_self_eq_true, Bool.or_true, Bool.or_true, Bool.and_true]
  · rw [beq_false_of_ne e, Bool.or_false, Bool.or_false]
theorem cbN_all : ∀ i, i < 16 → ∀ v, v < 4 → (((nI i ^^^ (-1)) >>> (nI v &&& 31)) &&& nI 1 = 0 ↔ (!(i.testBit v)) = false) := by decide +kernel
theorem cbN {i : Nat} (h : i < 16) : ∀ v, v < 4 → (((nI i ^^^ (-1)) >>> (nI v &&& 31)) &&& nI 1 = 0 ↔ (!(i.testBit v)) = false) := cbN_all i h
theorem cbP_all : ∀ i, i < 16 → ∀ v, v < 4 → ((nI i >>> (nI v &&& 31)) &&& nI 1 = 0 ↔ i.testBit v = false) := by decide +kernel
theorem cbP {i : Nat} (h : i < 16) : ∀ v, v < 4 → ((nI i >>> (nI v &&& 31)) &&& nI 1 = 0 ↔ i.testBit v = false) := cbP_all i h
theorem sortJ {vl iv : Nat → Nat} {M : Nat → Bool} {i k : Nat} {a b x y : Int64} (hab : ∀ t, t < 64 → bL a t = vK vl iv M (64 * i + t) k ∧ bL b t = nK vl iv M (64 * i + t) k) (hG : ∀ t, t < 64 → bL x t = gdB vl iv (64 * i + t) k) (hB : ∀ t, t < 64 → bL y t = bdB vl iv (64 * i + t) k) : ∀ t, t < 64 → bL (a &&& x) t = vK vl iv M (64 * i + t) (k + 1) ∧ bL ((b &&& x) ||| (a &&& y)) t = nK vl iv M (64 * i + t) (k + 1) := fun t ht => by
  rw [bL_and, bL_or, bL_and, bL_and, (hab t ht).1, (hab t ht).2, hG t ht, hB t ht]
  exact ⟨rfl, rfl⟩
theorem sortK {vl iv : Nat → Nat} {M : Nat → Bool} {i : Nat} {g h g2 h2 : Nat → Int64} {a b : Int64} (hgh : ∀ w, w < i → ∀ t, t < 64 → bL (g w) t = vK vl iv M (64 * w + t) 6 ∧ bL (h w) t = nK vl iv M (64 * w + t) 6) (hab : ∀ t, t < 64 → bL a t = vK vl iv M (64 * i + t) 6 ∧ bL b t = nK vl iv M (64 * i + t) 6) (hg2 : vp_updL g i a = g2) (hh2 : vp_updL h i b = h2) : ∀ w, w < i + 1 → ∀ t, t < 64 → bL (g2 w) t = vK vl iv M (64 * w + t) 6 ∧ bL (h2 w) t = nK vl iv M (64 * w + t) 6 := by
  intro w hw t ht
  rw [← hg2, ← hh2]
  by_cases e : w = i
  · subst e; rw [pk_uLs, pk_uLs]; exact hab t ht
  · rw [pk_uLn e, pk_uLn e]; exact hgh w (by omega) t ht
theorem nI_below {P : Nat} {x : Int32} (hP : P ≤ 6) (h0 : ¬ x < 0) (h1 : ¬ nI P ≤ x) : ∃ q, q < P ∧ x = nI q := by
  rcases pk_ix x (n := P) (by omega) with h | h | h
  · exact absurd h h0
  · exact absurd h h1
  · exact h
def hvB (P : Nat) (vl : Nat → Nat) (x y : Int32) : Bool := decide (¬ x < 0 ∧ ¬ nI P ≤ x ∧ ¬ y < 0 ∧ ¬ nI (vl x.toNatClampNeg) ≤ y)
theorem hvB_1 {P q : Nat} {vl : Nat → Nat} {y : Int32} (hq : q < 2 ^ 31) (h1 : ¬ nI q < 0) (h2 : ¬ nI P ≤ nI q) (h3 : ¬ y < 0) (h4 : ¬ nI (vl q) ≤ y) : nI 1 = bI (hvB P vl (nI q) y) := by
  unfold hvB
  rw [nI_clamp hq, decide_eq_true ⟨h1, h2, h3, h4⟩]
  rfl
theorem hvB_0a {P : Nat} {vl : Nat → Nat} {x y : Int32} (h : x < 0) : nI 0 = bI (hvB P vl x y) := by
  unfold hvB
  rw [decide_eq_false (fun z => z.1 h)]
  rfl
theorem hvB_0b {P : Nat} {vl : Nat → Nat} {x y : Int32} (h : nI P ≤ x) : nI 0 = bI (hvB P vl x y) := by
  unfold hvB
  rw [decide_eq_false (fun z => z.2.1 h)]
  rfl
theorem hvB_0c {P : Nat} {vl : Nat → Nat} {x y : Int32} (h : y < 0) : nI 0 = bI (hvB P vl x y) := by
  unfold hvB
  rw [decide_eq_false (fun z => z.2.2.1 h)]
  rfl
theorem hvB_0d {P q : Nat} {vl : Nat → Nat} {y : Int32} (hq : q < 2 ^ 31) (h : nI (vl q) ≤ y) : nI 0 = bI (hvB P vl (nI q) y) := by
  unfold hvB
  rw [nI_clamp hq, decide_eq_false (fun z => z.2.2.2 h)]
  rfl
theorem pwE (P : Nat) : 1 * 2 ^ (2 * P) = 4 ^ P := by rw [Nat.one_mul, p24]
theorem pw4 {P : Nat} (h : P ≤ 6) : 1 * 2 ^ (2 * P) < 2 ^ 32 := by
  rw [pwE]
  exact Nat.lt_of_le_of_lt (p4le h) (by decide)
theorem pw4le {P : Nat} (h : P ≤ 6) : 4 ^ P ≤ 4096 := p4le (b := 6) h
theorem pw4lt {P : Nat} (h : P ≤ 6) : 4 ^ P < 2 ^ 31 := Nat.lt_of_le_of_lt (pw4le h) (by decide)
theorem pw2le {P : Nat} (h : P ≤ 6) : 2 ^ P ≤ 64 := show 2 ^ P ≤ 2 ^ 6 from Nat.pow_le_pow_right (by decide) h
theorem pw2 {P : Nat} (h : P ≤ 6) : 1 * 2 ^ P < 2 ^ 32 := by
  rw [Nat.one_mul]
  exact Nat.lt_of_le_of_lt (pw2le h) (by decide)
theorem pw1 {i : Nat} (h : i < 6) : 1 * 2 ^ i < 2 ^ 32 := pw2 (by omega)
def isS (P : Nat) (x : Int32) : Bool := decide (¬ x ≤ 0 ∧ ¬ nI (2 ^ P) ≤ x)
theorem isS_1 {P : Nat} {x : Int32} (h1 : ¬ x ≤ 0) (h2 : ¬ nI (1 * 2 ^ P) ≤ x) : nI 1 = bI (isS P x) := by
  rw [Nat.one_mul] at h2
  unfold isS
  rw [decide_eq_true ⟨h1, h2⟩]
  rfl
theorem isS_0a {P : Nat} {x : Int32} (h : x ≤ 0) : nI 0 = bI (isS P x) := by
  unfold isS
  rw [decide_eq_false (fun z => z.1 h)]
  rfl
theorem isS_0b {P : Nat} {x : Int32} (h : nI (1 * 2 ^ P) ≤ x) : nI 0 = bI (isS P x) := by
  rw [Nat.one_mul] at h
  unfold isS
  rw [decide_eq_false (fun z => z.2 h)]
  rfl
def all6 (vl : Nat → Nat) (n : Nat) : Nat → Bool
  | 0 => true
  | i + 1 => all6 vl n i && decide (dg n i < vl i)
theorem all6_iff {vl : Nat → Nat} {n : Nat} : ∀ {i : Nat}, all6 vl n i = true ↔ ∀ p, p < i → dg n p < vl p
  | 0 => ⟨fun _ p hp => absurd hp (Nat.not_lt_zero _), fun _ => rfl⟩
  | i + 1 => by
    show (all6 vl n i && decide (dg n i < vl i)) = true ↔ _
    rw [Bool.and_eq_true, all6_iff, decide_eq_true_iff]
    constructor
    · rintro ⟨h1, h2⟩ p hp
      by_cases e : p = i
      · subst e; exact h2
      · exact h1 p (by omega)
    · intro h
      exact ⟨fun p hp => h p (by omega), h i (by omega)⟩
theorem all6_s {vl : Nat → Nat} {n i : Nat} (h : all6 vl n i = true) (hc : dg n i < vl i) : all6 vl n (i + 1) = true := by
  show (all6 vl n i && decide (dg n i < vl i)) = true
  rw [h, decide_eq_true hc]
  rfl
theorem all6_no {vl : Nat → Nat} {n i : Nat} (hi : i < 6) (hc : ¬ dg n i < vl i) : all6 vl n 6 = false := ts_nt (fun h => hc (all6_iff.mp h i hi))
def rkN (vl : Nat → Nat) (V N : Nat → Bool) (n : Nat) : Int32 := if n < 4096 ∧ all6 vl n 6 = true then (if V n = true then nI 2 else if N n = true then nI 1 else nI 0) else -1
def rkF (vl : Nat → Nat) (V N : Nat → Bool) (x : Int32) : Int32 := if x < 0 then -1 else rkN vl V N x.toNatClampNeg
theorem rkF_n {vl : Nat → Nat} {V N : Nat → Bool} {n : Nat} (hn : n < 2 ^ 31) : rkF vl V N (nI n) = rkN vl V N n := by
  unfold rkF
  rw [if_neg (nI_pos hn), nI_clamp hn]
theorem rk_a {vl : Nat → Nat} {V N : Nat → Bool} {x : Int32} (h : x < 0) : -1 = rkF vl V N x := by unfold rkF; rw [if_pos h]
theorem rk_c {vl : Nat → Nat} {V N : Nat → Bool} {n : Nat} (hn : n < 2 ^ 31) (h : all6 vl n 6 = false) : -1 = rkF vl V N (nI n) := by
  rw [rkF_n hn]
  unfold rkN
  rw [if_neg (fun z => by rw [h] at z; exact Bool.noConfusion z.2)]
theorem dg_top {n P : Nat} (h : 4 ^ P ≤ n) (h2 : n < 4096) (hP : P ≤ 6) : ∃ p, P ≤ p ∧ p < 6 ∧ ¬ dg n p = 0 := by
  apply Classical.byContradiction
  intro hno
  have hz : ∀ p, P ≤ p → p < 6 → dg n p = 0 := fun p h1 h2 => Classical.byContradiction (fun h3 => hno ⟨p, h1, h2, h3⟩)
  have e : n = n % 4 ^ P := by
    refine dg_ext (k := 6) h2 (Nat.lt_of_le_of_lt (Nat.mod_le _ _) h2) (fun p hp => ?_)
    by_cases hpP : p < P
    · unfold dg
      obtain ⟨c, rfl⟩ : ∃ c, P = p + (c + 1) := ⟨P - p - 1, by omega⟩
      rw [Nat.pow_add, Nat.mod_mul_right_div_self, Nat.pow_succ', Nat.mod_mul_right_mod]
    · rw [hz p (by omega) hp]
      exact (dg_big (Nat.lt_of_lt_of_le (Nat.mod_lt _ (p4 P)) (p4le (by omega)))).symm
  have := Nat.mod_lt n (p4 P)
  omega
theorem rk_b {vl : Nat → Nat} {V N : Nat → Bool} {n P : Nat} (hP : P ≤ 6) (hv1 : ∀ p, P ≤ p → p < 6 → vl p = 1) (hn : n < 2 ^ 31) (h : 4 ^ P ≤ n) : -1 = rkF vl V N (nI n) := by
  rw [rkF_n hn]
  unfold rkN
  rw [if_neg]
  rintro ⟨h4, ha⟩
  obtain ⟨p, h1, h2, h3⟩ := dg_top h h4 hP
  have := all6_iff.mp ha p h2
  rw [hv1 p h1 h2] at this
  omega
theorem rk_2 {vl : Nat → Nat} {V N : Nat → Bool} {n : Nat} (hn : n < 4096) (ha : all6 vl n 6 = true) (hV : V n = true) : nI 2 = rkF vl V N (nI n) := by
  rw [rkF_n (by omega)]
  unfold rkN
  rw [if_pos ⟨hn, ha⟩, if_pos hV]
theorem rk_1 {vl : Nat → Nat} {V N : Nat → Bool} {n : Nat} (hn : n < 4096) (ha : all6 vl n 6 = true) (hV : V n = false) (hN : N n = true) : nI 1 = rkF vl V N (nI n) := by
  rw [rkF_n (by omega)]
  unfold rkN
  rw [if_pos ⟨hn, ha⟩, if_neg (by rw [hV]; decide), if_pos hN]
theorem rk_0 {vl : Nat → Nat} {V N : Nat → Bool} {n : Nat} (hn : n < 4096) (ha : all6 vl n 6 = true) (hV : V n = false) (hN : N n = false) : nI 0 = rkF vl V N (nI n) := by
  rw [rkF_n (by omega)]
  unfold rkN
  rw [if_pos ⟨hn, ha⟩, if_neg (by rw [hV]; decide), if_neg (by rw [hN]; decide)]
/-- the parameters of n with an invalid value in b -/
def ivs (iv : Nat → Nat) (n b : Nat) : Nat → Nat
  | 0 => 0
  | i + 1 => ivs iv n b i + cond (n.testBit i && (iv i).testBit (dg b i)) (2 ^ i) 0
theorem ivs_lt (iv : Nat → Nat) (n b : Nat) : ∀ i, ivs iv n b i < 2 ^ i
  | 0 => by show 0 < 1; decide
  | i + 1 => by
    have h := ivs_lt iv n b i
    show ivs iv n b i + cond (n.testBit i && (iv i).testBit (dg b i)) (2 ^ i) 0 < 2 ^ (i + 1)
    rw [Nat.pow_succ]
    cases (n.testBit i && (iv i).testBit (dg b i)) <;> simp only [cond_true, cond_false] <;> omega
theorem ivs_64 (iv : Nat → Nat) (n b i : Nat) (h : i ≤ 6) : ivs iv n b i < 64 := Nat.lt_of_lt_of_le (ivs_lt iv n b i) (pw2le h)
theorem ivs_a {iv : Nat → Nat} {n b i : Nat} (hi : i < 6) (h : dg (fo n 6) i = 0) : ivs iv n b (i + 1) = ivs iv n b i := by
  show ivs iv n b i + cond (n.testBit i && (iv i).testBit (dg b i)) (2 ^ i) 0 = _
  rw [(dg_fo0 hi).mp h]
  rfl
theorem ivs_b {iv : Nat → Nat} {n b i : Nat} (h : (iv i).testBit (dg b i) = false) : ivs iv n b (i + 1) = ivs iv n b i := by
  show ivs iv n b i + cond (n.testBit i && (iv i).testBit (dg b i)) (2 ^ i) 0 = _
  rw [h, Bool.and_false]
  rfl
theorem ivs_c {iv : Nat → Nat} {n b i : Nat} (hi : i < 6) (h1 : ¬ dg (fo n 6) i = 0) (h : (iv i).testBit (dg b i) = true) : ivs iv n b (i + 1) = ivs iv n b i ||| 1 * 2 ^ i := by
  rw [dg_fo0 hi] at h1
  have h2 := Nat.shiftLeft_add_eq_or_of_lt (ivs_lt iv n b i) 1
  rw [Nat.shiftLeft_eq] at h2
  rw [Nat.or_comm, ← h2]
  show ivs iv n b i + cond (n.testBit i && (iv i).testBit (dg b i)) (2 ^ i) 0 = _
  rw [h, ts_nf h1, Nat.one_mul]
  show ivs iv n b i + 2 ^ i = 2 ^ i + ivs iv n b i
  exact Nat.add_comm _ _
/-! sets asked for -/
def sub6 (n s : Nat) : Nat → Bool
  | 0 => true
  | i + 1 => sub6 n s i && (!(n.testBit i) || s.testBit i)
theorem sw_all : ∀ i, i < 6 → ∀ s, s < 64 → bL (sw i) s = s.testBit i := by decide +kernel
theorem awF {a ak : Int64} {n i : Nat} (ha : ∀ s, s < 64 → bL a s = (bL ak s && sub6 n s i)) (h : n.testBit i = false) : ∀ s, s < 64 → bL a s = (bL ak s && sub6 n s (i + 1)) := fun s hs => by
  rw [ha s hs]
  show _ = (bL ak s && (sub6 n s i && (!(n.testBit i) || s.testBit i)))
  rw [h, Bool.not_false, Bool.true_or, Bool.and_true]
theorem awT {a ak : Int64} {n i : Nat} (ha : ∀ s, s < 64 → bL a s = (bL ak s && sub6 n s i)) (hi : i < 6) (h : n.testBit i = true) : ∀ s, s < 64 → bL (a &&& sw i) s = (bL ak s && sub6 n s (i + 1)) := fun s hs => by
  rw [bL_and, ha s hs, sw_all i hi s hs]
  show _ = (bL ak s && (sub6 n s i && (!(n.testBit i) || s.testBit i)))
  rw [h, Bool.not_true, Bool.false_or, Bool.and_assoc]
theorem sb13_all : ∀ i, i < 64 → ∀ n, n < 64 → (nI i &&& (nI n ^^^ (-1)) = 0 ↔ i &&& n = i) := by decide +kernel
theorem sb13 {i n : Nat} (hi : i < 64) (hn : n < 64) : nI i &&& (nI n ^^^ (-1)) = 0 ↔ i &&& n = i := sb13_all i hi n hn
theorem sh1_all : ∀ i, i < 64 → ∀ s, s < 64 → bL ((1 : Int64) <<< ((nI i).toInt64 &&& 63)) s = (s == i) := by decide +kernel
theorem cn31 (n : Nat) : cn n 6 < 2 ^ 31 := Nat.lt_of_le_of_lt (cn_le n 6) (by decide)
def adB (n k s : Nat) : Bool := decide (0 < s) && (decide (s &&& n = s) && (cn s 6 == k))
theorem addS {ak : Int64} {n k : Nat} (s : Nat) : bL ak s = (bL ak s || (decide (s < 1) && adB n k s)) := by
  unfold adB
  cases s with
  | zero => simp
  | succ s => rw [decide_eq_false (by omega : ¬ s + 1 < 1), Bool.false_and, Bool.or_false]
theorem addF {d ak : Int64} {n k i : Nat} (hd : ∀ s, s < 64 → bL d s = (bL ak s || (decide (s < i) && adB n k s))) (h : adB n k i = false) : ∀ s, s < 64 → bL d s = (bL ak s || (decide (s < i + 1) && adB n k s)) := fun s hs => by
  rw [hd s hs, lt_sB]
  by_cases e : s = i
  · rw [e, h, Bool.and_false, Bool.and_false]
  · rw [beq_false_of_ne e, Bool.or_false]
theorem addF1 {d ak : Int64} {n k i : Nat} (hd : ∀ s, s < 64 → bL d s = (bL ak s || (decide (s < i) && adB n k s))) (h : ¬ i &&& n = i) : ∀ s, s < 64 → bL d s = (bL ak s || (decide (s < i + 1) && adB n k s)) :=
  addF hd (by unfold adB; rw [decide_eq_false h, Bool.false_and, Bool.and_false])
theorem addF2 {d ak : Int64} {n k i : Nat} (hd : ∀ s, s < 64 → bL d s = (bL ak s || (decide (s < i) && adB n k s))) (h : ¬ cn i 6 = k) : ∀ s, s < 64 → bL d s = (bL ak s || (decide (s < i + 1) && adB n k s)) :=
  addF hd (by unfold adB; rw [beq_false_of_ne h, Bool.and_false, Bool.and_false])
theorem addT {d ak : Int64} {n k i : Nat} (hd : ∀ s, s < 64 → bL d s = (bL ak s || (decide (s < i) && adB n k s))) (h0 : 0 < i) (hi : i < 64) (h1 : i &&& n = i) (h2 : cn i 6 = k) : ∀ s, s < 64 → bL (d ||| ((1 : Int64) <<< ((nI i).toInt64 &&& 63))) s = (bL ak s || (decide (s < i + 1) && adB n k s)) := fun s hs => by
  have ha : adB n k i = true := by unfold adB; rw [decide_eq_true h0, decide_eq_true h1, h2, beq_self_eq_true]; rfl
  rw [bL_or, hd s hs, sh1_all i hi s hs, lt_sB]
  by_cases e : s = i
  · rw [e, ha, beq_self_eq_true, Bool.or_true, Bool.or_true]; simp
  · rw [beq_false_of_ne e, Bool.or_false, Bool.or_false]
theorem addDone {d ak : Int64} {n k i : Nat} (hd : ∀ s, s < 64 → bL d s = (bL ak s || (decide (s < i) && adB n k s))) (hi : 64 ≤ i) : ∀ s, s < 64 → bL d s = (bL ak s || adB n k s) := fun s hs => by
  rw [hd s hs, decide_eq_true (by omega), Bool.true_and]
end
section
/-! how many -/
def cB (f : Nat → Bool) : Nat → Nat
  | 0 => 0
  | k + 1 => cB f k + cond (f k) 1 0
theorem cB_le (f : Nat → Bool) : ∀ k, cB f k ≤ k
  | 0 => Nat.le_refl _
  | k + 1 => by
    have h := cB_le f k
    show cB f k + cond (f k) 1 0 ≤ k + 1
    cases f k <;> simp only [cond_true, cond_false] <;> omega
theorem cB_t {f : Nat → Bool} {k : Nat} (h : f k = true) : cB f (k + 1) = cB f k + 1 := by show cB f k + cond (f k) 1 0 = _; rw [h]; rfl
theorem cB_f {f : Nat → Bool} {k : Nat} (h : f k = false) : cB f (k + 1) = cB f k := by show cB f k + cond (f k) 1 0 = _; rw [h]; rfl
theorem cB_congr {f g : Nat → Bool} : ∀ {k : Nat}, (∀ i, i < k → f i = g i) → cB f k = cB g k
  | 0, _ => rfl
  | k + 1, h => by
    show cB f k + cond (f k) 1 0 = cB g k + cond (g k) 1 0
    rw [cB_congr (k := k) (fun i hi => h i (by omega)), h k (by omega)]
theorem cB_zero {f : Nat → Bool} : ∀ {k : Nat}, cB f k = 0 ↔ ∀ i, i < k → f i = false
  | 0 => ⟨fun _ i hi => absurd hi (Nat.not_lt_zero _), fun _ => rfl⟩
  | k + 1 => by
    show cB f k + cond (f k) 1 0 = 0 ↔ _
    constructor
    · intro h i hi
      by_cases e : i = k
      · subst e; cases hf : f i
        · rfl
        · rw [hf] at h; exact absurd h (by show ¬ cB f i + 1 = 0; omega)
      · exact (cB_zero (f := f) (k := k)).mp (by omega) i (by omega)
    · intro h
      rw [cB_zero.mpr (fun i hi => h i (by omega)), h k (by omega)]
      rfl
theorem cB_add (f : Nat → Bool) (a : Nat) : ∀ b, cB f (a + b) = cB f a + cB (fun t => f (a + t)) b
  | 0 => rfl
  | b + 1 => by
    show cB f (a + b) + cond (f (a + b)) 1 0 = cB f a + (cB (fun t => f (a + t)) b + cond (f (a + b)) 1 0)
    rw [cB_add f a b, Nat.add_assoc]
/-- one place changed from true to false -/
theorem cB_drop {f g : Nat → Bool} {n : Nat} : ∀ {k : Nat}, n < k → f n = true → g n = false → (∀ i, i < k → i ≠ n → g i = f i) → cB g k + 1 = cB f k
  | 0, h, _, _, _ => absurd h (Nat.not_lt_zero _)
  | k + 1, h, hf, hg, ho => by
    by_cases e : n = k
    · subst e
      rw [cB_t hf, cB_f hg, cB_congr (fun i hi => ho i (by omega) (by omega))]
    · have h1 := cB_drop (k := k) (by omega) hf hg (fun i hi hn => ho i (by omega) hn)
      show cB g k + cond (g k) 1 0 + 1 = cB f k + cond (f k) 1 0
      rw [ho k (by omega) (by omega)]
      omega
/-! Long.bitCount counts the bits: bytes -/
theorem and256 {a m : Nat} (A M : Nat) (ha : a < 256) (hm : m < 256) : (a + 256 * A) &&& (m + 256 * M) = (a &&& m) + 256 * (A &&& M) := by
  have h1 : ((a + 256 * A) &&& (m + 256 * M)) / 256 = A &&& M := by
    rw [Nat.and_div_two_pow (n := 8)]
    congr 1
    · omega
    · omega
  have h2 : ((a + 256 * A) &&& (m + 256 * M)) % 256 = a &&& m := by
    rw [Nat.and_mod_two_pow (n := 8)]
    congr 1
    · omega
    · omega
  omega
def m8 (m : Nat) : Nat → Nat
  | 0 => 0
  | k + 1 => m + 256 * m8 m k
/-- the three steps in a byte -/
def bf1 (b : Nat) : Nat := b - (b / 2 &&& 85)
def bf2 (b : Nat) : Nat := (b &&& 51) + (b / 4 &&& 51)
def bf3 (b : Nat) : Nat := (b + b / 16) &&& 15
theorem f1_all : ∀ b, b < 256 → ∀ u, u < 2 → (b / 2 + 128 * u) &&& 85 = b / 2 &&& 85 := by decide +kernel
theorem f1_le : ∀ b, b < 256 → b / 2 &&& 85 ≤ b := by decide +kernel
theorem f2_all : ∀ b, b < 256 → ∀ u, u < 4 → (b / 4 + 64 * u) &&& 51 = b / 4 &&& 51 := by decide +kernel
theorem f2_lt : ∀ b, b < 256 → (bf2 (bf1 b)) % 16 ≤ 4 ∧ bf2 (bf1 b) / 16 ≤ 4 := by decide +kernel
theorem f3_all : ∀ b, b < 69 → ∀ u, u < 5 → (b + (b / 16 + 16 * u)) &&& 15 = bf3 b := by decide +kernel
theorem f321 : ∀ b, b < 256 → bf3 (bf2 (bf1 b)) = cB (fun t => b.testBit t) 8 := by decide +kernel
theorem f1_lt {b : Nat} (h : b < 256) : bf1 b < 256 := by unfold bf1; omega
def mp (f : Nat → Nat) (X : Nat) : Nat → Nat
  | 0 => 0
  | k + 1 => f (X % 256) + 256 * mp f (X / 256) k
theorem s1_mp : ∀ (k X : Nat), X < 256 ^ k → X - (X / 2 &&& m8 85 k) = mp bf1 X k
  | 0, X, h => by rw [Nat.pow_zero] at h; obtain rfl : X = 0 := by omega
                  rfl
  | k + 1, X, h => by
    have hY : X / 256 < 256 ^ k := by rw [Nat.pow_succ] at h; omega
    have ih := s1_mp k (X / 256) hY
    show X - (X / 2 &&& (85 + 256 * m8 85 k)) = bf1 (X % 256) + 256 * mp bf1 (X / 256) k
    rw [← ih, show X / 2 = (X % 256 / 2 + 128 * (X / 256 % 2)) + 256 * (X / 256 / 2) by omega, and256 _ _ (by omega) (by decide), f1_all _ (by omega) _ (by omega)]
    unfold bf1
    have h1 := f1_le (X % 256) (by omega)
    have h2 : X / 256 / 2 &&& m8 85 k ≤ X / 256 / 2 := Nat.and_le_left
    generalize X % 256 / 2 &&& 85 = c at h1 ⊢
    generalize X / 256 / 2 &&& m8 85 k = D at h2 ⊢
    omega
theorem s2_step {b : Nat} (Y k : Nat) (hb : b < 256) : ((b + 256 * Y) &&& m8 51 (k + 1)) + ((b + 256 * Y) / 4 &&& m8 51 (k + 1)) = bf2 b + 256 * ((Y &&& m8 51 k) + (Y / 4 &&& m8 51 k)) := by
  show ((b + 256 * Y) &&& (51 + 256 * m8 51 k)) + ((b + 256 * Y) / 4 &&& (51 + 256 * m8 51 k)) = _
  rw [show (b + 256 * Y) / 4 = (b / 4 + 64 * (Y % 4)) + 256 * (Y / 4) by omega, and256 _ _ hb (by decide), and256 _ _ (by omega) (by decide), f2_all b hb _ (by omega)]
  unfold bf2
  omega
theorem s2_mp : ∀ (k X : Nat), (mp bf1 X k &&& m8 51 k) + (mp bf1 X k / 4 &&& m8 51 k) = mp (fun b => bf2 (bf1 b)) X k
  | 0, X => by show (0 &&& 0) + (0 / 4 &&& 0) = 0; decide
  | k + 1, X => by
    show ((bf1 (X % 256) + 256 * mp bf1 (X / 256) k) &&& m8 51 (k + 1)) + ((bf1 (X % 256) + 256 * mp bf1 (X / 256) k) / 4 &&& m8 51 (k + 1)) = bf2 (bf1 (X % 256)) + 256 * mp (fun b => bf2 (bf1 b)) (X / 256) k
    rw [s2_step _ _ (f1_lt (by omega)), s2_mp k (X / 256)]
theorem mp16 (X : Nat) : ∀ k, mp (fun b => bf2 (bf1 b)) X k % 16 ≤ 4
  | 0 => by show 0 % 16 ≤ 4; decide
  | k + 1 => by
    show (bf2 (bf1 (X % 256)) + 256 * mp (fun b => bf2 (bf1 b)) (X / 256) k) % 16 ≤ 4
    have := f2_lt (X % 256) (by omega)
    omega
theorem s3_mp : ∀ (k X : Nat), (mp (fun b => bf2 (bf1 b)) X k + mp (fun b => bf2 (bf1 b)) X k / 16) &&& m8 15 k = mp (fun b => bf3 (bf2 (bf1 b))) X k
  | 0, X => by show (0 + 0 / 16) &&& 0 = 0; decide
  | k + 1, X => by
    have ih := s3_mp k (X / 256)
    have h16 := mp16 (X / 256) k
    have h2 := f2_lt (X % 256) (by omega)
    show ((bf2 (bf1 (X % 256)) + 256 * mp (fun b => bf2 (bf1 b)) (X / 256) k) + (bf2 (bf1 (X % 256)) + 256 * mp (fun b => bf2 (bf1 b)) (X / 256) k) / 16) &&& (15 + 256 * m8 15 k) = bf3 (bf2 (bf1 (X % 256))) + 256 * mp (fun b => bf3 (bf2 (bf1 b))) (X / 256) k
    rw [← ih]
    generalize mp (fun b => bf2 (bf1 b)) (X / 256) k = W at h16 ⊢
    generalize bf2 (bf1 (X % 256)) = c at h2 ⊢
    rw [show (c + 256 * W) + (c + 256 * W) / 16 = (c + (c / 16 + 16 * (W % 16))) + 256 * (W + W / 16) by omega, and256 _ _ (by omega) (by decide), f3_all c (by omega) _ (by omega)]
theorem by_bits : ∀ (k X : Nat), cB (fun t => X.testBit t) (8 * k) = (List.range k).foldl (fun a i => a + bf3 (bf2 (bf1 (X / 256 ^ i % 256)))) 0
  | 0, X => rfl
  | k + 1, X => by
    rw [List.range_succ, List.foldl_append, ← by_bits k X, show 8 * (k + 1) = 8 * k + 8 by omega, cB_add]
    show _ = cB (fun t => X.testBit t) (8 * k) + bf3 (bf2 (bf1 (X / 256 ^ k % 256)))
    rw [f321 _ (Nat.mod_lt _ (by decide))]
    congr 1
    apply cB_congr
    intro i hi
    rw [show (256 : Nat) = 2 ^ 8 from rfl, Nat.testBit_mod_two_pow, decide_eq_true hi, Bool.true_and, ← Nat.pow_mul, Nat.testBit_div_two_pow, Nat.add_comm i]
theorem mp_fold (f : Nat → Nat) (X : Nat) : mp f X 8 = f (X % 256) + 256 * (f (X / 256 % 256) + 256 * (f (X / 256 / 256 % 256) + 256 * (f (X / 256 / 256 / 256 % 256) + 256 * (f (X / 256 / 256 / 256 / 256 % 256) + 256 * (f (X / 256 / 256 / 256 / 256 / 256 % 256) + 256 * (f (X / 256 / 256 / 256 / 256 / 256 / 256 % 256) + 256 * (f (X / 256 / 256 / 256 / 256 / 256 / 256 / 256 % 256)))))))) := rfl
theorem f3_le (b : Nat) (h : b < 256) : bf3 (bf2 (bf1 b)) ≤ 8 := by rw [f321 b h]; exact cB_le _ 8
theorem dv1 {A p Z : Nat} (h : A = p + 256 * Z) (hp : p < 256) : A / 256 = Z := by omega
theorem dv2 {A p q Z : Nat} (h : A = p + 256 * (q + 256 * Z)) (hp : p < 256) (hq : q < 256) : A / 65536 = Z := by omega
theorem dv4 {A p q r t Z : Nat} (h : A = p + 256 * (q + 256 * (r + 256 * (t + 256 * Z)))) (hp : p < 256) (hq : q < 256) (hr : r < 256) (ht : t < 256) : A / 4294967296 = Z := by omega
theorem md1 {A p Z : Nat} (h : A = p + 256 * Z) (hp : p ≤ 64) : A % 128 = p := by omega
theorem bd8 {A a0 a1 a2 a3 a4 a5 a6 a7 : Nat} (h : A = a0 + 256 * (a1 + 256 * (a2 + 256 * (a3 + 256 * (a4 + 256 * (a5 + 256 * (a6 + 256 * a7))))))) (h0 : a0 ≤ 68) (h1 : a1 ≤ 68) (h2 : a2 ≤ 68) (h3 : a3 ≤ 68) (h4 : a4 ≤ 68) (h5 : a5 ≤ 68) (h6 : a6 ≤ 68) (h7 : a7 ≤ 68) : A < 2 ^ 63 := by omega
theorem fold_sum {p0 p1 p2 p3 p4 p5 p6 p7 A : Nat} (h0 : p0 ≤ 8) (h1 : p1 ≤ 8) (h2 : p2 ≤ 8) (h3 : p3 ≤ 8) (h4 : p4 ≤ 8) (h5 : p5 ≤ 8) (h6 : p6 ≤ 8) (h7 : p7 ≤ 8) (hA : A = p0 + 256 * (p1 + 256 * (p2 + 256 * (p3 + 256 * (p4 + 256 * (p5 + 256 * (p6 + 256 * p7))))))) :
    ∃ B C D, B = A + A / 256 ∧ B < 2 ^ 64 ∧ C = B + B / 65536 ∧ C < 2 ^ 64 ∧ D = C + C / 4294967296 ∧ D < 2 ^ 64 ∧ D % 128 = p0 + p1 + p2 + p3 + p4 + p5 + p6 + p7 := by
  have e1 := dv1 hA (by omega)
  obtain ⟨B, hB⟩ : ∃ B, B = A + A / 256 := ⟨_, rfl⟩
  have e2 : B = (p0 + p1) + 256 * ((p1 + p2) + 256 * ((p2 + p3) + 256 * ((p3 + p4) + 256 * ((p4 + p5) + 256 * ((p5 + p6) + 256 * ((p6 + p7) + 256 * p7)))))) := by rw [hB, e1, hA]; clear hA hB e1; omega
  have b2 : B < 2 ^ 63 := by clear hA hB e1; exact bd8 e2 (by omega) (by omega) (by omega) (by omega) (by omega) (by omega) (by omega) (by omega)
  have e3 := dv2 e2 (by clear hA hB e1 e2 b2; omega) (by clear hA hB e1 e2 b2; omega)
  obtain ⟨C, hC⟩ : ∃ C, C = B + B / 65536 := ⟨_, rfl⟩
  have e4 : C = (p0 + p1 + p2 + p3) + 256 * ((p1 + p2 + p3 + p4) + 256 * ((p2 + p3 + p4 + p5) + 256 * ((p3 + p4 + p5 + p6) + 256 * ((p4 + p5 + p6 + p7) + 256 * ((p5 + p6 + p7) + 256 * ((p6 + p7) + 256 * p7)))))) := by rw [hC, e3, e2]; clear hA hB e1 hC e2 e3 b2; omega
  have b4 : C < 2 ^ 63 := by clear hA hB e1 hC e2 e3 b2; exact bd8 e4 (by omega) (by omega) (by omega) (by omega) (by omega) (by omega) (by omega) (by omega)
  have e5 := dv4 e4 (by clear hA hB e1 hC e2 e3 b2 e4 b4; omega) (by clear hA hB e1 hC e2 e3 b2 e4 b4; omega) (by clear hA hB e1 hC e2 e3 b2 e4 b4; omega) (by clear hA hB e1 hC e2 e3 b2 e4 b4; omega)
  obtain ⟨D, hD⟩ : ∃ D, D = C + C / 4294967296 := ⟨_, rfl⟩
  have e6 : D = (p0 + p1 + p2 + p3 + p4 + p5 + p6 + p7) + 256 * ((p1 + p2 + p3 + p4 + p5 + p6 + p7) + 256 * ((p2 + p3 + p4 + p5 + p6 + p7) + 256 * ((p3 + p4 + p5 + p6 + p7) + 256 * ((p4 + p5 + p6 + p7) + 256 * ((p5 + p6 + p7) + 256 * ((p6 + p7) + 256 * p7)))))) := by rw [hD, e5, e4]; clear hA hB e1 hC e2 e3 b2 e4 b4 hD e5; omega
  have b6 : D < 2 ^ 63 := by clear hA hB e1 hC e2 e3 b2 e4 b4 hD e5; exact bd8 e6 (by omega) (by omega) (by omega) (by omega) (by omega) (by omega) (by omega) (by omega)
  exact ⟨B, C, D, hB, by clear hA hB e1 hC e2 e3 e4 b4 hD e5 e6 b6; omega, hC, by clear hA hB e1 hC e2 e3 b2 e4 hD e5 e6 b6; omega, hD, by clear hA hB e1 hC e2 e3 b2 e4 b4 hD e5 e6; omega, md1 e6 (by clear hA hB e1 hC e2 e3 b2 e4 b4 hD e5 e6 b6; omega)⟩
/-! Int64 as an unsigned number (pasted of kit/laws/BITS.to-paste, but for uN_sub, uN_and, uN_l) -/
def uN (x : Int64) : Nat := x.toUInt64.toNat
theorem uN_lt (x : Int64) : uN x < 18446744073709551616 := x.toUInt64.toNat_lt
theorem uN_inj {x y : Int64} (h : uN x = uN y) : x = y := congrArg UInt64.toInt64 (UInt64.toNat_inj.mp h)
theorem uN_add (x y : Int64) : uN (x + y) = (uN x + uN y) % 18446744073709551616 := by
  show (x.toUInt64 + y.toUInt64).toNat = _
  exact UInt64.toNat_add _ _
theorem uN_sub {x y : Int64} (h : uN y ≤ uN x) : uN (x - y) = uN x - uN y := by
  show (x.toUInt64 - y.toUInt64).toNat = _
  exact UInt64.toNat_sub_of_le _ _ (UInt64.le_iff_toNat_le.mpr h)
theorem uN_and (x y : Int64) : uN (x &&& y) = uN x &&& uN y := by
  show (x.toUInt64 &&& y.toUInt64).toNat = _
  exact UInt64.toNat_and _ _
theorem uN_shr (x : Int64) (s : UInt64) : uN (x.toUInt64 >>> s).toInt64 = uN x / 2 ^ (s.toNat % 64) := by
  show (x.toUInt64 >>> s).toNat = _
  rw [UInt64.toNat_shiftRight, Nat.shiftRight_eq_div_pow]
  rfl
theorem uN_sk (x : Int64) {k : Nat} (hk : k < 64) : uN (x.toUInt64 >>> ((nI k).toInt64.toUInt64 &&& Int64.toUInt64 63)).toInt64 = uN x / 2 ^ k := by
  have h : ((nI k).toInt64.toUInt64 &&& Int64.toUInt64 63).toNat % 64 = k := by
    rw [wb_cu k hk, u_tn (by omega)]
    omega
  rw [uN_shr, h]
theorem uN_l (x : Int64) : x = lN (uN x) := by
  apply Int64.toBitVec_inj.mp
  show x.toBitVec = BitVec.ofNat 64 x.toBitVec.toNat
  simp
theorem uN_bit (x : Int64) (t : Nat) : bL x t = (uN x).testBit t := rfl
theorem bcL_eq (x : Int64) : bcL x = nI (cB (bL x) 64) := by
  have hX := uN_lt x
  have c1 : uN 6148914691236517205 = m8 85 8 := by decide +kernel
  have c2 : uN 3689348814741910323 = m8 51 8 := by decide +kernel
  have c3 : uN 1085102592571150095 = m8 15 8 := by decide +kernel
  have hs1 := s1_mp 8 (uN x) hX
  have hs2 := s2_mp 8 (uN x)
  have hs3 := s3_mp 8 (uN x)
  have q1 : ∀ b, b < 256 → bf3 (bf2 (bf1 b)) ≤ 8 := f3_le
  obtain ⟨a1, e1⟩ : ∃ a, a = x - ((x.toUInt64 >>> ((nI 1).toInt64.toUInt64 &&& Int64.toUInt64 63)).toInt64 &&& 6148914691236517205) := ⟨_, rfl⟩
  have u1 : uN a1 = mp bf1 (uN x) 8 := by
    have h : uN ((x.toUInt64 >>> ((nI 1).toInt64.toUInt64 &&& Int64.toUInt64 63)).toInt64 &&& 6148914691236517205) = uN x / 2 &&& m8 85 8 := by rw [uN_and, uN_sk x (by decide), c1]
    rw [e1, uN_sub (by rw [h]; exact Nat.le_trans Nat.and_le_left (Nat.div_le_self _ _)), h, hs1]
  obtain ⟨a2, e2⟩ : ∃ a, a = (a1 &&& 3689348814741910323) + ((a1.toUInt64 >>> ((nI 2).toInt64.toUInt64 &&& Int64.toUInt64 63)).toInt64 &&& 3689348814741910323) := ⟨_, rfl⟩
  have q2 : ∀ b, b < 256 → bf2 (bf1 b) ≤ 68 := fun b hb => by have := f2_lt b hb; omega
  have z2 : mp (fun b => bf2 (bf1 b)) (uN x) 8 < 2 ^ 63 := bd8 (mp_fold (fun b => bf2 (bf1 b)) (uN x)) (q2 _ (Nat.mod_lt _ (by decide))) (q2 _ (Nat.mod_lt _ (by decide))) (q2 _ (Nat.mod_lt _ (by decide))) (q2 _ (Nat.mod_lt _ (by decide))) (q2 _ (Nat.mod_lt _ (by decide))) (q2 _ (Nat.mod_lt _ (by decide))) (q2 _ (Nat.mod_lt _ (by decide))) (q2 _ (Nat.mod_lt _ (by decide)))
  have u2 : uN a2 = mp (fun b => bf2 (bf1 b)) (uN x) 8 := by
    rw [e2, uN_add, uN_and, uN_and, uN_sk a1 (by decide), c2, u1]
    show ((mp bf1 (uN x) 8 &&& m8 51 8) + (mp bf1 (uN x) 8 / 4 &&& m8 51 8)) % 18446744073709551616 = _
    rw [hs2, Nat.mod_eq_of_lt (by omega)]
  obtain ⟨a3, e3⟩ : ∃ a, a = (a2 + (a2.toUInt64 >>> ((nI 4).toInt64.toUInt64 &&& Int64.toUInt64 63)).toInt64) &&& 1085102592571150095 := ⟨_, rfl⟩
  have u3 : uN a3 = mp (fun b => bf3 (bf2 (bf1 b))) (uN x) 8 := by
    rw [e3, uN_and, uN_add, uN_sk a2 (by decide), c3, u2]
    show ((mp (fun b => bf2 (bf1 b)) (uN x) 8 + mp (fun b => bf2 (bf1 b)) (uN x) 8 / 16) % 18446744073709551616) &&& m8 15 8 = _
    rw [Nat.mod_eq_of_lt (by omega), hs3]
  obtain ⟨B, C, D, hB, hB4, hC, hC4, hD, hD4, hsum⟩ := fold_sum (q1 (uN x % 256) (Nat.mod_lt _ (by decide))) (q1 (uN x / 256 % 256) (Nat.mod_lt _ (by decide))) (q1 (uN x / 256 / 256 % 256) (Nat.mod_lt _ (by decide))) (q1 (uN x / 256 / 256 / 256 % 256) (Nat.mod_lt _ (by decide))) (q1 (uN x / 256 / 256 / 256 / 256 % 256) (Nat.mod_lt _ (by decide))) (q1 (uN x / 256 / 256 / 256 / 256 / 256 % 256) (Nat.mod_lt _ (by decide))) (q1 (uN x / 256 / 256 / 256 / 256 / 256 / 256 % 256) (Nat.mod_lt _ (by decide))) (q1 (uN x / 256 / 256 / 256 / 256 / 256 / 256 / 256 % 256) (Nat.mod_lt _ (by decide))) (u3.trans (mp_fold (fun b => bf3 (bf2 (bf1 b))) (uN x)))
  obtain ⟨a4, e4⟩ : ∃ a, a = a3 + (a3.toUInt64 >>> ((nI 8).toInt64.toUInt64 &&& Int64.toUInt64 63)).toInt64 := ⟨_, rfl⟩
  have u4 : uN a4 = B := by
    rw [e4, uN_add, uN_sk a3 (by decide)]
    show (uN a3 + uN a3 / 256) % 18446744073709551616 = B
    rw [← hB, Nat.mod_eq_of_lt hB4]
  obtain ⟨a5, e5⟩ : ∃ a, a = a4 + (a4.toUInt64 >>> ((nI 16).toInt64.toUInt64 &&& Int64.toUInt64 63)).toInt64 := ⟨_, rfl⟩
  have u5 : uN a5 = C := by
    rw [e5, uN_add, uN_sk a4 (by decide), u4]
    show (B + B / 65536) % 18446744073709551616 = C
    rw [← hC, Nat.mod_eq_of_lt hC4]
  obtain ⟨a6, e6⟩ : ∃ a, a = a5 + (a5.toUInt64 >>> ((nI 32).toInt64.toUInt64 &&& Int64.toUInt64 63)).toInt64 := ⟨_, rfl⟩
  have u6 : uN a6 = D := by
    rw [e6, uN_add, uN_sk a5 (by decide), u5]
    show (C + C / 4294967296) % 18446744073709551616 = D
    rw [← hD, Nat.mod_eq_of_lt hD4]
  have hb : bcL x = a6.toInt32 &&& nI 127 := by subst e6 e5 e4 e3 e2 e1; rfl
  have hm : D &&& 127 = D % 128 := Nat.and_two_pow_sub_one_eq_mod _ 7
  rw [hb, uN_l a6, u6, lN_i, nx_and, hm, hsum]
  congr 1
  have h8 := by_bits 8 (uN x)
  show _ = cB (fun t => (uN x).testBit t) (8 * 8)
  rw [h8]
  show _ = 0 + bf3 (bf2 (bf1 (uN x / 256 ^ 0 % 256))) + bf3 (bf2 (bf1 (uN x / 256 ^ 1 % 256))) + bf3 (bf2 (bf1 (uN x / 256 ^ 2 % 256))) + bf3 (bf2 (bf1 (uN x / 256 ^ 3 % 256))) + bf3 (bf2 (bf1 (uN x / 256 ^ 4 % 256))) + bf3 (bf2 (bf1 (uN x / 256 ^ 5 % 256))) + bf3 (bf2 (bf1 (uN x / 256 ^ 6 % 256))) + bf3 (bf2 (bf1 (uN x / 256 ^ 7 % 256)))
  simp only [Nat.div_div_eq_div_mul, Nat.pow_zero, Nat.div_one, Nat.zero_add, Nat.reduceMul, Nat.reducePow]
end
section
/-! kinds of rows -/
def wrg (iv : Nat → Nat) (r k : Nat) : Nat := cB (fun p => (iv p).testBit (dg r p)) k
theorem sb_1 (w : Nat) : (w + 1 == 1) = (w == 0) := by
  rw [Bool.eq_iff_iff, beq_iff_eq, beq_iff_eq]
  omega
theorem sb_0 (w : Nat) : (w + 1 == 0) = false := beq_false_of_ne (Nat.succ_ne_zero _)
theorem vK_eq (vl iv : Nat → Nat) (M : Nat → Bool) (r : Nat) : ∀ k, vK vl iv M r k = (M r && (all6 vl r k && (wrg iv r k == 0)))
  | 0 => by show M r = (M r && (true && true)); rw [Bool.and_true, Bool.and_true]
  | k + 1 => by
    show (vK vl iv M r k && (decide (dg r k < vl k) && !((iv k).testBit (dg r k)))) = (M r && ((all6 vl r k && decide (dg r k < vl k)) && (wrg iv r k + cond ((iv k).testBit (dg r k)) 1 0 == 0)))
    rw [vK_eq vl iv M r k]
    cases (iv k).testBit (dg r k)
    · show ((M r && (all6 vl r k && (wrg iv r k == 0))) && (decide (dg r k < vl k) && true)) = (M r && ((all6 vl r k && decide (dg r k < vl k)) && (wrg iv r k == 0)))
      cases M r <;> cases all6 vl r k <;> cases decide (dg r k < vl k) <;> cases (wrg iv r k == 0) <;> rfl
    · show ((M r && (all6 vl r k && (wrg iv r k == 0))) && (decide (dg r k < vl k) && false)) = (M r && ((all6 vl r k && decide (dg r k < vl k)) && (wrg iv r k + 1 == 0)))
      rw [sb_0, Bool.and_false, Bool.and_false, Bool.and_false, Bool.and_false]
theorem nK_eq (vl iv : Nat → Nat) (M : Nat → Bool) (r : Nat) : ∀ k, nK vl iv M r k = (M r && (all6 vl r k && (wrg iv r k == 1)))
  | 0 => by show false = (M r && (true && false)); rw [Bool.and_false, Bool.and_false]
  | k + 1 => by
    show ((nK vl iv M r k && (decide (dg r k < vl k) && !((iv k).testBit (dg r k)))) || (vK vl iv M r k && (decide (dg r k < vl k) && (iv k).testBit (dg r k)))) = (M r && ((all6 vl r k && decide (dg r k < vl k)) && (wrg iv r k + cond ((iv k).testBit (dg r k)) 1 0 == 1)))
    rw [vK_eq vl iv M r k, nK_eq vl iv M r k]
    cases (iv k).testBit (dg r k)
    · show (((M r && (all6 vl r k && (wrg iv r k == 1))) && (decide (dg r k < vl k) && true)) || ((M r && (all6 vl r k && (wrg iv r k == 0))) && (decide (dg r k < vl k) && false))) = (M r && ((all6 vl r k && decide (dg r k < vl k)) && (wrg iv r k == 1)))
      cases M r <;> cases all6 vl r k <;> cases decide (dg r k < vl k) <;> cases (wrg iv r k == 0) <;> cases (wrg iv r k == 1) <;> rfl
    · show (((M r && (all6 vl r k && (wrg iv r k == 1))) && (decide (dg r k < vl k) && false)) || ((M r && (all6 vl r k && (wrg iv r k == 0))) && (decide (dg r k < vl k) && true))) = (M r && ((all6 vl r k && decide (dg r k < vl k)) && (wrg iv r k + 1 == 1)))
      rw [sb_1]
      cases M r <;> cases all6 vl r k <;> cases decide (dg r k < vl k) <;> cases (wrg iv r k == 0) <;> cases (wrg iv r k == 1) <;> rfl
theorem cB_uniq {f : Nat → Bool} {k p q : Nat} (h : cB f k = 1) (hp : p < k) (hq : q < k) (hfp : f p = true) (hfq : f q = true) : p = q := by
  apply Classical.byContradiction
  intro hne
  have h1 := cB_drop (f := f) (g := fun i => if i = p then false else f i) hp hfp (if_pos rfl) (fun i _ hn => if_neg hn)
  have h2 : cB (fun i => if i = p then false else f i) k = 0 := by omega
  have h3 := cB_zero.mp h2 q hq
  simp only [if_neg (Ne.symm hne)] at h3
  rw [hfq] at h3
  cases h3
theorem cB_ex {f : Nat → Bool} {k : Nat} (h : ¬ cB f k = 0) : ∃ p, p < k ∧ f p = true := by
  apply Classical.byContradiction
  intro hno
  exact h (cB_zero.mpr (fun i hi => ts_nt (fun hf => hno ⟨i, hi, hf⟩)))
/-! which sets a row covers -/
def inb (iv : Nat → Nat) (r n : Nat) : Nat → Bool
  | 0 => true
  | k + 1 => inb iv r n k && (!((iv k).testBit (dg r k)) || n.testBit k)
theorem inb_iff {iv : Nat → Nat} {r n : Nat} : ∀ {k : Nat}, inb iv r n k = true ↔ ∀ p, p < k → (iv p).testBit (dg r p) = true → n.testBit p = true
  | 0 => ⟨fun _ p hp => absurd hp (Nat.not_lt_zero _), fun _ => rfl⟩
  | k + 1 => by
    show (inb iv r n k && (!((iv k).testBit (dg r k)) || n.testBit k)) = true ↔ _
    rw [Bool.and_eq_true, inb_iff, Bool.or_eq_true, Bool.not_eq_true']
    constructor
    · rintro ⟨h1, h2⟩ p hp hb
      by_cases e : p = k
      · subst e
        rcases h2 with h2 | h2
        · rw [h2] at hb; cases hb
        · exact h2
      · exact h1 p (by omega) hb
    · intro h
      refine ⟨fun p hp hb => h p (by omega) hb, ?_⟩
      cases hb : (iv k).testBit (dg r k)
      · exact Or.inl rfl
      · exact Or.inr (h k (by omega) hb)
/-- V: no invalid value, N: just one -/
def csB (iv : Nat → Nat) (V N : Nat → Bool) (ak : Nat → Bool) (r n : Nat) : Bool := ak n && ((V r || N r) && inb iv r n 6)
def VN (iv : Nat → Nat) (V N : Nat → Bool) : Prop := ∀ r, (V r = true → wrg iv r 6 = 0) ∧ (N r = true → wrg iv r 6 = 1)
theorem VN_K (vl iv : Nat → Nat) (M : Nat → Bool) : VN iv (fun r => vK vl iv M r 6) (fun r => nK vl iv M r 6) := by
  intro r
  constructor
  · intro h
    have h : vK vl iv M r 6 = true := h
    rw [vK_eq, Bool.and_eq_true, Bool.and_eq_true, beq_iff_eq] at h
    exact h.2.2
  · intro h
    have h : nK vl iv M r 6 = true := h
    rw [nK_eq, Bool.and_eq_true, Bool.and_eq_true, beq_iff_eq] at h
    exact h.2.2
theorem kin_cs {iv : Nat → Nat} {V N ak : Nat → Bool} (hVN : VN iv V N) {r s n : Nat} (h : csB iv V N ak r n = true) (he : tp n s = tp n r) : csB iv V N ak s n = cond (V r) (V s) (N s) := by
  unfold csB at h ⊢
  rw [Bool.and_eq_true, Bool.and_eq_true, Bool.or_eq_true] at h
  obtain ⟨ha, hk, hi⟩ := h
  have hd := tp_eq.mp he
  have hin := inb_iff.mp hi
  rw [ha, Bool.true_and]
  have noV : ∀ x, V x = true → ∀ p, p < 6 → (iv p).testBit (dg x p) = false := fun x hx p hp => cB_zero.mp ((hVN x).1 hx) p hp
  cases hV : V r
  · have hN : N r = true := by
      rcases hk with hk | hk
      · rw [hV] at hk; cases hk
      · exact hk
    obtain ⟨q, hq, hbq⟩ := cB_ex (f := fun p => (iv p).testBit (dg r p)) (k := 6) (by rw [show cB (fun p => (iv p).testBit (dg r p)) 6 = 1 from (hVN r).2 hN]; decide)
    have hqn := hin q hq hbq
    have hbs : (iv q).testBit (dg s q) = true := by rw [hd q hq hqn]; exact hbq
    have hVs : V s = false := ts_nt (fun z => by rw [noV s z q hq] at hbs; cases hbs)
    show ((V s || N s) && inb iv s n 6) = N s
    rw [hVs, Bool.false_or]
    cases hNs : N s
    · rfl
    · rw [Bool.true_and]
      refine inb_iff.mpr (fun p hp hb => ?_)
      obtain rfl := cB_uniq (f := fun p => (iv p).testBit (dg s p)) ((hVN s).2 hNs) hp hq hb hbs
      exact hqn
  · show ((V s || N s) && inb iv s n 6) = V s
    cases hVs : V s
    · apply ts_nt
      intro hz
      rw [Bool.and_eq_true, Bool.false_or] at hz
      obtain ⟨hNs, hz⟩ := hz
      obtain ⟨q, hq, hbq⟩ := cB_ex (f := fun p => (iv p).testBit (dg s p)) (k := 6) (by rw [show cB (fun p => (iv p).testBit (dg s p)) 6 = 1 from (hVN s).2 hNs]; decide)
      have hbq : (iv q).testBit (dg s q) = true := hbq
      have hqn := inb_iff.mp hz q hq hbq
      rw [hd q hq hqn, noV r hV q hq] at hbq
      cases hbq
    · rw [Bool.true_or, Bool.true_and]
      exact inb_iff.mpr (fun p hp hb => by rw [noV s hVs p hp] at hb; cases hb)
/-- the gain of a row, with the tuples cov covered -/
def gnB (iv : Nat → Nat) (V N ak : Nat → Bool) (cov : Nat → Nat → Bool) (r : Nat) : Nat := cB (fun n => csB iv V N ak r n && !(cov n (tp n r))) 64
def cvS (cov : Nat → Nat → Bool) (n t : Nat) : Nat → Nat → Bool := fun a b => cov a b || (a == n && b == t)
theorem gn_step {iv : Nat → Nat} {V N ak : Nat → Bool} {cov : Nat → Nat → Bool} (hVN : VN iv V N) {r n : Nat} (hn : n < 64) (h : csB iv V N ak r n = true) (hc : cov n (tp n r) = false) (s : Nat) :
    (tp n s = tp n r ∧ cond (V r) (V s) (N s) = true → gnB iv V N ak (cvS cov n (tp n r)) s + 1 = gnB iv V N ak cov s) ∧ (¬ (tp n s = tp n r ∧ cond (V r) (V s) (N s) = true) → gnB iv V N ak (cvS cov n (tp n r)) s = gnB iv V N ak cov s) := by
  unfold gnB cvS
  constructor
  · rintro ⟨he, hk⟩
    have hs := (kin_cs hVN h he).trans hk
    apply cB_drop hn
    · show (csB iv V N ak s n && !(cov n (tp n s))) = true
      rw [hs, he, hc]; rfl
    · show (csB iv V N ak s n && !(cov n (tp n s) || (n == n && tp n s == tp n r))) = false
      rw [he, beq_self_eq_true, beq_self_eq_true]
      simp
    · intro i _ hi
      show (csB iv V N ak s i && !(cov i (tp i s) || (i == n && tp i s == tp n r))) = (csB iv V N ak s i && !(cov i (tp i s)))
      rw [beq_false_of_ne hi, Bool.false_and, Bool.or_false]
  · intro hno
    apply cB_congr
    intro i hi
    show (csB iv V N ak s i && !(cov i (tp i s) || (i == n && tp i s == tp n r))) = (csB iv V N ak s i && !(cov i (tp i s)))
    by_cases e : i = n
    · subst e
      by_cases et : tp i s = tp i r
      · have hs := kin_cs hVN h et
        have hk : cond (V r) (V s) (N s) = false := ts_nt (fun z => hno ⟨et, z⟩)
        rw [hs, hk]
        rfl
      · rw [beq_false_of_ne et, Bool.and_false, Bool.or_false]
    · rw [beq_false_of_ne e, Bool.false_and, Bool.or_false]
end
section
/-! the rows that hold a tuple, one behind another: the parameters outside of n run -/
theorem cm_b : ∀ P, P < 7 → ∀ n, n < 2 ^ P → ∀ p, p < 6 → (2 ^ P - 1 - n).testBit p = (decide (p < P) && !(n.testBit p)) := by decide +kernel
theorem cm_fr : ∀ P, P < 7 → ∀ n, n < 2 ^ P → nI (4 ^ P - 1) &&& (nI (fo n 6) ^^^ (-1)) = nI (fo (2 ^ P - 1 - n) 6) := by decide +kernel
theorem al_fo : ∀ P, P < 7 → 4 ^ P - 1 = fo (2 ^ P - 1) 6 := by decide +kernel
def ot (r n m j : Nat) : Nat := (r &&& fo n 6) ||| ux m j
theorem and3b {b : Bool} {d : Nat} (hd : d < 4) : d &&& cond b 3 0 = cond b d 0 := by
  cases b
  · exact Nat.and_zero _
  · exact and3 _ hd
theorem dg_ot (r n m j : Nat) {p : Nat} (hp : p < 6) : dg (ot r n m j) p = cond (n.testBit p) (dg r p) 0 ||| cond (m.testBit p) (dg j (cn m p)) 0 := by
  unfold ot
  rw [dg_or, dg_and, dg_fo n hp, dg_ux m j hp, and3b (dg_lt r p)]
theorem ot_lt (r n m j : Nat) (hr : r < 4096) : ot r n m j < 4096 := Nat.or_lt_two_pow (n := 12) (Nat.lt_of_le_of_lt Nat.and_le_left hr) (ux_lt m j)
theorem dg_P0 {r P p : Nat} (hr : r < 4 ^ P) (h : P ≤ p) : dg r p = 0 := dg_big (Nat.lt_of_lt_of_le hr (p4le h))
theorem lt_P {r P : Nat} (hr : r < 4096) (h : ∀ p, P ≤ p → p < 6 → dg r p = 0) : r < 4 ^ P := by
  apply Classical.byContradiction
  intro hge
  by_cases hP : P ≤ 6
  · obtain ⟨p, h1, h2, h3⟩ := dg_top (P := P) (by omega) hr hP
    exact h3 (h p h1 h2)
  · have : 4 ^ 6 ≤ 4 ^ P := p4le (by omega)
    omega
theorem ot_P {P r n j : Nat} (hP : P < 7) (hn : n < 2 ^ P) (hr : r < 4 ^ P) : ot r n (2 ^ P - 1 - n) j < 4 ^ P := by
  have h6 : 4 ^ P ≤ 4096 := p4le (b := 6) (by omega)
  refine lt_P (ot_lt _ _ _ _ (by omega)) (fun p h1 h2 => ?_)
  rw [dg_ot _ _ _ _ h2, cm_b P hP n hn p h2, dg_P0 hr h1, decide_eq_false (by omega), Bool.false_and]
  cases n.testBit p <;> exact Nat.or_zero 0
theorem ot_iff {P r s n j : Nat} (hP : P < 7) (hn : n < 2 ^ P) (hr : r < 4 ^ P) (hs : s < 4 ^ P) (hj : j < 4 ^ cn (2 ^ P - 1 - n) 6) : s = ot r n (2 ^ P - 1 - n) j ↔ tp n s = tp n r ∧ tp (2 ^ P - 1 - n) s = j := by
  have h6 : 4 ^ P ≤ 4096 := p4le (b := 6) (by omega)
  rw [tp_eq, tp_iff hj]
  constructor
  · intro h
    constructor
    · intro p hp hb
      rw [h, dg_ot _ _ _ _ hp, cm_b P hP n hn p hp, hb, Bool.not_true, Bool.and_false]
      exact Nat.or_zero _
    · intro p hp hb
      have hb2 := hb
      rw [cm_b P hP n hn p hp, Bool.and_eq_true, Bool.not_eq_true'] at hb2
      rw [h, dg_ot _ _ _ _ hp, hb, hb2.2]
      exact Nat.zero_or _
  · rintro ⟨h1, h2⟩
    refine dg_ext (k := 6) (show s < 4096 by omega) (ot_lt _ _ _ _ (by omega)) (fun p hp => ?_)
    rw [dg_ot _ _ _ _ hp]
    cases hb : n.testBit p
    · cases hm : (2 ^ P - 1 - n).testBit p
      · have hm2 := hm
        rw [cm_b P hP n hn p hp, hb, Bool.not_false, Bool.and_true, decide_eq_false_iff_not] at hm2
        rw [dg_P0 hs (by omega)]
        exact (Nat.or_zero 0).symm
      · rw [h2 p hp hm]
        exact (Nat.zero_or _).symm
    · have hm : (2 ^ P - 1 - n).testBit p = false := by rw [cm_b P hP n hn p hp, hb, Bool.not_true, Bool.and_false]
      rw [h1 p hp hb, hm]
      exact (Nat.or_zero _).symm
/-! the class's own place of a tuple -/
def pc6 (n r : Nat) : Nat → Nat
  | 0 => 0
  | i + 1 => cond (n.testBit i) (pc6 n r i * 4 + dg r i) (pc6 n r i)
theorem pc6_t {n r i : Nat} (h : n.testBit i = true) : pc6 n r (i + 1) = pc6 n r i * 4 + dg r i := by show cond (n.testBit i) _ _ = _; rw [h]; rfl
theorem pc6_f {n r i : Nat} (h : n.testBit i = false) : pc6 n r (i + 1) = pc6 n r i := by show cond (n.testBit i) _ _ = _; rw [h]; rfl
theorem pc6_lt (n r : Nat) : ∀ i, pc6 n r i < 4 ^ cn n i
  | 0 => by show 0 < 1; decide
  | i + 1 => by
    have h := pc6_lt n r i
    have hd := dg_lt r i
    cases hb : n.testBit i
    · rw [pc6_f hb, cn_f hb]; exact h
    · rw [pc6_t hb, cn_t hb, Nat.pow_succ]; omega
theorem pc6_eq {n r s : Nat} : ∀ {i : Nat}, pc6 n r i = pc6 n s i ↔ ∀ p, p < i → n.testBit p = true → dg r p = dg s p
  | 0 => ⟨fun _ p hp => absurd hp (Nat.not_lt_zero _), fun _ => rfl⟩
  | i + 1 => by
    have h1 := dg_lt r i
    have h2 := dg_lt s i
    have ih := pc6_eq (n := n) (r := r) (s := s) (i := i)
    cases hb : n.testBit i
    · rw [pc6_f hb, pc6_f hb, ih]
      constructor
      · intro h p hp hbp
        by_cases e : p = i
        · subst e; rw [hb] at hbp; cases hbp
        · exact h p (by omega) hbp
      · intro h p hp hbp; exact h p (by omega) hbp
    · rw [pc6_t hb, pc6_t hb]
      constructor
      · intro h p hp hbp
        by_cases e : p = i
        · subst e; omega
        · exact ih.mp (by omega) p (by omega) hbp
      · intro h
        rw [ih.mpr (fun p hp hbp => h p (by omega) hbp), h i (by omega) hb]
theorem pc6_tp {n r s : Nat} : (pc6 n r 6 == pc6 n s 6) = (tp n r == tp n s) := by
  rw [Bool.eq_iff_iff, beq_iff_eq, beq_iff_eq, pc6_eq, tp_eq]
/-! the best row -/
def bsP (R : Nat → Bool) (g : Nat → Nat) (k : Nat) (b : Option Nat) : Prop := match b with
  | none => ∀ s, s < k → R s = true → g s = 0
  | some b => b < k ∧ R b = true ∧ 0 < g b ∧ ∀ s, s < k → R s = true → g s ≤ g b ∧ (s < b → g s < g b)
def mst (g : Nat → Nat) (b : Option Nat) : Nat := match b with
  | none => 0
  | some b => g b
theorem bs_0 {R : Nat → Bool} {g : Nat → Nat} : bsP R g 0 none := fun s hs => absurd hs (Nat.not_lt_zero _)
theorem bs_new {R : Nat → Bool} {g : Nat → Nat} {k : Nat} {b : Option Nat} (h : bsP R g k b) (hR : R k = true) (hg : mst g b < g k) : bsP R g (k + 1) (some k) := by
  have hm : ∀ s, s < k → R s = true → g s < g k := by
    intro s hs hRs
    cases b with
    | none => have := h s hs hRs; have hg : 0 < g k := hg; omega
    | some b => have := (h.2.2.2 s hs hRs).1; have hg : g b < g k := hg; omega
  refine ⟨Nat.lt_succ_self _, hR, by omega, fun s hs hRs => ?_⟩
  by_cases e : s = k
  · subst e; exact ⟨Nat.le_refl _, fun z => absurd z (Nat.lt_irrefl _)⟩
  · have := hm s (by omega) hRs
    exact ⟨by omega, fun _ => this⟩
theorem bs_no {R : Nat → Bool} {g : Nat → Nat} {k : Nat} {b : Option Nat} (h : bsP R g k b) (hn : R k = true → g k ≤ mst g b) : bsP R g (k + 1) b := by
  cases b with
  | none =>
    intro s hs hRs
    by_cases e : s = k
    · subst e; have : g s ≤ 0 := hn hRs; omega
    · exact h s (by omega) hRs
  | some b =>
    obtain ⟨h1, h2, h3, h4⟩ := h
    refine ⟨by omega, h2, h3, fun s hs hRs => ?_⟩
    by_cases e : s = k
    · subst e; exact ⟨hn hRs, fun z => by omega⟩
    · exact h4 s (by omega) hRs
end
section
/-! the reference's ways to say the same -/
def ba (g : Nat → Bool) : Nat → Int32 := fun j => bI (g j)
def rv (P : Nat) (vl : Nat → Nat) (j : Nat) : Nat := if j < P then vl j else 0
theorem cn_b (n i : Nat) : (n / 2 ^ i) &&& 1 = cond (n.testBit i) 1 0 := by
  have h : (n / 2 ^ i) &&& 1 = n / 2 ^ i % 2 := Nat.and_one_is_mod _
  rw [h, Nat.testBit_eq_decide_div_mod_eq]
  generalize n / 2 ^ i = z
  by_cases e : z % 2 = 1
  · rw [e]; rfl
  · rw [decide_eq_false e]; show z % 2 = 0; omega
theorem cn_step (n i : Nat) : nI (cn n i) + nI ((n / 2 ^ i) &&& 1) = nI (cn n (i + 1)) := by rw [cn_b, nI_add]; rfl
theorem tb_1 {n i : Nat} : nI ((n / 2 ^ i) &&& 1) = nI 1 ↔ n.testBit i = true := by
  rw [cn_b]
  cases n.testBit i <;> decide
theorem tpU_or {n r i : Nat} (h : n.testBit i = true) : tpU n r i ||| dg r i * 2 ^ (2 * cn n i) = tpU n r (i + 1) := by
  have h1 : tpU n r i < 2 ^ (2 * cn n i) := by rw [p24]; exact tpU_lt n r i
  have h2 := Nat.shiftLeft_add_eq_or_of_lt h1 (dg r i)
  rw [Nat.shiftLeft_eq] at h2
  rw [Nat.or_comm, ← h2, tpU_t h, p24, Nat.add_comm]
theorem cn_s2 {n i : Nat} (h : n.testBit i = true) : 2 * cn n i + 2 = 2 * cn n (i + 1) := by rw [cn_t h]; omega
/-! a place of the reference: the set n, the packed digits t -/
def okT (vl : Nat → Nat) (n t : Nat) : Nat → Bool
  | 0 => true
  | k + 1 => okT vl n t k && (!(n.testBit k) || decide (dg t (cn n k) < vl k))
def wT (iv : Nat → Nat) (n t : Nat) (k : Nat) : Nat := cB (fun p => n.testBit p && (iv p).testBit (dg t (cn n p))) k
def wgI (vl iv : Nat → Nat) (n t : Nat) : Int32 := if t < 4 ^ cn n 6 ∧ okT vl n t 6 = true then nI (wT iv n t 6) else -1
theorem okT_iff {vl : Nat → Nat} {n t : Nat} : ∀ {k : Nat}, okT vl n t k = true ↔ ∀ p, p < k → n.testBit p = true → dg t (cn n p) < vl p
  | 0 => ⟨fun _ p hp => absurd hp (Nat.not_lt_zero _), fun _ => rfl⟩
  | k + 1 => by
    show (okT vl n t k && (!(n.testBit k) || decide (dg t (cn n k) < vl k))) = true ↔ _
    rw [Bool.and_eq_true, okT_iff, Bool.or_eq_true, Bool.not_eq_true', decide_eq_true_iff]
    constructor
    · rintro ⟨h1, h2⟩ p hp hb
      by_cases e : p = k
      · subst e
        rcases h2 with h2 | h2
        · rw [h2] at hb; cases hb
        · exact h2
      · exact h1 p (by omega) hb
    · intro h
      refine ⟨fun p hp hb => h p (by omega) hb, ?_⟩
      cases hb : n.testBit k
      · exact Or.inl rfl
      · exact Or.inr (h k (by omega) hb)
theorem wT_le (iv : Nat → Nat) (n t k : Nat) : wT iv n t k ≤ k := cB_le _ k
/-- the digit k taken out -/
def rmD (t k : Nat) : Nat := t / 4 ^ (k + 1) * 4 ^ k + t % 4 ^ k
theorem dg_mod {t k p : Nat} (h : p < k) : dg (t % 4 ^ k) p = dg t p := by
  unfold dg
  obtain ⟨c, rfl⟩ : ∃ c, k = p + (c + 1) := ⟨k - p - 1, by omega⟩
  rw [Nat.pow_add, Nat.mod_mul_right_div_self, Nat.pow_succ', Nat.mod_mul_right_mod]
theorem dg_div (t k p : Nat) : dg (t / 4 ^ k) p = dg t (k + p) := by
  unfold dg
  rw [Nat.div_div_eq_div_mul, ← Nat.pow_add]
theorem dg_lift {a b k p : Nat} (hb : b < 4 ^ k) : dg (a * 4 ^ k + b) p = if p < k then dg b p else dg a (p - k) := by
  by_cases h : p < k
  · rw [if_pos h]
    have e : b = (a * 4 ^ k + b) % 4 ^ k := by rw [Nat.mul_comm, Nat.mul_add_mod, Nat.mod_eq_of_lt hb]
    exact (dg_mod h).symm.trans (congrArg (fun z => dg z p) e.symm)
  · rw [if_neg h]
    have e : (a * 4 ^ k + b) / 4 ^ k = a := by rw [Nat.mul_comm, Nat.mul_add_div (p4 k), Nat.div_eq_of_lt hb, Nat.add_zero]
    have := dg_div (a * 4 ^ k + b) k (p - k)
    rw [e, show k + (p - k) = p by omega] at this
    exact this.symm
theorem dg_rm (t k p : Nat) : dg (rmD t k) p = if p < k then dg t p else dg t (p + 1) := by
  unfold rmD
  rw [dg_lift (Nat.mod_lt _ (p4 k))]
  by_cases h : p < k
  · rw [if_pos h, if_pos h, dg_mod h]
  · rw [if_neg h, if_neg h, dg_div, show k + 1 + (p - k) = p + 1 by omega]
end
section
set_option maxHeartbeats 4000000 in
set_option maxRecDepth 100000 in
theorem k_CR_valueOf (l : Launch) (X : Cx) (q n : Nat) (hq : q < 6) (hn : n < 2 ^ 31) : CtI l X (TY X) y_CR_valueOf cw_CR_valueOf ({ frames := 0, cells := 0, slots := 0, locals := 0 } : Room) [.int (nI q), .int (nI n)] [] (S := Unit) (fun r _ => r = nI (dg n q)) (fun _ => []) 0 0 := by
  refine metI (by decide) (Nat.le_of_ble_eq_true rfl) ?_
  intro p e s m below meth c A ls hB hl
  obtain ⟨hx, hb, hr, hml, hown, hlk, hin, hg, hA, hD, hP, hE⟩ := hB
  have hS : va_S A s.heap s.heap [] := va_S.rf
  have hl : lv_has ls 2 [(0, .int (nI q)), (1, .int (nI n))] := hl
  refine lv_iload_n hx hb d_CR_valueOf_0 rfl (lv_at hl 1 rfl) ?_
  refine lv_iconst (v := nI 2) hx hb d_CR_valueOf_1 (by decide) ?_
  refine lv_iload_n hx hb d_CR_valueOf_2 rfl (lv_at hl 0 rfl) ?_
  refine lv_imul hx hb d_CR_valueOf_3 ?_
  refine topI (pk_mul _ _) ?_
  refine lv_ishr hx hb d_CR_valueOf_4 ?_
  refine topI (shrN (by omega) (by omega)) ?_
  refine lv_iconst (v := nI 3) hx hb d_CR_valueOf_5 (by decide) ?_
  refine lv_iand hx hb d_CR_valueOf_6 ?_
  refine topI (nx_and _ _) ?_
  exact retI (u := ()) hx hb hr hlk hP hD hS (by rw [dg_eq]) d_CR_valueOf_7
set_option maxHeartbeats 4000000 in
set_option maxRecDepth 100000 in
theorem k_CR_nextWithin (l : Launch) (X : Cx) (x y : Int32) : CtI l X (TY X) y_CR_nextWithin cw_CR_nextWithin ({ frames := 0, cells := 0, slots := 0, locals := 0 } : Room) [.int x, .int y] [] (S := Unit) (fun r _ => r = (y - x) &&& x) (fun _ => []) 0 0 := by
  refine metI (by decide) (Nat.le_of_ble_eq_true rfl) ?_
  intro p e s m below meth c A ls hB hl
  obtain ⟨hx, hb, hr, hml, hown, hlk, hin, hg, hA, hD, hP, hE⟩ := hB
  have hS : va_S A s.heap s.heap [] := va_S.rf
  have hl : lv_has ls 2 [(0, .int x), (1, .int y)] := hl
  refine lv_iload_n hx hb d_CR_nextWithin_0 rfl (lv_at hl 1 rfl) ?_
  refine lv_iload_n hx hb d_CR_nextWithin_1 rfl (lv_at hl 0 rfl) ?_
  refine lv_isub hx hb d_CR_nextWithin_2 ?_
  refine lv_iload_n hx hb d_CR_nextWithin_3 rfl (lv_at hl 0 rfl) ?_
  refine lv_iand hx hb d_CR_nextWithin_4 ?_
  exact retI (u := ()) hx hb hr hlk hP hD hS (rfl) d_CR_nextWithin_5
set_option maxHeartbeats 4000000 in
set_option maxRecDepth 100000 in
theorem k_CR_fieldsOf (l : Launch) (X : Cx) (n : Nat) (hn : n < 64) : CtI l X (TY X) y_CR_fieldsOf cw_CR_fieldsOf ({ frames := 0, cells := 0, slots := 0, locals := 0 } : Room) [.int (nI n)] [] (S := Unit) (fun r _ => r = nI (fo n 6)) (fun _ => []) 0 0 := by
  refine metI (by decide) (Nat.le_of_ble_eq_true rfl) ?_
  intro p e s m below meth c A ls hB hl
  obtain ⟨hx, hb, hr, hml, hown, hlk, hin, hg, hA, hD, hP, hE⟩ := hB
  have hS : va_S A s.heap s.heap [] := va_S.rf
  have hl : lv_has ls 3 [(0, .int (nI n))] := hl
  refine lv_iconst (v := nI 0) hx hb d_CR_fieldsOf_0 (by decide) ?_
  refine lv_istore_n hx hb d_CR_fieldsOf_1 rfl hl (by decide) rfl (fun ls hl => ?_)
  have hl : lv_has ls 3 [(1, .int (nI 0)), (0, .int (nI n))] := hl
  refine lv_iconst (v := nI 0) hx hb d_CR_fieldsOf_2 (by decide) ?_
  refine lv_istore_n hx hb d_CR_fieldsOf_3 rfl hl (by decide) rfl (fun ls hl => ?_)
  have hl : lv_has ls 3 [(2, .int (nI 0)), (1, .int (nI 0)), (0, .int (nI n))] := hl
  refine wLoop (nL := 3) (σ := (Nat)) (fun i => 6 - i) (fun i => i ≤ 6) (fun i => []) (fun i => [(0, .int (nI n)), (1, .int (nI (fo n i))), (2, .int (nI i))]) ?_ 0 (by omega) hP hD hS (lv_sub hl [2, 1, 0] rfl)
  rintro i H locs ls hJ hP hD hS hl ih4
  have hJ : i ≤ 6 := hJ
  have hP : va_P X.1 classes [] H := hP
  have hD : va_D A [] := hD
  have hl : lv_has ls 3 [(0, .int (nI n)), (1, .int (nI (fo n i))), (2, .int (nI i))] := hl
  refine lv_iload_n hx hb d_CR_fieldsOf_4 rfl (lv_at hl 2 rfl) ?_
  refine lv_bipush (v := nI 6) hx hb d_CR_fieldsOf_5 (by decide) ?_
  refine lv_icmp_ge (tgt := 32) hx hb d_CR_fieldsOf_7 (by decide) (fun hc7 => ?_) (fun hc7 => ?_)
  · rw [nI_leI (by omega) (by omega)] at hc7
    obtain rfl : i = 6 := by omega
    refine lv_iload_n hx hb d_CR_fieldsOf_32 rfl (lv_at hl 1 rfl) ?_
    exact retI (u := ()) hx hb hr hlk hP hD hS (rfl) d_CR_fieldsOf_33
  · rw [nI_leI (by omega) (by omega)] at hc7
    refine lv_iload_n hx hb d_CR_fieldsOf_10 rfl (lv_at hl 0 rfl) ?_
    refine lv_iload_n hx hb d_CR_fieldsOf_11 rfl (lv_at hl 2 rfl) ?_
    refine lv_ishr hx hb d_CR_fieldsOf_12 ?_
    refine topI (shrN (by omega) (by omega)) ?_
    refine lv_iconst (v := nI 1) hx hb d_CR_fieldsOf_13 (by decide) ?_
    refine lv_iand hx hb d_CR_fieldsOf_14 ?_
    refine topI (nx_and _ _) ?_
    refine lv_if_eq (tgt := 26) hx hb d_CR_fieldsOf_15 (by decide) (fun hc15 => ?_) (fun hc15 => ?_)
    · rw [tb_z] at hc15
      have hl : lv_has ls 3 [(0, .int (nI n)), (1, .int (nI (fo n (i + 1)))), (2, .int (nI i))] := by rw [fo_f hc15]; exact hl
      refine lv_iinc (k := 2) (v := nI (i + 1)) hx hb d_CR_fieldsOf_26 hl rfl (nI_1 _) (by decide) rfl (fun ls hl => ?_)
      have hl : lv_has ls 3 [(2, .int (nI (i + 1))), (0, .int (nI n)), (1, .int (nI (fo n (i + 1))))] := hl
      refine lv_goto (tgt := 4) hx hb d_CR_fieldsOf_29 (by decide) ?_
      exact ih4 (i + 1) H locs ls (by (try dsimp only); omega) (by show i + 1 ≤ 6; omega) hP hD hS (lv_sub hl [1, 2, 0] rfl)
    · rw [tb_z] at hc15
      have hc15 := ts_nf hc15
      refine lv_iload_n hx hb d_CR_fieldsOf_18 rfl (lv_at hl 1 rfl) ?_
      refine lv_iconst (v := nI 3) hx hb d_CR_fieldsOf_19 (by decide) ?_
      refine lv_iconst (v := nI 2) hx hb d_CR_fieldsOf_20 (by decide) ?_
      refine lv_iload_n hx hb d_CR_fieldsOf_21 rfl (lv_at hl 2 rfl) ?_
      refine lv_imul hx hb d_CR_fieldsOf_22 ?_
      refine topI (pk_mul _ _) ?_
      refine lv_ishl hx hb d_CR_fieldsOf_23 ?_
      refine topI (shlN (by omega) (p3 (by omega))) ?_
      refine lv_ior hx hb d_CR_fieldsOf_24 ?_
      refine topI (y := nI (fo n (i + 1))) (by rw [nx_or, fo_t hc15]) ?_
      refine lv_istore_n hx hb d_CR_fieldsOf_25 rfl hl (by decide) rfl (fun ls hl => ?_)
      have hl : lv_has ls 3 [(1, .int (nI (fo n (i + 1)))), (0, .int (nI n)), (2, .int (nI i))] := hl
      refine lv_iinc (k := 2) (v := nI (i + 1)) hx hb d_CR_fieldsOf_26 hl rfl (nI_1 _) (by decide) rfl (fun ls hl => ?_)
      have hl : lv_has ls 3 [(2, .int (nI (i + 1))), (1, .int (nI (fo n (i + 1)))), (0, .int (nI n))] := hl
      refine lv_goto (tgt := 4) hx hb d_CR_fieldsOf_29 (by decide) ?_
      exact ih4 (i + 1) H locs ls (by (try dsimp only); omega) (by show i + 1 ≤ 6; omega) hP hD hS (lv_sub hl [2, 1, 0] rfl)
set_option maxHeartbeats 4000000 in
set_option maxRecDepth 100000 in
theorem k_JI_bitCount (l : Launch) (X : Cx) (x : Int32) : CtI l X (TY X) y_JI_bitCount cw_JI_bitCount ({ frames := 0, cells := 0, slots := 0, locals := 0 } : Room) [.int x] [] (S := Unit) (fun r _ => r = bcI x) (fun _ => []) 0 0 := by
  refine metI (by decide) (Nat.le_of_ble_eq_true rfl) ?_
  intro p e s m below meth c A ls hB hl
  obtain ⟨hx, hb, hr, hml, hown, hlk, hin, hg, hA, hD, hP, hE⟩ := hB
  have hS : va_S A s.heap s.heap [] := va_S.rf
  have hl : lv_has ls 1 [(0, .int x)] := hl
  refine lv_iload_n hx hb d_JI_bitCount_0 rfl (lv_at hl 0 rfl) ?_
  refine lv_iload_n hx hb d_JI_bitCount_1 rfl (lv_at hl 0 rfl) ?_
  refine lv_iconst (v := nI 1) hx hb d_JI_bitCount_2 (by decide) ?_
  refine lv_iushr hx hb d_JI_bitCount_3 rfl ?_
  refine lv_ldcw hx hb hown (hg _ m_221) d_JI_bitCount_4 ?_
  refine lv_iand hx hb d_JI_bitCount_7 ?_
  refine lv_isub hx hb d_JI_bitCount_8 ?_
  refine lv_topi (fun a1 e_a1 => ?_)
  refine lv_istore_n hx hb d_JI_bitCount_9 rfl hl (by decide) rfl (fun ls hl => ?_)
  have hl : lv_has ls 1 [(0, .int a1)] := hl
  refine lv_iload_n hx hb d_JI_bitCount_10 rfl (lv_at hl 0 rfl) ?_
  refine lv_ldcw hx hb hown (hg _ m_222) d_JI_bitCount_11 ?_
  refine lv_iand hx hb d_JI_bitCount_14 ?_
  refine lv_iload_n hx hb d_JI_bitCount_15 rfl (lv_at hl 0 rfl) ?_
  refine lv_iconst (v := nI 2) hx hb d_JI_bitCount_16 (by decide) ?_
  refine lv_iushr hx hb d_JI_bitCount_17 rfl ?_
  refine lv_ldcw hx hb hown (hg _ m_222) d_JI_bitCount_18 ?_
  refine lv_iand hx hb d_JI_bitCount_21 ?_
  refine lv_iadd hx hb d_JI_bitCount_22 ?_
  refine lv_topi (fun a2 e_a2 => ?_)
  refine lv_istore_n hx hb d_JI_bitCount_23 rfl hl (by decide) rfl (fun ls hl => ?_)
  have hl : lv_has ls 1 [(0, .int a2)] := hl
  refine lv_iload_n hx hb d_JI_bitCount_24 rfl (lv_at hl 0 rfl) ?_
  refine lv_iload_n hx hb d_JI_bitCount_25 rfl (lv_at hl 0 rfl) ?_
  refine lv_iconst (v := nI 4) hx hb d_JI_bitCount_26 (by decide) ?_
  refine lv_iushr hx hb d_JI_bitCount_27 rfl ?_
  refine lv_iadd hx hb d_JI_bitCount_28 ?_
  refine lv_ldcw hx hb hown (hg _ m_223) d_JI_bitCount_29 ?_
  refine lv_iand hx hb d_JI_bitCount_32 ?_
  refine lv_topi (fun a3 e_a3 => ?_)
  refine lv_istore_n hx hb d_JI_bitCount_33 rfl hl (by decide) rfl (fun ls hl => ?_)
  have hl : lv_has ls 1 [(0, .int a3)] := hl
  refine lv_iload_n hx hb d_JI_bitCount_34 rfl (lv_at hl 0 rfl) ?_
  refine lv_iload_n hx hb d_JI_bitCount_35 rfl (lv_at hl 0 rfl) ?_
  refine lv_bipush (v := nI 8) hx hb d_JI_bitCount_36 (by decide) ?_
  refine lv_iushr hx hb d_JI_bitCount_38 rfl ?_
  refine lv_iadd hx hb d_JI_bitCount_39 ?_
  refine lv_topi (fun a4 e_a4 => ?_)
  refine lv_istore_n hx hb d_JI_bitCount_40 rfl hl (by decide) rfl (fun ls hl => ?_)
  have hl : lv_has ls 1 [(0, .int a4)] := hl
  refine lv_iload_n hx hb d_JI_bitCount_41 rfl (lv_at hl 0 rfl) ?_
  refine lv_iload_n hx hb d_JI_bitCount_42 rfl (lv_at hl 0 rfl) ?_
  refine lv_bipush (v := nI 16) hx hb d_JI_bitCount_43 (by decide) ?_
  refine lv_iushr hx hb d_JI_bitCount_45 rfl ?_
  refine lv_iadd hx hb d_JI_bitCount_46 ?_
  refine lv_topi (fun a5 e_a5 => ?_)
  refine lv_istore_n hx hb d_JI_bitCount_47 rfl hl (by decide) rfl (fun ls hl => ?_)
  have hl : lv_has ls 1 [(0, .int a5)] := hl
  refine lv_iload_n hx hb d_JI_bitCount_48 rfl (lv_at hl 0 rfl) ?_
  refine lv_bipush (v := nI 63) hx hb d_JI_bitCount_49 (by decide) ?_
  refine lv_iand hx hb d_JI_bitCount_51 ?_
  exact retI (u := ()) hx hb hr hlk hP hD hS (by subst e_a5 e_a4 e_a3 e_a2 e_a1; rfl) d_JI_bitCount_52
set_option maxHeartbeats 4000000 in
set_option maxRecDepth 100000 in
theorem k_JL_bitCount (l : Launch) (X : Cx) (x : Int64) : CtI l X (TY X) y_JL_bitCount cw_JL_bitCount ({ frames := 0, cells := 0, slots := 0, locals := 0 } : Room) [.long x] [] (S := Unit) (fun r _ => r = bcL x) (fun _ => []) 0 0 := by
  refine metI (by decide) (Nat.le_of_ble_eq_true rfl) ?_
  intro p e s m below meth c A ls hB hl
  obtain ⟨hx, hb, hr, hml, hown, hlk, hin, hg, hA, hD, hP, hE⟩ := hB
  have hS : va_S A s.heap s.heap [] := va_S.rf
  have hl : lv_has ls 2 [(0, .long x)] := hl
  refine lv_lload_n hx hb d_JL_bitCount_0 rfl (lv_at hl 0 rfl) ?_
  refine lv_lload_n hx hb d_JL_bitCount_1 rfl (lv_at hl 0 rfl) ?_
  refine lv_iconst (v := nI 1) hx hb d_JL_bitCount_2 (by decide) ?_
  refine lv_lushr hx hb d_JL_bitCount_3 rfl ?_
  refine lv_ldc2 hx hb hown (hg _ m_367) d_JL_bitCount_4 ?_
  refine lv_land hx hb d_JL_bitCount_7 ?_
  refine lv_lsub hx hb d_JL_bitCount_8 ?_
  refine lv_topl (fun a1 e_a1 => ?_)
  refine lv_lstore_n hx hb d_JL_bitCount_9 rfl hl (by decide) rfl (fun ls hl => ?_)
  have hl : lv_has ls 2 [(0, .long a1)] := hl
  refine lv_lload_n hx hb d_JL_bitCount_10 rfl (lv_at hl 0 rfl) ?_
  refine lv_ldc2 hx hb hown (hg _ m_368) d_JL_bitCount_11 ?_
  refine lv_land hx hb d_JL_bitCount_14 ?_
  refine lv_lload_n hx hb d_JL_bitCount_15 rfl (lv_at hl 0 rfl) ?_
  refine lv_iconst (v := nI 2) hx hb d_JL_bitCount_16 (by decide) ?_
  refine lv_lushr hx hb d_JL_bitCount_17 rfl ?_
  refine lv_ldc2 hx hb hown (hg _ m_368) d_JL_bitCount_18 ?_
  refine lv_land hx hb d_JL_bitCount_21 ?_
  refine lv_ladd hx hb d_JL_bitCount_22 ?_
  refine lv_topl (fun a2 e_a2 => ?_)
  refine lv_lstore_n hx hb d_JL_bitCount_23 rfl hl (by decide) rfl (fun ls hl => ?_)
  have hl : lv_has ls 2 [(0, .long a2)] := hl
  refine lv_lload_n hx hb d_JL_bitCount_24 rfl (lv_at hl 0 rfl) ?_
  refine lv_lload_n hx hb d_JL_bitCount_25 rfl (lv_at hl 0 rfl) ?_
  refine lv_iconst (v := nI 4) hx hb d_JL_bitCount_26 (by decide) ?_
  refine lv_lushr hx hb d_JL_bitCount_27 rfl ?_
  refine lv_ladd hx hb d_JL_bitCount_28 ?_
  refine lv_ldc2 hx hb hown (hg _ m_369) d_JL_bitCount_29 ?_
  refine lv_land hx hb d_JL_bitCount_32 ?_
  refine lv_topl (fun a3 e_a3 => ?_)
  refine lv_lstore_n hx hb d_JL_bitCount_33 rfl hl (by decide) rfl (fun ls hl => ?_)
  have hl : lv_has ls 2 [(0, .long a3)] := hl
  refine lv_lload_n hx hb d_JL_bitCount_34 rfl (lv_at hl 0 rfl) ?_
  refine lv_lload_n hx hb d_JL_bitCount_35 rfl (lv_at hl 0 rfl) ?_
  refine lv_bipush (v := nI 8) hx hb d_JL_bitCount_36 (by decide) ?_
  refine lv_lushr hx hb d_JL_bitCount_38 rfl ?_
  refine lv_ladd hx hb d_JL_bitCount_39 ?_
  refine lv_topl (fun a4 e_a4 => ?_)
  refine lv_lstore_n hx hb d_JL_bitCount_40 rfl hl (by decide) rfl (fun ls hl => ?_)
  have hl : lv_has ls 2 [(0, .long a4)] := hl
  refine lv_lload_n hx hb d_JL_bitCount_41 rfl (lv_at hl 0 rfl) ?_
  refine lv_lload_n hx hb d_JL_bitCount_42 rfl (lv_at hl 0 rfl) ?_
  refine lv_bipush (v := nI 16) hx hb d_JL_bitCount_43 (by decide) ?_
  refine lv_lushr hx hb d_JL_bitCount_45 rfl ?_
  refine lv_ladd hx hb d_JL_bitCount_46 ?_
  refine lv_topl (fun a5 e_a5 => ?_)
  refine lv_lstore_n hx hb d_JL_bitCount_47 rfl hl (by decide) rfl (fun ls hl => ?_)
  have hl : lv_has ls 2 [(0, .long a5)] := hl
  refine lv_lload_n hx hb d_JL_bitCount_48 rfl (lv_at hl 0 rfl) ?_
  refine lv_lload_n hx hb d_JL_bitCount_49 rfl (lv_at hl 0 rfl) ?_
  refine lv_bipush (v := nI 32) hx hb d_JL_bitCount_50 (by decide) ?_
  refine lv_lushr hx hb d_JL_bitCount_52 rfl ?_
  refine lv_ladd hx hb d_JL_bitCount_53 ?_
  refine lv_topl (fun a6 e_a6 => ?_)
  refine lv_lstore_n hx hb d_JL_bitCount_54 rfl hl (by decide) rfl (fun ls hl => ?_)
  have hl : lv_has ls 2 [(0, .long a6)] := hl
  refine lv_lload_n hx hb d_JL_bitCount_55 rfl (lv_at hl 0 rfl) ?_
  refine lv_l2i hx hb d_JL_bitCount_56 rfl ?_
  refine lv_bipush (v := nI 127) hx hb d_JL_bitCount_57 (by decide) ?_
  refine lv_iand hx hb d_JL_bitCount_59 ?_
  exact retI (u := ()) hx hb hr hlk hP hD hS (by subst e_a6 e_a5 e_a4 e_a3 e_a2 e_a1; rfl) d_JL_bitCount_60
set_option maxHeartbeats 4000000 in
set_option maxRecDepth 100000 in
theorem k_JA_fillL (l : Launch) (X : Cx) (ha n : Nat) (hn : n < 2 ^ 31) (f : Nat → Int64) (v : Int64) : CtV l X (TY X) y_JA_fillL cw_JA_fillL ({ frames := 0, cells := 0, slots := 0, locals := 0 } : Room) [.ref ha, .long v] [(ha, .inl (X.2 1, n, .inr (.inl f)))] (S := Nat → Int64) (fun g => ∀ j, j < n → g j = v) (fun g => [(ha, .inl (X.2 1, n, .inr (.inl g)))]) 0 0 := by
  refine metV (by decide) (Nat.le_of_ble_eq_true rfl) ?_
  intro p e s m below meth c A ls hB hl
  obtain ⟨hx, hb, hr, hml, hown, hlk, hin, hg, hA, hD, hP, hE⟩ := hB
  have hS : va_S A s.heap s.heap [] := va_S.rf
  have hl : lv_has ls 5 [(0, .ref ha), (1, .long v)] := hl
  refine lv_iconst (v := nI 0) hx hb d_JA_fillL_0 (by decide) ?_
  refine lv_istore_n hx hb d_JA_fillL_1 rfl hl (by decide) rfl (fun ls hl => ?_)
  have hl : lv_has ls 5 [(3, .int (nI 0)), (0, .ref ha), (1, .long v)] := hl
  refine lv_aload_n hx hb d_JA_fillL_2 rfl (lv_at hl 1 rfl) ?_
  refine va_alen (v := nI n) hx hb hE.1 hP 0 1 rfl rfl rfl d_JA_fillL_3 ?_
  refine lv_istore hx hb d_JA_fillL_4 hl (by decide) rfl (fun ls hl => ?_)
  have hl : lv_has ls 5 [(4, .int (nI n)), (3, .int (nI 0)), (0, .ref ha), (1, .long v)] := hl
  refine wLoop (nL := 5) (σ := (Nat) × (Nat → Int64)) (fun x9 => (fun (i : Nat) (g : Nat → Int64) => n - i) x9.1 x9.2) (fun x9 => (fun (i : Nat) (g : Nat → Int64) => i ≤ n ∧ ∀ j, j < i → g j = v) x9.1 x9.2) (fun x9 => (fun (i : Nat) (g : Nat → Int64) => [(ha, .inl (X.2 1, n, .inr (.inl g)))]) x9.1 x9.2) (fun x9 => (fun (i : Nat) (g : Nat → Int64) => [(0, .ref ha), (1, .long v), (3, .int (nI i)), (4, .int (nI n))]) x9.1 x9.2) ?_ (0, f) (⟨by omega, fun j h => absurd h (by omega)⟩) hP hD hS (lv_sub hl [2, 3, 1, 0] rfl)
  rintro ⟨i, g⟩ H locs ls hJ hP hD hS hl ih6
  have hJ : i ≤ n ∧ ∀ j, j < i → g j = v := hJ
  obtain ⟨hi, hJ⟩ := hJ
  have hP : va_P X.1 classes [(ha, .inl (X.2 1, n, .inr (.inl g)))] H := hP
  have hD : va_D A [(ha, .inl (X.2 1, n, .inr (.inl g)))] := hD
  have hl : lv_has ls 5 [(0, .ref ha), (1, .long v), (3, .int (nI i)), (4, .int (nI n))] := hl
  refine lv_iload_n hx hb d_JA_fillL_6 rfl (lv_at hl 2 rfl) ?_
  refine lv_iload hx hb d_JA_fillL_7 (lv_at hl 3 rfl) ?_
  refine lv_icmp_ge (tgt := 22) hx hb d_JA_fillL_9 (by decide) (fun hc9 => ?_) (fun hc9 => ?_)
  · rw [nI_leI (by omega) (by omega)] at hc9
    exact retV (u := g) hx hb hr hlk hP hD hS (fun j h => hJ j (by omega)) d_JA_fillL_22
  · rw [nI_leI (by omega) (by omega)] at hc9
    refine lv_aload_n hx hb d_JA_fillL_12 rfl (lv_at hl 0 rfl) ?_
    refine lv_iload_n hx hb d_JA_fillL_13 rfl (lv_at hl 2 rfl) ?_
    refine lv_lload_n hx hb d_JA_fillL_14 rfl (lv_at hl 1 rfl) ?_
    refine va_last hx hb hE.1 hP hD hS 0 1 rfl rfl (vp_in_nI (by omega) (by omega)) d_JA_fillL_15 (fun H locs hP hD hS => ?_)
    have hP : va_P X.1 classes [(ha, .inl (X.2 1, n, .inr (.inl (vp_updL g (nI i).toNatClampNeg v))))] H := hP
    have hD : va_D A [(ha, .inl (X.2 1, n, .inr (.inl (vp_updL g (nI i).toNatClampNeg v))))] := hD
    rw [nI_clamp (show i < 2 ^ 31 by omega)] at hP hD
    generalize hg2 : vp_updL g i v = g2 at hP hD
    refine lv_iinc (k := 2) (v := nI (i + 1)) hx hb d_JA_fillL_16 hl rfl (nI_1 _) (by decide) rfl (fun ls hl => ?_)
    have hl : lv_has ls 5 [(3, .int (nI (i + 1))), (0, .ref ha), (1, .long v), (4, .int (nI n))] := hl
    refine lv_goto (tgt := 6) hx hb d_JA_fillL_19 (by decide) ?_
    exact ih6 (i + 1, g2) H locs ls (by (try dsimp only); omega) (⟨by (try dsimp only); omega, fillK hJ hg2⟩) hP hD hS (lv_sub hl [1, 2, 0, 3] rfl)
set_option maxHeartbeats 4000000 in
set_option maxRecDepth 100000 in
theorem k_JA_fillI (l : Launch) (X : Cx) (ha n : Nat) (hn : n < 2 ^ 31) (f : Nat → Int32) (v : Int32) : CtV l X (TY X) y_JA_fillI cw_JA_fillI ({ frames := 0, cells := 0, slots := 0, locals := 0 } : Room) [.ref ha, .int v] [(ha, .inl (X.2 0, n, .inl f))] (S := Nat → Int32) (fun g => ∀ j, j < n → g j = v) (fun g => [(ha, .inl (X.2 0, n, .inl g))]) 0 0 := by
  refine metV (by decide) (Nat.le_of_ble_eq_true rfl) ?_
  intro p e s m below meth c A ls hB hl
  obtain ⟨hx, hb, hr, hml, hown, hlk, hin, hg, hA, hD, hP, hE⟩ := hB
  have hS : va_S A s.heap s.heap [] := va_S.rf
  have hl : lv_has ls 4 [(0, .ref ha), (1, .int v)] := hl
  refine lv_iconst (v := nI 0) hx hb d_JA_fillI_0 (by decide) ?_
  refine lv_istore_n hx hb d_JA_fillI_1 rfl hl (by decide) rfl (fun ls hl => ?_)
  have hl : lv_has ls 4 [(2, .int (nI 0)), (0, .ref ha), (1, .int v)] := hl
  refine lv_aload_n hx hb d_JA_fillI_2 rfl (lv_at hl 1 rfl) ?_
  refine va_alen (v := nI n) hx hb hE.1 hP 0 0 rfl rfl rfl d_JA_fillI_3 ?_
  refine lv_istore_n hx hb d_JA_fillI_4 rfl hl (by decide) rfl (fun ls hl => ?_)
  have hl : lv_has ls 4 [(3, .int (nI n)), (2, .int (nI 0)), (0, .ref ha), (1, .int v)] := hl
  refine wLoop (nL := 4) (σ := (Nat) × (Nat → Int32)) (fun x9 => (fun (i : Nat) (g : Nat → Int32) => n - i) x9.1 x9.2) (fun x9 => (fun (i : Nat) (g : Nat → Int32) => i ≤ n ∧ ∀ j, j < i → g j = v) x9.1 x9.2) (fun x9 => (fun (i : Nat) (g : Nat → Int32) => [(ha, .inl (X.2 0, n, .inl g))]) x9.1 x9.2) (fun x9 => (fun (i : Nat) (g : Nat → Int32) => [(0, .ref ha), (1, .int v), (2, .int (nI i)), (3, .int (nI n))]) x9.1 x9.2) ?_ (0, f) (⟨by omega, fun j h => absurd h (by omega)⟩) hP hD hS (lv_sub hl [2, 3, 1, 0] rfl)
  rintro ⟨i, g⟩ H locs ls hJ hP hD hS hl ih5
  have hJ : i ≤ n ∧ ∀ j, j < i → g j = v := hJ
  obtain ⟨hi, hJ⟩ := hJ
  have hP : va_P X.1 classes [(ha, .inl (X.2 0, n, .inl g))] H := hP
  have hD : va_D A [(ha, .inl (X.2 0, n, .inl g))] := hD
  have hl : lv_has ls 4 [(0, .ref ha), (1, .int v), (2, .int (nI i)), (3, .int (nI n))] := hl
  refine lv_iload_n hx hb d_JA_fillI_5 rfl (lv_at hl 2 rfl) ?_
  refine lv_iload_n hx hb d_JA_fillI_6 rfl (lv_at hl 3 rfl) ?_
  refine lv_icmp_ge (tgt := 20) hx hb d_JA_fillI_7 (by decide) (fun hc7 => ?_) (fun hc7 => ?_)
  · rw [nI_leI (by omega) (by omega)] at hc7
    exact retV (u := g) hx hb hr hlk hP hD hS (fun j h => hJ j (by omega)) d_JA_fillI_20
  · rw [nI_leI (by omega) (by omega)] at hc7
    refine lv_aload_n hx hb d_JA_fillI_10 rfl (lv_at hl 0 rfl) ?_
    refine lv_iload_n hx hb d_JA_fillI_11 rfl (lv_at hl 2 rfl) ?_
    refine lv_iload_n hx hb d_JA_fillI_12 rfl (lv_at hl 1 rfl) ?_
    refine va_iast hx hb hE.1 hP hD hS 0 0 rfl rfl (vp_in_nI (by omega) (by omega)) d_JA_fillI_13 (fun H locs hP hD hS => ?_)
    have hP : va_P X.1 classes [(ha, .inl (X.2 0, n, .inl (upd g (nI i).toNatClampNeg v)))] H := hP
    have hD : va_D A [(ha, .inl (X.2 0, n, .inl (upd g (nI i).toNatClampNeg v)))] := hD
    rw [nI_clamp (show i < 2 ^ 31 by omega)] at hP hD
    generalize hg2 : upd g i v = g2 at hP hD
    refine lv_iinc (k := 2) (v := nI (i + 1)) hx hb d_JA_fillI_14 hl rfl (nI_1 _) (by decide) rfl (fun ls hl => ?_)
    have hl : lv_has ls 4 [(2, .int (nI (i + 1))), (0, .ref ha), (1, .int v), (3, .int (nI n))] := hl
    refine lv_goto (tgt := 5) hx hb d_JA_fillI_17 (by decide) ?_
    exact ih5 (i + 1, g2) H locs ls (by (try dsimp only); omega) (⟨by (try dsimp only); omega, fillKI hJ hg2⟩) hP hD hS (lv_sub hl [1, 2, 0, 3] rfl)
set_option maxHeartbeats 4000000 in
set_option maxRecDepth 100000 in
theorem k_NS_has (l : Launch) (X : Cx) (h0 hw : Nat) (f : Nat → Int64) (S : Nat → Bool) (hf : RS f S) (n : Nat) (hn : n < 4096) : CtI l X (TY X) y_NS_has cw_NS_has ({ frames := 0, cells := 0, slots := 0, locals := 0 } : Room) [.ref h0, .int (nI n)] [(h0, .inr (0, [.ref hw])), (hw, .inl (X.2 1, 64, .inr (.inl f)))] (S := Unit) (fun r _ => r = bI (S n)) (fun _ => [(h0, .inr (0, [.ref hw])), (hw, .inl (X.2 1, 64, .inr (.inl f)))]) 0 0 := by
  refine metI (by decide) (Nat.le_of_ble_eq_true rfl) ?_
  intro p e s m below meth c A ls hB hl
  obtain ⟨hx, hb, hr, hml, hown, hlk, hin, hg, hA, hD, hP, hE⟩ := hB
  have hS : va_S A s.heap s.heap [] := va_S.rf
  have hl : lv_has ls 2 [(0, .ref h0), (1, .int (nI n))] := hl
  refine lv_iload_n hx hb d_NS_has_0 rfl (lv_at hl 1 rfl) ?_
  refine lv_if_lt (tgt := 36) hx hb d_NS_has_1 (by decide) (fun hc1 => ?_) (fun hc1 => ?_)
  · exfalso; rw [n_lt0 (by omega)] at hc1; omega
  · rw [n_lt0 (by omega)] at hc1
    refine lv_iload_n hx hb d_NS_has_4 rfl (lv_at hl 1 rfl) ?_
    refine lv_sipush (v := nI 4096) hx hb d_NS_has_5 (by decide) ?_
    refine lv_icmp_ge (tgt := 36) hx hb d_NS_has_8 (by decide) (fun hc8 => ?_) (fun hc8 => ?_)
    · exfalso; rw [nI_leI (by omega) (by omega)] at hc8; omega
    · rw [nI_leI (by omega) (by omega)] at hc8
      refine lv_aload_n hx hb d_NS_has_11 rfl (lv_at hl 0 rfl) ?_
      refine va_get (D := X.1) (ci := 0) (v := .ref hw) (C := R_NS) (T := F_NS) (N := 1) hx hb hg in_NS hown hE.1 hP 0 rfl rfl 0 (by decide) (hg _ m_32) (fun _ h9 => h9) rfl d_NS_has_12 ?_
      refine lv_iload_n hx hb d_NS_has_15 rfl (lv_at hl 1 rfl) ?_
      refine lv_bipush (v := nI 6) hx hb d_NS_has_16 (by decide) ?_
      refine lv_ishr hx hb d_NS_has_18 ?_
      refine topI (shrN (by omega) (by omega)) ?_
      refine va_lald hx hb hE.1 hP 1 1 rfl rfl (vp_in_nI (by omega) (by decide)) d_NS_has_19 ?_
      refine topL (y := f (n / 2 ^ 6)) (by rw [nI_clamp (by omega)]) ?_
      refine lv_iload_n hx hb d_NS_has_20 rfl (lv_at hl 1 rfl) ?_
      refine lv_bipush (v := nI 63) hx hb d_NS_has_21 (by decide) ?_
      refine lv_iand hx hb d_NS_has_23 ?_
      refine topI (y := nI (n % 64)) (pk_andN (by omega) 6 (by decide)) ?_
      refine lv_lushr hx hb d_NS_has_24 rfl ?_
      refine lv_lconst (v := 1) hx hb d_NS_has_25 (by decide) ?_
      refine lv_land hx hb d_NS_has_26 ?_
      refine lv_lconst (v := 0) hx hb d_NS_has_27 (by decide) ?_
      refine W.lcmp hx hb d_NS_has_28 ?_
      refine lv_if_eq (tgt := 36) hx hb d_NS_has_29 (by decide) (fun hc29 => ?_) (fun hc29 => ?_)
      · rw [lcz] at hc29
        rw [bit_at _ (by omega)] at hc29
        have hv : S n = false := by rw [← hf.at hn]; exact hc29
        refine lv_iconst (v := nI 0) hx hb d_NS_has_36 (by decide) ?_
        exact retZ (u := ()) hx hb hr hlk (by decide) hP hD hS (by rw [hv]; rfl) d_NS_has_37
      · rw [lcz] at hc29
        rw [bit_at _ (by omega)] at hc29
        have hv : S n = true := by rw [← hf.at hn]; exact ts_nf hc29
        refine lv_iconst (v := nI 1) hx hb d_NS_has_32 (by decide) ?_
        refine lv_goto (tgt := 37) hx hb d_NS_has_33 (by decide) ?_
        exact retZ (u := ()) hx hb hr hlk (by decide) hP hD hS (by rw [hv]; rfl) d_NS_has_37
set_option maxHeartbeats 4000000 in
set_option maxRecDepth 100000 in
theorem k_NS_becomeAnd (l : Launch) (X : Cx) (h0 hw k0 kw : Nat) (f g : Nat → Int64) (S T : Nat → Bool) (hf : RS f S) (hgT : RS g T) : CtV l X (TY X) y_NS_becomeAnd cw_NS_becomeAnd ({ frames := 0, cells := 0, slots := 0, locals := 0 } : Room) [.ref h0, .ref k0] [(h0, .inr (0, [.ref hw])), (hw, .inl (X.2 1, 64, .inr (.inl f))), (k0, .inr (0, [.ref kw])), (kw, .inl (X.2 1, 64, .inr (.inl g)))] (S := Nat → Int64) (fun d => RS d (fun r => S r && T r)) (fun d => [(h0, .inr (0, [.ref hw])), (hw, .inl (X.2 1, 64, .inr (.inl d))), (k0, .inr (0, [.ref kw])), (kw, .inl (X.2 1, 64, .inr (.inl g)))]) 0 0 := by
  refine metV (by decide) (Nat.le_of_ble_eq_true rfl) ?_
  intro p e s m below meth c A ls hB hl
  obtain ⟨hx, hb, hr, hml, hown, hlk, hin, hg, hA, hD, hP, hE⟩ := hB
  have hS : va_S A s.heap s.heap [] := va_S.rf
  have hl : lv_has ls 3 [(0, .ref h0), (1, .ref k0)] := hl
  refine lv_iconst (v := nI 0) hx hb d_NS_becomeAnd_0 (by decide) ?_
  refine lv_istore_n hx hb d_NS_becomeAnd_1 rfl hl (by decide) rfl (fun ls hl => ?_)
  have hl : lv_has ls 3 [(2, .int (nI 0)), (0, .ref h0), (1, .ref k0)] := hl
  refine wLoop (nL := 3) (σ := (Nat) × (Nat → Int64)) (fun x9 => (fun (i : Nat) (d : Nat → Int64) => 64 - i) x9.1 x9.2) (fun x9 => (fun (i : Nat) (d : Nat → Int64) => i ≤ 64 ∧ ∀ w, w < 64 → d w = if w < i then f w &&& g w else f w) x9.1 x9.2) (fun x9 => (fun (i : Nat) (d : Nat → Int64) => [(h0, .inr (0, [.ref hw])), (hw, .inl (X.2 1, 64, .inr (.inl d))), (k0, .inr (0, [.ref kw])), (kw, .inl (X.2 1, 64, .inr (.inl g)))]) x9.1 x9.2) (fun x9 => (fun (i : Nat) (d : Nat → Int64) => [(0, .ref h0), (1, .ref k0), (2, .int (nI i))]) x9.1 x9.2) ?_ (0, f) (⟨by omega, fun w _ => by rw [if_neg (by omega)]⟩) hP hD hS (lv_sub hl [1, 2, 0] rfl)
  rintro ⟨i, d⟩ H locs ls hJ hP hD hS hl ih2
  have hJ : i ≤ 64 ∧ ∀ w, w < 64 → d w = if w < i then f w &&& g w else f w := hJ
  obtain ⟨hi, hd⟩ := hJ
  have hP : va_P X.1 classes [(h0, .inr (0, [.ref hw])), (hw, .inl (X.2 1, 64, .inr (.inl d))), (k0, .inr (0, [.ref kw])), (kw, .inl (X.2 1, 64, .inr (.inl g)))] H := hP
  have hD : va_D A [(h0, .inr (0, [.ref hw])), (hw, .inl (X.2 1, 64, .inr (.inl d))), (k0, .inr (0, [.ref kw])), (kw, .inl (X.2 1, 64, .inr (.inl g)))] := hD
  have hl : lv_has ls 3 [(0, .ref h0), (1, .ref k0), (2, .int (nI i))] := hl
  refine lv_iload_n hx hb d_NS_becomeAnd_2 rfl (lv_at hl 2 rfl) ?_
  refine lv_bipush (v := nI 64) hx hb d_NS_becomeAnd_3 (by decide) ?_
  refine lv_icmp_ge (tgt := 29) hx hb d_NS_becomeAnd_5 (by decide) (fun hc5 => ?_) (fun hc5 => ?_)
  · rw [nI_leI (by omega) (by omega)] at hc5
    exact retV (u := d) hx hb hr hlk hP hD hS (andDone hf hgT hd (by omega)) d_NS_becomeAnd_29
  · rw [nI_leI (by omega) (by omega)] at hc5
    refine lv_aload_n hx hb d_NS_becomeAnd_8 rfl (lv_at hl 0 rfl) ?_
    refine va_get (D := X.1) (ci := 0) (v := .ref hw) (C := R_NS) (T := F_NS) (N := 1) hx hb hg in_NS hown hE.1 hP 0 rfl rfl 0 (by decide) (hg _ m_32) (fun _ h9 => h9) rfl d_NS_becomeAnd_9 ?_
    refine lv_iload_n hx hb d_NS_becomeAnd_12 rfl (lv_at hl 2 rfl) ?_
    refine lv_dup2_11 hx hb d_NS_becomeAnd_13 rfl rfl ?_
    refine va_lald hx hb hE.1 hP 1 1 rfl rfl (vp_in_nI (by omega) (by decide)) d_NS_becomeAnd_14 ?_
    refine topL (y := d i) (by rw [nI_clamp (by omega)]) ?_
    refine lv_aload_n hx hb d_NS_becomeAnd_15 rfl (lv_at hl 1 rfl) ?_
    refine va_get (D := X.1) (ci := 0) (v := .ref kw) (C := R_NS) (T := F_NS) (N := 1) hx hb hg in_NS hown hE.1 hP 2 rfl rfl 0 (by decide) (hg _ m_32) (fun _ h9 => h9) rfl d_NS_becomeAnd_16 ?_
    refine lv_iload_n hx hb d_NS_becomeAnd_19 rfl (lv_at hl 2 rfl) ?_
    refine va_lald hx hb hE.1 hP 3 1 rfl rfl (vp_in_nI (by omega) (by decide)) d_NS_becomeAnd_20 ?_
    refine topL (y := g i) (by rw [nI_clamp (by omega)]) ?_
    refine lv_land hx hb d_NS_becomeAnd_21 ?_
    refine va_last hx hb hE.1 hP hD hS 1 1 rfl rfl (vp_in_nI (by omega) (by decide)) d_NS_becomeAnd_22 (fun H locs hP hD hS => ?_)
    have hP : va_P X.1 classes [(h0, .inr (0, [.ref hw])), (hw, .inl (X.2 1, 64, .inr (.inl (vp_updL d (nI i).toNatClampNeg ((d i) &&& (g i)))))), (k0, .inr (0, [.ref kw])), (kw, .inl (X.2 1, 64, .inr (.inl g)))] H := hP
    have hD : va_D A [(h0, .inr (0, [.ref hw])), (hw, .inl (X.2 1, 64, .inr (.inl (vp_updL d (nI i).toNatClampNeg ((d i) &&& (g i)))))), (k0, .inr (0, [.ref kw])), (kw, .inl (X.2 1, 64, .inr (.inl g)))] := hD
    rw [nI_clamp (show i < 2 ^ 31 by omega)] at hP hD
    generalize hd2 : vp_updL d i ((d i) &&& (g i)) = d2 at hP hD
    refine lv_iinc (k := 2) (v := nI (i + 1)) hx hb d_NS_becomeAnd_23 hl rfl (nI_1 _) (by decide) rfl (fun ls hl => ?_)
    have hl : lv_has ls 3 [(2, .int (nI (i + 1))), (0, .ref h0), (1, .ref k0)] := hl
    refine lv_goto (tgt := 2) hx hb d_NS_becomeAnd_26 (by decide) ?_
    exact ih2 (i + 1, d2) H locs ls (by (try dsimp only); omega) (⟨by (try dsimp only); omega, opK (fun a b => a &&& b) hd (by omega) hd2⟩) hP hD hS (lv_sub hl [1, 2, 0] rfl)
set_option maxHeartbeats 4000000 in
set_option maxRecDepth 100000 in
theorem k_NS_becomeOr (l : Launch) (X : Cx) (h0 hw k0 kw : Nat) (f g : Nat → Int64) (S T : Nat → Bool) (hf : RS f S) (hgT : RS g T) : CtV l X (TY X) y_NS_becomeOr cw_NS_becomeOr ({ frames := 0, cells := 0, slots := 0, locals := 0 } : Room) [.ref h0, .ref k0] [(h0, .inr (0, [.ref hw])), (hw, .inl (X.2 1, 64, .inr (.inl f))), (k0, .inr (0, [.ref kw])), (kw, .inl (X.2 1, 64, .inr (.inl g)))] (S := Nat → Int64) (fun d => RS d (fun r => S r || T r)) (fun d => [(h0, .inr (0, [.ref hw])), (hw, .inl (X.2 1, 64, .inr (.inl d))), (k0, .inr (0, [.ref kw])), (kw, .inl (X.2 1, 64, .inr (.inl g)))]) 0 0 := by
  refine metV (by decide) (Nat.le_of_ble_eq_true rfl) ?_
  intro p e s m below meth c A ls hB hl
  obtain ⟨hx, hb, hr, hml, hown, hlk, hin, hg, hA, hD, hP, hE⟩ := hB
  have hS : va_S A s.heap s.heap [] := va_S.rf
  have hl : lv_has ls 3 [(0, .ref h0), (1, .ref k0)] := hl
  refine lv_iconst (v := nI 0) hx hb d_NS_becomeOr_0 (by decide) ?_
  refine lv_istore_n hx hb d_NS_becomeOr_1 rfl hl (by decide) rfl (fun ls hl => ?_)
  have hl : lv_has ls 3 [(2, .int (nI 0)), (0, .ref h0), (1, .ref k0)] := hl
  refine wLoop (nL := 3) (σ := (Nat) × (Nat → Int64)) (fun x9 => (fun (i : Nat) (d : Nat → Int64) => 64 - i) x9.1 x9.2) (fun x9 => (fun (i : Nat) (d : Nat → Int64) => i ≤ 64 ∧ ∀ w, w < 64 → d w = if w < i then f w ||| g w else f w) x9.1 x9.2) (fun x9 => (fun (i : Nat) (d : Nat → Int64) => [(h0, .inr (0, [.ref hw])), (hw, .inl (X.2 1, 64, .inr (.inl d))), (k0, .inr (0, [.ref kw])), (kw, .inl (X.2 1, 64, .inr (.inl g)))]) x9.1 x9.2) (fun x9 => (fun (i : Nat) (d : Nat → Int64) => [(0, .ref h0), (1, .ref k0), (2, .int (nI i))]) x9.1 x9.2) ?_ (0, f) (⟨by omega, fun w _ => by rw [if_neg (by omega)]⟩) hP hD hS (lv_sub hl [1, 2, 0] rfl)
  rintro ⟨i, d⟩ H locs ls hJ hP hD hS hl ih2
  have hJ : i ≤ 64 ∧ ∀ w, w < 64 → d w = if w < i then f w ||| g w else f w := hJ
  obtain ⟨hi, hd⟩ := hJ
  have hP : va_P X.1 classes [(h0, .inr (0, [.ref hw])), (hw, .inl (X.2 1, 64, .inr (.inl d))), (k0, .inr (0, [.ref kw])), (kw, .inl (X.2 1, 64, .inr (.inl g)))] H := hP
  have hD : va_D A [(h0, .inr (0, [.ref hw])), (hw, .inl (X.2 1, 64, .inr (.inl d))), (k0, .inr (0, [.ref kw])), (kw, .inl (X.2 1, 64, .inr (.inl g)))] := hD
  have hl : lv_has ls 3 [(0, .ref h0), (1, .ref k0), (2, .int (nI i))] := hl
  refine lv_iload_n hx hb d_NS_becomeOr_2 rfl (lv_at hl 2 rfl) ?_
  refine lv_bipush (v := nI 64) hx hb d_NS_becomeOr_3 (by decide) ?_
  refine lv_icmp_ge (tgt := 29) hx hb d_NS_becomeOr_5 (by decide) (fun hc5 => ?_) (fun hc5 => ?_)
  · rw [nI_leI (by omega) (by omega)] at hc5
    exact retV (u := d) hx hb hr hlk hP hD hS (orDone hf hgT hd (by omega)) d_NS_becomeOr_29
  · rw [nI_leI (by omega) (by omega)] at hc5
    refine lv_aload_n hx hb d_NS_becomeOr_8 rfl (lv_at hl 0 rfl) ?_
    refine va_get (D := X.1) (ci := 0) (v := .ref hw) (C := R_NS) (T := F_NS) (N := 1) hx hb hg in_NS hown hE.1 hP 0 rfl rfl 0 (by decide) (hg _ m_32) (fun _ h9 => h9) rfl d_NS_becomeOr_9 ?_
    refine lv_iload_n hx hb d_NS_becomeOr_12 rfl (lv_at hl 2 rfl) ?_
    refine lv_dup2_11 hx hb d_NS_becomeOr_13 rfl rfl ?_
    refine va_lald hx hb hE.1 hP 1 1 rfl rfl (vp_in_nI (by omega) (by decide)) d_NS_becomeOr_14 ?_
    refine topL (y := d i) (by rw [nI_clamp (by omega)]) ?_
    refine lv_aload_n hx hb d_NS_becomeOr_15 rfl (lv_at hl 1 rfl) ?_
    refine va_get (D := X.1) (ci := 0) (v := .ref kw) (C := R_NS) (T := F_NS) (N := 1) hx hb hg in_NS hown hE.1 hP 2 rfl rfl 0 (by decide) (hg _ m_32) (fun _ h9 => h9) rfl d_NS_becomeOr_16 ?_
    refine lv_iload_n hx hb d_NS_becomeOr_19 rfl (lv_at hl 2 rfl) ?_
    refine va_lald hx hb hE.1 hP 3 1 rfl rfl (vp_in_nI (by omega) (by decide)) d_NS_becomeOr_20 ?_
    refine topL (y := g i) (by rw [nI_clamp (by omega)]) ?_
    refine lv_lor hx hb d_NS_becomeOr_21 ?_
    refine va_last hx hb hE.1 hP hD hS 1 1 rfl rfl (vp_in_nI (by omega) (by decide)) d_NS_becomeOr_22 (fun H locs hP hD hS => ?_)
    have hP : va_P X.1 classes [(h0, .inr (0, [.ref hw])), (hw, .inl (X.2 1, 64, .inr (.inl (vp_updL d (nI i).toNatClampNeg ((d i) ||| (g i)))))), (k0, .inr (0, [.ref kw])), (kw, .inl (X.2 1, 64, .inr (.inl g)))] H := hP
    have hD : va_D A [(h0, .inr (0, [.ref hw])), (hw, .inl (X.2 1, 64, .inr (.inl (vp_updL d (nI i).toNatClampNeg ((d i) ||| (g i)))))), (k0, .inr (0, [.ref kw])), (kw, .inl (X.2 1, 64, .inr (.inl g)))] := hD
    rw [nI_clamp (show i < 2 ^ 31 by omega)] at hP hD
    generalize hd2 : vp_updL d i ((d i) ||| (g i)) = d2 at hP hD
    refine lv_iinc (k := 2) (v := nI (i + 1)) hx hb d_NS_becomeOr_23 hl rfl (nI_1 _) (by decide) rfl (fun ls hl => ?_)
    have hl : lv_has ls 3 [(2, .int (nI (i + 1))), (0, .ref h0), (1, .ref k0)] := hl
    refine lv_goto (tgt := 2) hx hb d_NS_becomeOr_26 (by decide) ?_
    exact ih2 (i + 1, d2) H locs ls (by (try dsimp only); omega) (⟨by (try dsimp only); omega, opK (fun a b => a ||| b) hd (by omega) hd2⟩) hP hD hS (lv_sub hl [1, 2, 0] rfl)
set_option maxHeartbeats 4000000 in
set_option maxRecDepth 100000 in
theorem k_NS_becomeNot (l : Launch) (X : Cx) (h0 hw : Nat) (f : Nat → Int64) (S : Nat → Bool) (hf : RS f S) : CtV l X (TY X) y_NS_becomeNot cw_NS_becomeNot ({ frames := 0, cells := 0, slots := 0, locals := 0 } : Room) [.ref h0] [(h0, .inr (0, [.ref hw])), (hw, .inl (X.2 1, 64, .inr (.inl f)))] (S := Nat → Int64) (fun d => RS d (fun r => !(S r))) (fun d => [(h0, .inr (0, [.ref hw])), (hw, .inl (X.2 1, 64, .inr (.inl d)))]) 0 0 := by
  refine metV (by decide) (Nat.le_of_ble_eq_true rfl) ?_
  intro p e s m below meth c A ls hB hl
  obtain ⟨hx, hb, hr, hml, hown, hlk, hin, hg, hA, hD, hP, hE⟩ := hB
  have hS : va_S A s.heap s.heap [] := va_S.rf
  have hl : lv_has ls 2 [(0, .ref h0)] := hl
  refine lv_iconst (v := nI 0) hx hb d_NS_becomeNot_0 (by decide) ?_
  refine lv_istore_n hx hb d_NS_becomeNot_1 rfl hl (by decide) rfl (fun ls hl => ?_)
  have hl : lv_has ls 2 [(1, .int (nI 0)), (0, .ref h0)] := hl
  refine wLoop (nL := 2) (σ := (Nat) × (Nat → Int64)) (fun x9 => (fun (i : Nat) (d : Nat → Int64) => 64 - i) x9.1 x9.2) (fun x9 => (fun (i : Nat) (d : Nat → Int64) => i ≤ 64 ∧ ∀ w, w < 64 → d w = if w < i then f w ^^^ (-1) else f w) x9.1 x9.2) (fun x9 => (fun (i : Nat) (d : Nat → Int64) => [(h0, .inr (0, [.ref hw])), (hw, .inl (X.2 1, 64, .inr (.inl d)))]) x9.1 x9.2) (fun x9 => (fun (i : Nat) (d : Nat → Int64) => [(0, .ref h0), (1, .int (nI i))]) x9.1 x9.2) ?_ (0, f) (⟨by omega, fun w _ => by rw [if_neg (by omega)]⟩) hP hD hS (lv_sub hl [1, 0] rfl)
  rintro ⟨i, d⟩ H locs ls hJ hP hD hS hl ih2
  have hJ : i ≤ 64 ∧ ∀ w, w < 64 → d w = if w < i then f w ^^^ (-1) else f w := hJ
  obtain ⟨hi, hd⟩ := hJ
  have hP : va_P X.1 classes [(h0, .inr (0, [.ref hw])), (hw, .inl (X.2 1, 64, .inr (.inl d)))] H := hP
  have hD : va_D A [(h0, .inr (0, [.ref hw])), (hw, .inl (X.2 1, 64, .inr (.inl d)))] := hD
  have hl : lv_has ls 2 [(0, .ref h0), (1, .int (nI i))] := hl
  refine lv_iload_n hx hb d_NS_becomeNot_2 rfl (lv_at hl 1 rfl) ?_
  refine lv_bipush (v := nI 64) hx hb d_NS_becomeNot_3 (by decide) ?_
  refine lv_icmp_ge (tgt := 30) hx hb d_NS_becomeNot_5 (by decide) (fun hc5 => ?_) (fun hc5 => ?_)
  · rw [nI_leI (by omega) (by omega)] at hc5
    exact retV (u := d) hx hb hr hlk hP hD hS (notDone hf hd (by omega)) d_NS_becomeNot_30
  · rw [nI_leI (by omega) (by omega)] at hc5
    refine lv_aload_n hx hb d_NS_becomeNot_8 rfl (lv_at hl 0 rfl) ?_
    refine va_get (D := X.1) (ci := 0) (v := .ref hw) (C := R_NS) (T := F_NS) (N := 1) hx hb hg in_NS hown hE.1 hP 0 rfl rfl 0 (by decide) (hg _ m_32) (fun _ h9 => h9) rfl d_NS_becomeNot_9 ?_
    refine lv_iload_n hx hb d_NS_becomeNot_12 rfl (lv_at hl 1 rfl) ?_
    refine lv_aload_n hx hb d_NS_becomeNot_13 rfl (lv_at hl 0 rfl) ?_
    refine va_get (D := X.1) (ci := 0) (v := .ref hw) (C := R_NS) (T := F_NS) (N := 1) hx hb hg in_NS hown hE.1 hP 0 rfl rfl 0 (by decide) (hg _ m_32) (fun _ h9 => h9) rfl d_NS_becomeNot_14 ?_
    refine lv_iload_n hx hb d_NS_becomeNot_17 rfl (lv_at hl 1 rfl) ?_
    refine va_lald hx hb hE.1 hP 1 1 rfl rfl (vp_in_nI (by omega) (by decide)) d_NS_becomeNot_18 ?_
    refine topL (y := d i) (by rw [nI_clamp (by omega)]) ?_
    refine lv_ldc2 hx hb hown (hg _ m_46) d_NS_becomeNot_19 ?_
    refine lv_lxor hx hb d_NS_becomeNot_22 ?_
    refine va_last hx hb hE.1 hP hD hS 1 1 rfl rfl (vp_in_nI (by omega) (by decide)) d_NS_becomeNot_23 (fun H locs hP hD hS => ?_)
    have hP : va_P X.1 classes [(h0, .inr (0, [.ref hw])), (hw, .inl (X.2 1, 64, .inr (.inl (vp_updL d (nI i).toNatClampNeg ((d i) ^^^ ((-1)))))))] H := hP
    have hD : va_D A [(h0, .inr (0, [.ref hw])), (hw, .inl (X.2 1, 64, .inr (.inl (vp_updL d (nI i).toNatClampNeg ((d i) ^^^ ((-1)))))))] := hD
    rw [nI_clamp (show i < 2 ^ 31 by omega)] at hP hD
    generalize hd2 : vp_updL d i ((d i) ^^^ ((-1))) = d2 at hP hD
    refine lv_iinc (k := 1) (v := nI (i + 1)) hx hb d_NS_becomeNot_24 hl rfl (nI_1 _) (by decide) rfl (fun ls hl => ?_)
    have hl : lv_has ls 2 [(1, .int (nI (i + 1))), (0, .ref h0)] := hl
    refine lv_goto (tgt := 2) hx hb d_NS_becomeNot_27 (by decide) ?_
    exact ih2 (i + 1, d2) H locs ls (by (try dsimp only); omega) (⟨by (try dsimp only); omega, opK (fun a b => a ^^^ b) (g := fun _ => -1) hd (by omega) hd2⟩) hP hD hS (lv_sub hl [1, 0] rfl)
set_option maxHeartbeats 4000000 in
set_option maxRecDepth 100000 in
theorem k_NS_becomeAll (l : Launch) (X : Cx) (h0 hw : Nat) (f : Nat → Int64) : CtV l X (TY X) y_NS_becomeAll cw_NS_becomeAll ({ frames := 1, cells := 0, slots := 0, locals := 24 } : Room) [.ref h0] [(h0, .inr (0, [.ref hw])), (hw, .inl (X.2 1, 64, .inr (.inl f)))] (S := Nat → Int64) (fun d => RS d (fun _ => true)) (fun d => [(h0, .inr (0, [.ref hw])), (hw, .inl (X.2 1, 64, .inr (.inl d)))]) 0 0 := by
  refine metV (by decide) (Nat.le_of_ble_eq_true rfl) ?_
  intro p e s m below meth c A ls hB hl
  obtain ⟨hx, hb, hr, hml, hown, hlk, hin, hg, hA, hD, hP, hE⟩ := hB
  have hS : va_S A s.heap s.heap [] := va_S.rf
  have hl : lv_has ls 1 [(0, .ref h0)] := hl
  refine lv_aload_n hx hb d_NS_becomeAll_0 rfl (lv_at hl 0 rfl) ?_
  refine va_get (D := X.1) (ci := 0) (v := .ref hw) (C := R_NS) (T := F_NS) (N := 1) hx hb hg in_NS hown hE.1 hP 0 rfl rfl 0 (by decide) (hg _ m_32) (fun _ h9 => h9) rfl d_NS_becomeAll_1 ?_
  refine lv_ldc2 hx hb hown (hg _ m_46) d_NS_becomeAll_4 ?_
  refine clSV (n := 2) (As := [.ref hw, .long ((-1))]) (rest := []) (wc := [(hw, .inl (X.2 1, 64, .inr (.inl f)))]) (wr := [(h0, .inr (0, [.ref hw]))]) hx hb hml hown hg hE hA hP hD hS (k_JA_fillL l X hw 64 (by decide) f (-1)) (gcons m_47 (gcons m_48 (gcons m_4 (gcons m_49 gG)))) (by decide +kernel) [1] [0] rfl rfl (by decide) (by decide) (by decide) rfl hl.1 (Nat.le_of_ble_eq_true rfl) rfl d_NS_becomeAll_7 ⟨rfl, rfl, Nat.le_of_ble_eq_true rfl, Nat.le_of_ble_eq_true rfl⟩ (⟨Nat.le_of_ble_eq_true rfl, Nat.le_of_ble_eq_true rfl⟩) (fun d H locs hd hP hD hS => ?_)
  have hP : va_P X.1 classes [(h0, .inr (0, [.ref hw])), (hw, .inl (X.2 1, 64, .inr (.inl d)))] H := hP
  have hD : va_D A [(h0, .inr (0, [.ref hw])), (hw, .inl (X.2 1, 64, .inr (.inl d)))] := hD
  exact retV (u := d) hx hb hr hlk hP hD hS (allDone hd) d_NS_becomeAll_10
set_option maxHeartbeats 4000000 in
set_option maxRecDepth 100000 in
theorem k_NS_wordOf (l : Launch) (X : Cx) (q v w : Nat) (hq : q < 6) (hv : v < 4) (hw : w < 64) : CtL l X (TY X) y_NS_wordOf cw_NS_wordOf ({ frames := 1, cells := 0, slots := 0, locals := 21 } : Room) [.int (nI q), .int (nI v), .int (nI w)] [] (S := Unit) (fun r _ => ∀ t, t < 64 → bL r t = (dg (64 * w + t) q == v)) (fun _ => []) 0 0 := by
  refine metL (by decide) (Nat.le_of_ble_eq_true rfl) ?_
  intro p e s m below meth c A ls hB hl
  obtain ⟨hx, hb, hr, hml, hown, hlk, hin, hg, hA, hD, hP, hE⟩ := hB
  have hS : va_S A s.heap s.heap [] := va_S.rf
  have hl : lv_has ls 3 [(0, .int (nI q)), (1, .int (nI v)), (2, .int (nI w))] := hl
  obtain ⟨hK, hNw, t1, t2, hZ1, hT1, hZ2, hT2⟩ := id hE
  refine lv_iload_n hx hb d_NS_wordOf_0 rfl (lv_at hl 0 rfl) ?_
  refine lv_iconst (v := nI 3) hx hb d_NS_wordOf_1 (by decide) ?_
  refine lv_icmp_ge (tgt := 17) hx hb d_NS_wordOf_2 (by decide) (fun hc2 => ?_) (fun hc2 => ?_)
  · rw [nI_leI (by omega) (by omega)] at hc2
    refine lv_iload_n hx hb d_NS_wordOf_17 rfl (lv_at hl 0 rfl) ?_
    refine lv_iconst (v := nI 3) hx hb d_NS_wordOf_18 (by decide) ?_
    refine lv_isub hx hb d_NS_wordOf_19 ?_
    refine topI (pk_sub (by omega)) ?_
    refine lv_iload_n hx hb d_NS_wordOf_20 rfl (lv_at hl 2 rfl) ?_
    refine clSNI (n := 2) (As := [.int (nI (q - 3)), .int (nI w)]) (rest := []) (wc := []) (wr := []) hx hb hml hown hg hE hA hP hD hS (k_CR_valueOf l X (q - 3) w (by omega) (by omega)) m_65 m_64 m_1 (nw_2 hE.2.1) (by decide +kernel) [] [] rfl rfl (by decide) (by decide) (by decide) rfl hl.1 (Nat.le_of_ble_eq_true rfl) rfl d_NS_wordOf_21 ⟨rfl, rfl, Nat.le_of_ble_eq_true rfl, Nat.le_of_ble_eq_true rfl⟩ (⟨Nat.le_of_ble_eq_true rfl, Nat.le_of_ble_eq_true rfl⟩) (fun r21 u21 H locs hq21 hP hD hS => ?_)
    have hq21 : r21 = nI (dg w (q - 3)) := hq21
    subst hq21
    have hP : va_P X.1 classes [] H := hP
    have hD : va_D A [] := hD
    refine lv_iload_n hx hb d_NS_wordOf_24 rfl (lv_at hl 1 rfl) ?_
    refine lv_icmp_ne (tgt := 34) hx hb d_NS_wordOf_25 (by decide) (fun hc25 => ?_) (fun hc25 => ?_)
    · rw [nI_eq (dg_lt31 _ _) (by omega)] at hc25
      refine lv_lconst (v := 0) hx hb d_NS_wordOf_34 (by decide) ?_
      exact retL (u := ()) hx hb hr hlk hP hD hS (by first | exact wordHi1 (by omega) hc25 | exact wordHi0 (by omega) hc25) d_NS_wordOf_35
    · rw [nI_eq (dg_lt31 _ _) (by omega)] at hc25
      refine lv_ldc2 hx hb hown (hg _ m_46) d_NS_wordOf_28 ?_
      refine lv_goto (tgt := 35) hx hb d_NS_wordOf_31 (by decide) ?_
      exact retL (u := ()) hx hb hr hlk hP hD hS (by first | exact wordHi1 (by omega) hc25 | exact wordHi0 (by omega) hc25) d_NS_wordOf_35
  · rw [nI_leI (by omega) (by omega)] at hc2
    refine va_getsN hx hb hZ1 hS hown (va_Nw.use rfl (nw_1 hNw)) (fun _ h9 => h9) d_NS_wordOf_5 ?_
    refine lv_iload_n hx hb d_NS_wordOf_8 rfl (lv_at hl 0 rfl) ?_
    refine va_tl (v := .long (zw q)) hx hb hT1 hS (vp_in_nI (by omega) (by decide)) (by show Value.long (zw (nI q).toNatClampNeg) = _; rw [nI_clamp (by omega)]) d_NS_wordOf_9 ?_
    refine lv_iload_n hx hb d_NS_wordOf_10 rfl (lv_at hl 1 rfl) ?_
    refine lv_iconst (v := nI 2) hx hb d_NS_wordOf_11 (by decide) ?_
    refine lv_iload_n hx hb d_NS_wordOf_12 rfl (lv_at hl 0 rfl) ?_
    refine lv_imul hx hb d_NS_wordOf_13 ?_
    refine topI (pk_mul _ _) ?_
    refine lv_ishl hx hb d_NS_wordOf_14 ?_
    refine topI (shlN (by omega) (v4q hv (by omega))) ?_
    refine lv_lshl hx hb d_NS_wordOf_15 rfl ?_
    exact retL (u := ()) hx hb hr hlk hP hD hS (wordLo (by omega) hv) d_NS_wordOf_16
set_option maxHeartbeats 4000000 in
set_option maxRecDepth 100000 in
theorem k_NS_becomeIs (l : Launch) (X : Cx) (h0 hw : Nat) (f : Nat → Int64) (q v : Nat) (hq : q < 6) (hv : v < 4) : CtV l X (TY X) y_NS_becomeIs cw_NS_becomeIs ({ frames := 2, cells := 0, slots := 0, locals := 43 } : Room) [.ref h0, .int (nI q), .int (nI v)] [(h0, .inr (0, [.ref hw])), (hw, .inl (X.2 1, 64, .inr (.inl f)))] (S := Nat → Int64) (fun d => RS d (fun r => dg r q == v)) (fun d => [(h0, .inr (0, [.ref hw])), (hw, .inl (X.2 1, 64, .inr (.inl d)))]) 0 0 := by
  refine metV (by decide) (Nat.le_of_ble_eq_true rfl) ?_
  intro p e s m below meth c A ls hB hl
  obtain ⟨hx, hb, hr, hml, hown, hlk, hin, hg, hA, hD, hP, hE⟩ := hB
  have hS : va_S A s.heap s.heap [] := va_S.rf
  have hl : lv_has ls 4 [(0, .ref h0), (1, .int (nI q)), (2, .int (nI v))] := hl
  refine lv_iconst (v := nI 0) hx hb d_NS_becomeIs_0 (by decide) ?_
  refine lv_istore_n hx hb d_NS_becomeIs_1 rfl hl (by decide) rfl (fun ls hl => ?_)
  have hl : lv_has ls 4 [(3, .int (nI 0)), (0, .ref h0), (1, .int (nI q)), (2, .int (nI v))] := hl
  refine wLoop (nL := 4) (σ := (Nat) × (Nat → Int64)) (fun x9 => (fun (i : Nat) (d : Nat → Int64) => 64 - i) x9.1 x9.2) (fun x9 => (fun (i : Nat) (d : Nat → Int64) => i ≤ 64 ∧ ∀ w, w < i → ∀ t, t < 64 → bL (d w) t = (dg (64 * w + t) q == v)) x9.1 x9.2) (fun x9 => (fun (i : Nat) (d : Nat → Int64) => [(h0, .inr (0, [.ref hw])), (hw, .inl (X.2 1, 64, .inr (.inl d)))]) x9.1 x9.2) (fun x9 => (fun (i : Nat) (d : Nat → Int64) => [(0, .ref h0), (1, .int (nI q)), (2, .int (nI v)), (3, .int (nI i))]) x9.1 x9.2) ?_ (0, f) (⟨by omega, fun w h => absurd h (by omega)⟩) hP hD hS (lv_sub hl [1, 2, 3, 0] rfl)
  rintro ⟨i, d⟩ H locs ls hJ hP hD hS hl ih2
  have hJ : i ≤ 64 ∧ ∀ w, w < i → ∀ t, t < 64 → bL (d w) t = (dg (64 * w + t) q == v) := hJ
  obtain ⟨hi, hd⟩ := hJ
  have hP : va_P X.1 classes [(h0, .inr (0, [.ref hw])), (hw, .inl (X.2 1, 64, .inr (.inl d)))] H := hP
  have hD : va_D A [(h0, .inr (0, [.ref hw])), (hw, .inl (X.2 1, 64, .inr (.inl d)))] := hD
  have hl : lv_has ls 4 [(0, .ref h0), (1, .int (nI q)), (2, .int (nI v)), (3, .int (nI i))] := hl
  refine lv_iload_n hx hb d_NS_becomeIs_2 rfl (lv_at hl 3 rfl) ?_
  refine lv_bipush (v := nI 64) hx hb d_NS_becomeIs_3 (by decide) ?_
  refine lv_icmp_ge (tgt := 26) hx hb d_NS_becomeIs_5 (by decide) (fun hc5 => ?_) (fun hc5 => ?_)
  · rw [nI_leI (by omega) (by omega)] at hc5
    exact retV (u := d) hx hb hr hlk hP hD hS (fun w hw t ht => hd w (by omega) t ht) d_NS_becomeIs_26
  · rw [nI_leI (by omega) (by omega)] at hc5
    refine lv_aload_n hx hb d_NS_becomeIs_8 rfl (lv_at hl 0 rfl) ?_
    refine va_get (D := X.1) (ci := 0) (v := .ref hw) (C := R_NS) (T := F_NS) (N := 1) hx hb hg in_NS hown hE.1 hP 0 rfl rfl 0 (by decide) (hg _ m_32) (fun _ h9 => h9) rfl d_NS_becomeIs_9 ?_
    refine lv_iload_n hx hb d_NS_becomeIs_12 rfl (lv_at hl 3 rfl) ?_
    refine lv_iload_n hx hb d_NS_becomeIs_13 rfl (lv_at hl 1 rfl) ?_
    refine lv_iload_n hx hb d_NS_becomeIs_14 rfl (lv_at hl 2 rfl) ?_
    refine lv_iload_n hx hb d_NS_becomeIs_15 rfl (lv_at hl 3 rfl) ?_
    refine clSL (n := 3) (As := [.int (nI q), .int (nI v), .int (nI i)]) (rest := [.int (nI i), .ref hw]) (wc := []) (wr := [(h0, .inr (0, [.ref hw])), (hw, .inl (X.2 1, 64, .inr (.inl d)))]) hx hb hml hown hg hE hA hP hD hS (k_NS_wordOf l X q v i hq hv (by omega)) (gcons m_241 (gcons m_59 (gcons m_3 (gcons m_60 gG)))) (by decide +kernel) [] [0, 1] rfl rfl (by decide) (by decide) (by decide) rfl hl.1 (Nat.le_of_ble_eq_true rfl) rfl d_NS_becomeIs_16 ⟨rfl, rfl, Nat.le_of_ble_eq_true rfl, Nat.le_of_ble_eq_true rfl⟩ (⟨Nat.le_of_ble_eq_true rfl, Nat.le_of_ble_eq_true rfl⟩) (fun r16 u16 H locs hq16 hP hD hS => ?_)
    have hP : va_P X.1 classes [(h0, .inr (0, [.ref hw])), (hw, .inl (X.2 1, 64, .inr (.inl d)))] H := hP
    have hD : va_D A [(h0, .inr (0, [.ref hw])), (hw, .inl (X.2 1, 64, .inr (.inl d)))] := hD
    refine va_last hx hb hE.1 hP hD hS 1 1 rfl rfl (vp_in_nI (by omega) (by decide)) d_NS_becomeIs_19 (fun H locs hP hD hS => ?_)
    have hP : va_P X.1 classes [(h0, .inr (0, [.ref hw])), (hw, .inl (X.2 1, 64, .inr (.inl (vp_updL d (nI i).toNatClampNeg r16))))] H := hP
    have hD : va_D A [(h0, .inr (0, [.ref hw])), (hw, .inl (X.2 1, 64, .inr (.inl (vp_updL d (nI i).toNatClampNeg r16))))] := hD
    rw [nI_clamp (show i < 2 ^ 31 by omega)] at hP hD
    generalize hd2 : vp_updL d i r16 = d2 at hP hD
    refine lv_iinc (k := 3) (v := nI (i + 1)) hx hb d_NS_becomeIs_20 hl rfl (nI_1 _) (by decide) rfl (fun ls hl => ?_)
    have hl : lv_has ls 4 [(3, .int (nI (i + 1))), (0, .ref h0), (1, .int (nI q)), (2, .int (nI v))] := hl
    refine lv_goto (tgt := 2) hx hb d_NS_becomeIs_23 (by decide) ?_
    exact ih2 (i + 1, d2) H locs ls (by (try dsimp only); omega) (⟨by (try dsimp only); omega, becK hd hq16 hd2⟩) hP hD hS (lv_sub hl [1, 2, 3, 0] rfl)
set_option maxHeartbeats 4000000 in
set_option maxRecDepth 100000 in
theorem k_NS_inWordWith (l : Launch) (X : Cx) (n b : Nat) (hn : n < 64) (hb0 : b < 4096) : CtL l X (TY X) y_NS_inWordWith cw_NS_inWordWith ({ frames := 1, cells := 0, slots := 0, locals := 21 } : Room) [.int (nI (fo n 6)), .int (nI b)] [] (S := Unit) (fun r _ => ∀ t, t < 64 → bL r t = inW n b t 3) (fun _ => []) 0 0 := by
  refine metL (by decide) (Nat.le_of_ble_eq_true rfl) ?_
  intro p e s m below meth c A ls hB hl
  obtain ⟨hx, hb, hr, hml, hown, hlk, hin, hg, hA, hD, hP, hE⟩ := hB
  have hS : va_S A s.heap s.heap [] := va_S.rf
  have hl : lv_has ls 5 [(0, .int (nI (fo n 6))), (1, .int (nI b))] := hl
  obtain ⟨hK, hNw, t1, t2, hZ1, hT1, hZ2, hT2⟩ := id hE
  have hfo := fo_lt n 6 (by omega)
  refine lv_ldc2 hx hb hown (hg _ m_46) d_NS_inWordWith_0 ?_
  refine lv_lstore_n hx hb d_NS_inWordWith_3 rfl hl (by decide) rfl (fun ls hl => ?_)
  have hl : lv_has ls 5 [(2, .long ((-1))), (0, .int (nI (fo n 6))), (1, .int (nI b))] := hl
  refine lv_iconst (v := nI 0) hx hb d_NS_inWordWith_4 (by decide) ?_
  refine lv_istore hx hb d_NS_inWordWith_5 hl (by decide) rfl (fun ls hl => ?_)
  have hl : lv_has ls 5 [(4, .int (nI 0)), (2, .long ((-1))), (0, .int (nI (fo n 6))), (1, .int (nI b))] := hl
  refine wLoop (nL := 5) (σ := (Nat) × (Int64)) (fun x9 => (fun (i : Nat) (m0 : Int64) => 3 - i) x9.1 x9.2) (fun x9 => (fun (i : Nat) (m0 : Int64) => i ≤ 3 ∧ ∀ t, t < 64 → bL m0 t = inW n b t i) x9.1 x9.2) (fun x9 => (fun (i : Nat) (m0 : Int64) => []) x9.1 x9.2) (fun x9 => (fun (i : Nat) (m0 : Int64) => [(0, .int (nI (fo n 6))), (1, .int (nI b)), (2, .long m0), (4, .int (nI i))]) x9.1 x9.2) ?_ (0, -1) (⟨by omega, fun t ht => bL_m1 ht⟩) hP hD hS (lv_sub hl [2, 3, 1, 0] rfl)
  rintro ⟨i, m0⟩ H locs ls hJ hP hD hS hl ih7
  have hJ : i ≤ 3 ∧ ∀ t, t < 64 → bL m0 t = inW n b t i := hJ
  obtain ⟨hi, hm⟩ := hJ
  have hP : va_P X.1 classes [] H := hP
  have hD : va_D A [] := hD
  have hl : lv_has ls 5 [(0, .int (nI (fo n 6))), (1, .int (nI b)), (2, .long m0), (4, .int (nI i))] := hl
  refine lv_iload hx hb d_NS_inWordWith_7 (lv_at hl 3 rfl) ?_
  refine lv_iconst (v := nI 3) hx hb d_NS_inWordWith_9 (by decide) ?_
  refine lv_icmp_ge (tgt := 49) hx hb d_NS_inWordWith_10 (by decide) (fun hc10 => ?_) (fun hc10 => ?_)
  · rw [nI_leI (by omega) (by omega)] at hc10
    obtain rfl : i = 3 := by omega
    refine lv_lload_n hx hb d_NS_inWordWith_49 rfl (lv_at hl 2 rfl) ?_
    exact retL (u := ()) hx hb hr hlk hP hD hS (hm) d_NS_inWordWith_50
  · rw [nI_leI (by omega) (by omega)] at hc10
    refine lv_iload hx hb d_NS_inWordWith_13 (lv_at hl 3 rfl) ?_
    refine lv_iload_n hx hb d_NS_inWordWith_15 rfl (lv_at hl 0 rfl) ?_
    refine clSNI (n := 2) (As := [.int (nI i), .int (nI (fo n 6))]) (rest := []) (wc := []) (wr := []) hx hb hml hown hg hE hA hP hD hS (k_CR_valueOf l X i (fo n 6) (by omega) (by omega)) m_65 m_64 m_1 (nw_2 hE.2.1) (by decide +kernel) [] [] rfl rfl (by decide) (by decide) (by decide) rfl hl.1 (Nat.le_of_ble_eq_true rfl) rfl d_NS_inWordWith_16 ⟨rfl, rfl, Nat.le_of_ble_eq_true rfl, Nat.le_of_ble_eq_true rfl⟩ (⟨Nat.le_of_ble_eq_true rfl, Nat.le_of_ble_eq_true rfl⟩) (fun r16 u16 H locs hq16 hP hD hS => ?_)
    have hq16 : r16 = nI (dg (fo n 6) i) := hq16
    subst hq16
    have hP : va_P X.1 classes [] H := hP
    have hD : va_D A [] := hD
    refine lv_if_eq (tgt := 43) hx hb d_NS_inWordWith_19 (by decide) (fun hc19 => ?_) (fun hc19 => ?_)
    · rw [n_z (dg_lt31 _ _)] at hc19
      refine lv_iinc (k := 3) (v := nI (i + 1)) hx hb d_NS_inWordWith_43 hl rfl (nI_1 _) (by decide) rfl (fun ls hl => ?_)
      have hl : lv_has ls 5 [(4, .int (nI (i + 1))), (0, .int (nI (fo n 6))), (1, .int (nI b)), (2, .long m0)] := hl
      refine lv_goto (tgt := 7) hx hb d_NS_inWordWith_46 (by decide) ?_
      exact ih7 (i + 1, m0) H locs ls (by (try dsimp only); omega) (⟨by (try dsimp only); omega, by first | exact inW_f (by omega) hm hc19 | exact inW_t (by omega) hm hc19⟩) hP hD hS (lv_sub hl [1, 2, 3, 0] rfl)
    · rw [n_z (dg_lt31 _ _)] at hc19
      refine lv_lload_n hx hb d_NS_inWordWith_22 rfl (lv_at hl 2 rfl) ?_
      refine va_getsN hx hb hZ1 hS hown (va_Nw.use rfl (nw_1 hNw)) (fun _ h9 => h9) d_NS_inWordWith_23 ?_
      refine lv_iload hx hb d_NS_inWordWith_26 (lv_at hl 3 rfl) ?_
      refine va_tl (v := .long (zw i)) hx hb hT1 hS (vp_in_nI (by omega) (by decide)) (by show Value.long (zw (nI i).toNatClampNeg) = _; rw [nI_clamp (by omega)]) d_NS_inWordWith_28 ?_
      refine lv_iload hx hb d_NS_inWordWith_29 (lv_at hl 3 rfl) ?_
      refine lv_iload_n hx hb d_NS_inWordWith_31 rfl (lv_at hl 1 rfl) ?_
      refine clSNI (n := 2) (As := [.int (nI i), .int (nI b)]) (rest := [.long (zw i), .long m0]) (wc := []) (wr := []) hx hb hml hown hg hE hA hP hD hS (k_CR_valueOf l X i b (by omega) (by omega)) m_65 m_64 m_1 (nw_2 hE.2.1) (by decide +kernel) [] [] rfl rfl (by decide) (by decide) (by decide) rfl hl.1 (Nat.le_of_ble_eq_true rfl) rfl d_NS_inWordWith_32 ⟨rfl, rfl, Nat.le_of_ble_eq_true rfl, Nat.le_of_ble_eq_true rfl⟩ (⟨Nat.le_of_ble_eq_true rfl, Nat.le_of_ble_eq_true rfl⟩) (fun r32 u32 H locs hq32 hP hD hS => ?_)
      have hq32 : r32 = nI (dg b i) := hq32
      subst hq32
      have hP : va_P X.1 classes [] H := hP
      have hD : va_D A [] := hD
      refine lv_iconst (v := nI 2) hx hb d_NS_inWordWith_35 (by decide) ?_
      refine lv_iload hx hb d_NS_inWordWith_36 (lv_at hl 3 rfl) ?_
      refine lv_imul hx hb d_NS_inWordWith_38 ?_
      refine topI (pk_mul _ _) ?_
      refine lv_ishl hx hb d_NS_inWordWith_39 ?_
      refine topI (shlN (by omega) (v4q (dg_lt _ _) (by omega))) ?_
      refine lv_lshl hx hb d_NS_inWordWith_40 rfl ?_
      refine lv_land hx hb d_NS_inWordWith_41 ?_
      refine lv_lstore_n hx hb d_NS_inWordWith_42 rfl hl (by decide) rfl (fun ls hl => ?_)
      have hl : lv_has ls 5 [(2, .long (m0 &&& ((zw i) <<< ((nI ((dg b i) * 2 ^ (2 * i))).toInt64 &&& 63)))), (0, .int (nI (fo n 6))), (1, .int (nI b)), (4, .int (nI i))] := hl
      refine lv_iinc (k := 3) (v := nI (i + 1)) hx hb d_NS_inWordWith_43 hl rfl (nI_1 _) (by decide) rfl (fun ls hl => ?_)
      have hl : lv_has ls 5 [(4, .int (nI (i + 1))), (2, .long (m0 &&& ((zw i) <<< ((nI ((dg b i) * 2 ^ (2 * i))).toInt64 &&& 63)))), (0, .int (nI (fo n 6))), (1, .int (nI b))] := hl
      refine lv_goto (tgt := 7) hx hb d_NS_inWordWith_46 (by decide) ?_
      exact ih7 (i + 1, (m0 &&& ((zw i) <<< ((nI ((dg b i) * 2 ^ (2 * i))).toInt64 &&& 63)))) H locs ls (by (try dsimp only); omega) (⟨by (try dsimp only); omega, by first | exact inW_f (by omega) hm hc19 | exact inW_t (by omega) hm hc19⟩) hP hD hS (lv_sub hl [2, 3, 1, 0] rfl)
set_option maxHeartbeats 4000000 in
set_option maxRecDepth 100000 in
theorem k_NS_hasRowWith (l : Launch) (X : Cx) (h0 hw : Nat) (f : Nat → Int64) (S : Nat → Bool) (hf : RS f S) (n b : Nat) (hn : n < 64) (hb0 : b < 4096) (hbs : b &&& fo n 6 = b) : CtI l X (TY X) y_NS_hasRowWith cw_NS_hasRowWith ({ frames := 2, cells := 0, slots := 0, locals := 45 } : Room) [.ref h0, .int (nI (fo n 6)), .int (nI b)] [(h0, .inr (0, [.ref hw])), (hw, .inl (X.2 1, 64, .inr (.inl f)))] (S := Unit) (fun r _ => r = bI (anyR S n b)) (fun _ => [(h0, .inr (0, [.ref hw])), (hw, .inl (X.2 1, 64, .inr (.inl f)))]) 0 0 := by
  refine metI (by decide) (Nat.le_of_ble_eq_true rfl) ?_
  intro p e s m below meth c A ls hB hl
  obtain ⟨hx, hb, hr, hml, hown, hlk, hin, hg, hA, hD, hP, hE⟩ := hB
  have hS : va_S A s.heap s.heap [] := va_S.rf
  have hl : lv_has ls 10 [(0, .ref h0), (1, .int (nI (fo n 6))), (2, .int (nI b))] := hl
  have hfo := fo_lt n 6 (by omega)
  refine lv_iload_n hx hb d_NS_hasRowWith_0 rfl (lv_at hl 1 rfl) ?_
  refine lv_iload_n hx hb d_NS_hasRowWith_1 rfl (lv_at hl 2 rfl) ?_
  refine clSL (n := 2) (As := [.int (nI (fo n 6)), .int (nI b)]) (rest := []) (wc := []) (wr := [(h0, .inr (0, [.ref hw])), (hw, .inl (X.2 1, 64, .inr (.inl f)))]) hx hb hml hown hg hE hA hP hD hS (k_NS_inWordWith l X n b hn hb0) (gcons m_305 (gcons m_306 (gcons m_3 (gcons m_307 gG)))) (by decide +kernel) [] [0, 1] rfl rfl (by decide) (by decide) (by decide) rfl hl.1 (Nat.le_of_ble_eq_true rfl) rfl d_NS_hasRowWith_2 ⟨rfl, rfl, Nat.le_of_ble_eq_true rfl, Nat.le_of_ble_eq_true rfl⟩ (⟨Nat.le_of_ble_eq_true rfl, Nat.le_of_ble_eq_true rfl⟩) (fun mw u2 H locs hmw hP hD hS => ?_)
  have hP : va_P X.1 classes [(h0, .inr (0, [.ref hw])), (hw, .inl (X.2 1, 64, .inr (.inl f)))] H := hP
  have hD : va_D A [(h0, .inr (0, [.ref hw])), (hw, .inl (X.2 1, 64, .inr (.inl f)))] := hD
  refine lv_lstore_n hx hb d_NS_hasRowWith_5 rfl hl (by decide) rfl (fun ls hl => ?_)
  have hl : lv_has ls 10 [(3, .long mw), (0, .ref h0), (1, .int (nI (fo n 6))), (2, .int (nI b))] := hl
  refine lv_iload_n hx hb d_NS_hasRowWith_6 rfl (lv_at hl 3 rfl) ?_
  refine lv_bipush (v := nI 6) hx hb d_NS_hasRowWith_7 (by decide) ?_
  refine lv_ishr hx hb d_NS_hasRowWith_9 ?_
  refine topI (shrN (by omega) (by omega)) ?_
  refine lv_bipush (v := nI 63) hx hb d_NS_hasRowWith_10 (by decide) ?_
  refine lv_iand hx hb d_NS_hasRowWith_12 ?_
  refine topI (y := nI (b / 64)) (hi6 hb0) ?_
  refine lv_istore hx hb d_NS_hasRowWith_13 hl (by decide) rfl (fun ls hl => ?_)
  have hl : lv_has ls 10 [(5, .int (nI (b / 64))), (3, .long mw), (0, .ref h0), (1, .int (nI (fo n 6))), (2, .int (nI b))] := hl
  refine lv_iload_n hx hb d_NS_hasRowWith_15 rfl (lv_at hl 3 rfl) ?_
  refine lv_bipush (v := nI 6) hx hb d_NS_hasRowWith_16 (by decide) ?_
  refine lv_ishr hx hb d_NS_hasRowWith_18 ?_
  refine topI (shrN (by omega) (by omega)) ?_
  refine lv_iconst (v := (-1)) hx hb d_NS_hasRowWith_19 (by decide) ?_
  refine lv_ixor hx hb d_NS_hasRowWith_20 ?_
  refine lv_bipush (v := nI 63) hx hb d_NS_hasRowWith_21 (by decide) ?_
  refine lv_iand hx hb d_NS_hasRowWith_23 ?_
  refine topI (y := nI (fo (hs n) 6)) (fr_eq hn) ?_
  refine lv_istore hx hb d_NS_hasRowWith_24 hl (by decide) rfl (fun ls hl => ?_)
  have hl : lv_has ls 10 [(6, .int (nI (fo (hs n) 6))), (5, .int (nI (b / 64))), (3, .long mw), (0, .ref h0), (1, .int (nI (fo n 6))), (2, .int (nI b))] := hl
  refine lv_iconst (v := nI 1) hx hb d_NS_hasRowWith_26 (by decide) ?_
  refine lv_iload hx hb d_NS_hasRowWith_27 (lv_at hl 0 rfl) ?_
  refine clSI (n := 1) (As := [.int (nI (fo (hs n) 6))]) (rest := [.int (nI 1)]) (wc := []) (wr := [(h0, .inr (0, [.ref hw])), (hw, .inl (X.2 1, 64, .inr (.inl f)))]) hx hb hml hown hg hE hA hP hD hS (k_JI_bitCount l X (nI (fo (hs n) 6))) (gcons m_308 (gcons m_219 (gcons m_9 (gcons m_220 gG)))) (by decide +kernel) [] [0, 1] rfl rfl (by decide) (by decide) (by decide) rfl hl.1 (Nat.le_of_ble_eq_true rfl) rfl d_NS_hasRowWith_29 ⟨rfl, rfl, Nat.le_of_ble_eq_true rfl, Nat.le_of_ble_eq_true rfl⟩ (⟨Nat.le_of_ble_eq_true rfl, Nat.le_of_ble_eq_true rfl⟩) (fun r29 u29 H locs hq29 hP hD hS => ?_)
  have hq29 : r29 = bcI (nI (fo (hs n) 6)) := hq29
  subst hq29
  have hP : va_P X.1 classes [(h0, .inr (0, [.ref hw])), (hw, .inl (X.2 1, 64, .inr (.inl f)))] H := hP
  have hD : va_D A [(h0, .inr (0, [.ref hw])), (hw, .inl (X.2 1, 64, .inr (.inl f)))] := hD
  refine lv_ishl hx hb d_NS_hasRowWith_32 ?_
  refine topI (y := nI (4 ^ cn (hs n) 6)) (bcF (hs_lt n)) ?_
  refine lv_istore hx hb d_NS_hasRowWith_33 hl (by decide) rfl (fun ls hl => ?_)
  have hl : lv_has ls 10 [(7, .int (nI (4 ^ cn (hs n) 6))), (6, .int (nI (fo (hs n) 6))), (5, .int (nI (b / 64))), (3, .long mw), (0, .ref h0), (1, .int (nI (fo n 6))), (2, .int (nI b))] := hl
  refine lv_iconst (v := nI 0) hx hb d_NS_hasRowWith_35 (by decide) ?_
  refine topI (y := nI (ux (hs n) 0)) (by rw [ux_0]) ?_
  refine lv_istore hx hb d_NS_hasRowWith_36 hl (by decide) rfl (fun ls hl => ?_)
  have hl : lv_has ls 10 [(8, .int (nI (ux (hs n) 0))), (7, .int (nI (4 ^ cn (hs n) 6))), (6, .int (nI (fo (hs n) 6))), (5, .int (nI (b / 64))), (3, .long mw), (0, .ref h0), (1, .int (nI (fo n 6))), (2, .int (nI b))] := hl
  refine lv_iconst (v := nI 0) hx hb d_NS_hasRowWith_38 (by decide) ?_
  refine lv_istore hx hb d_NS_hasRowWith_39 hl (by decide) rfl (fun ls hl => ?_)
  have hl : lv_has ls 10 [(9, .int (nI 0)), (8, .int (nI (ux (hs n) 0))), (7, .int (nI (4 ^ cn (hs n) 6))), (6, .int (nI (fo (hs n) 6))), (5, .int (nI (b / 64))), (3, .long mw), (0, .ref h0), (1, .int (nI (fo n 6))), (2, .int (nI b))] := hl
  refine wLoop (nL := 10) (σ := (Nat)) (fun j => 4 ^ cn (hs n) 6 - j) (fun j => j ≤ 4 ^ cn (hs n) 6 ∧ ∀ k, k < j → f (b / 64 ||| ux (hs n) k) &&& mw = 0) (fun j => [(h0, .inr (0, [.ref hw])), (hw, .inl (X.2 1, 64, .inr (.inl f)))]) (fun j => [(0, .ref h0), (1, .int (nI (fo n 6))), (2, .int (nI b)), (3, .long mw), (5, .int (nI (b / 64))), (6, .int (nI (fo (hs n) 6))), (7, .int (nI (4 ^ cn (hs n) 6))), (8, .int (nI (ux (hs n) j))), (9, .int (nI j))]) ?_ 0 (⟨Nat.zero_le _, fun k h => absurd h (by omega)⟩) hP hD hS (lv_sub hl [6, 7, 8, 5, 4, 3, 2, 1, 0] rfl)
  rintro j H locs ls hJ hP hD hS hl ih41
  have hJ : j ≤ 4 ^ cn (hs n) 6 ∧ ∀ k, k < j → f (b / 64 ||| ux (hs n) k) &&& mw = 0 := hJ
  obtain ⟨hj, hno⟩ := hJ
  have h4 := p4cn (hs n)
  have hst := ux_lt64 hn j
  have hP : va_P X.1 classes [(h0, .inr (0, [.ref hw])), (hw, .inl (X.2 1, 64, .inr (.inl f)))] H := hP
  have hD : va_D A [(h0, .inr (0, [.ref hw])), (hw, .inl (X.2 1, 64, .inr (.inl f)))] := hD
  have hl : lv_has ls 10 [(0, .ref h0), (1, .int (nI (fo n 6))), (2, .int (nI b)), (3, .long mw), (5, .int (nI (b / 64))), (6, .int (nI (fo (hs n) 6))), (7, .int (nI (4 ^ cn (hs n) 6))), (8, .int (nI (ux (hs n) j))), (9, .int (nI j))] := hl
  refine lv_iload hx hb d_NS_hasRowWith_41 (lv_at hl 8 rfl) ?_
  refine lv_iload hx hb d_NS_hasRowWith_43 (lv_at hl 6 rfl) ?_
  refine lv_icmp_ge (tgt := 82) hx hb d_NS_hasRowWith_45 (by decide) (fun hc45 => ?_) (fun hc45 => ?_)
  · rw [nI_leI (by omega) (by omega)] at hc45
    refine lv_iconst (v := nI 0) hx hb d_NS_hasRowWith_82 (by decide) ?_
    exact retZ (u := ()) hx hb hr hlk (by decide) hP hD hS (by rw [hitNo hf hmw hn hb0 hbs (by omega) hno]; rfl) d_NS_hasRowWith_83
  · rw [nI_leI (by omega) (by omega)] at hc45
    refine lv_aload_n hx hb d_NS_hasRowWith_48 rfl (lv_at hl 0 rfl) ?_
    refine va_get (D := X.1) (ci := 0) (v := .ref hw) (C := R_NS) (T := F_NS) (N := 1) hx hb hg in_NS hown hE.1 hP 0 rfl rfl 0 (by decide) (hg _ m_32) (fun _ h9 => h9) rfl d_NS_hasRowWith_49 ?_
    refine lv_iload hx hb d_NS_hasRowWith_52 (lv_at hl 4 rfl) ?_
    refine lv_iload hx hb d_NS_hasRowWith_54 (lv_at hl 7 rfl) ?_
    refine lv_ior hx hb d_NS_hasRowWith_56 ?_
    refine topI (y := nI (b / 64 ||| ux (hs n) j)) (nx_or _ _) ?_
    have hor := or64 (show b / 64 < 64 by omega) hst
    refine va_lald hx hb hE.1 hP 1 1 rfl rfl (vp_in_nI hor (by decide)) d_NS_hasRowWith_57 ?_
    refine topL (y := f (b / 64 ||| ux (hs n) j)) (by rw [nI_clamp (by omega)]) ?_
    refine topL (y := f (b / 64 ||| ux (hs n) j)) (rfl) ?_
    refine lv_lload_n hx hb d_NS_hasRowWith_58 rfl (lv_at hl 3 rfl) ?_
    refine lv_land hx hb d_NS_hasRowWith_59 ?_
    refine lv_lconst (v := 0) hx hb d_NS_hasRowWith_60 (by decide) ?_
    refine W.lcmp hx hb d_NS_hasRowWith_61 ?_
    refine lv_if_eq (tgt := 67) hx hb d_NS_hasRowWith_62 (by decide) (fun hc62 => ?_) (fun hc62 => ?_)
    · rw [lcz] at hc62
      refine lv_iload hx hb d_NS_hasRowWith_67 (lv_at hl 5 rfl) ?_
      refine lv_iload hx hb d_NS_hasRowWith_69 (lv_at hl 7 rfl) ?_
      refine clSNI (n := 2) (As := [.int (nI (fo (hs n) 6)), .int (nI (ux (hs n) j))]) (rest := []) (wc := []) (wr := [(h0, .inr (0, [.ref hw])), (hw, .inl (X.2 1, 64, .inr (.inl f)))]) hx hb hml hown hg hE hA hP hD hS (k_CR_nextWithin l X (nI (fo (hs n) 6)) (nI (ux (hs n) j))) m_311 m_310 m_1 (nw_5 hE.2.1) (by decide +kernel) [] [0, 1] rfl rfl (by decide) (by decide) (by decide) rfl hl.1 (Nat.le_of_ble_eq_true rfl) rfl d_NS_hasRowWith_71 ⟨rfl, rfl, Nat.le_of_ble_eq_true rfl, Nat.le_of_ble_eq_true rfl⟩ (⟨Nat.le_of_ble_eq_true rfl, Nat.le_of_ble_eq_true rfl⟩) (fun r71 u71 H locs hq71 hP hD hS => ?_)
      have hq71 : r71 = (nI (ux (hs n) j) - nI (fo (hs n) 6)) &&& nI (fo (hs n) 6) := hq71
      subst hq71
      have hP : va_P X.1 classes [(h0, .inr (0, [.ref hw])), (hw, .inl (X.2 1, 64, .inr (.inl f)))] H := hP
      have hD : va_D A [(h0, .inr (0, [.ref hw])), (hw, .inl (X.2 1, 64, .inr (.inl f)))] := hD
      refine topI (y := nI (ux (hs n) (j + 1))) (ux_next (hs_lt n) (by omega)) ?_
      refine lv_istore hx hb d_NS_hasRowWith_74 hl (by decide) rfl (fun ls hl => ?_)
      have hl : lv_has ls 10 [(8, .int (nI (ux (hs n) (j + 1)))), (0, .ref h0), (1, .int (nI (fo n 6))), (2, .int (nI b)), (3, .long mw), (5, .int (nI (b / 64))), (6, .int (nI (fo (hs n) 6))), (7, .int (nI (4 ^ cn (hs n) 6))), (9, .int (nI j))] := hl
      refine lv_iinc (k := 8) (v := nI (j + 1)) hx hb d_NS_hasRowWith_76 hl rfl (nI_1 _) (by decide) rfl (fun ls hl => ?_)
      have hl : lv_has ls 10 [(9, .int (nI (j + 1))), (8, .int (nI (ux (hs n) (j + 1)))), (0, .ref h0), (1, .int (nI (fo n 6))), (2, .int (nI b)), (3, .long mw), (5, .int (nI (b / 64))), (6, .int (nI (fo (hs n) 6))), (7, .int (nI (4 ^ cn (hs n) 6)))] := hl
      refine lv_goto (tgt := 41) hx hb d_NS_hasRowWith_79 (by decide) ?_
      exact ih41 (j + 1) H locs ls (by (try dsimp only); omega) (⟨by (try dsimp only); omega, lt_s hno hc62⟩) hP hD hS (lv_sub hl [2, 3, 4, 5, 6, 7, 8, 1, 0] rfl)
    · rw [lcz] at hc62
      refine lv_iconst (v := nI 1) hx hb d_NS_hasRowWith_65 (by decide) ?_
      exact retZ (u := ()) hx hb hr hlk (by decide) hP hD hS (by rw [hitYes hf hmw hn hb0 hbs hc62]; rfl) d_NS_hasRowWith_66
set_option maxHeartbeats 4000000 in
set_option maxRecDepth 100000 in
theorem k_NS_isEmpty (l : Launch) (X : Cx) (h0 hw : Nat) (f : Nat → Int64) (S : Nat → Bool) (hf : RS f S) : CtI l X (TY X) y_NS_isEmpty cw_NS_isEmpty ({ frames := 3, cells := 0, slots := 0, locals := 74 } : Room) [.ref h0] [(h0, .inr (0, [.ref hw])), (hw, .inl (X.2 1, 64, .inr (.inl f)))] (S := Unit) (fun r _ => r = bI (!(anyR S 0 0))) (fun _ => [(h0, .inr (0, [.ref hw])), (hw, .inl (X.2 1, 64, .inr (.inl f)))]) 0 0 := by
  refine metI (by decide) (Nat.le_of_ble_eq_true rfl) ?_
  intro p e s m below meth c A ls hB hl
  obtain ⟨hx, hb, hr, hml, hown, hlk, hin, hg, hA, hD, hP, hE⟩ := hB
  have hS : va_S A s.heap s.heap [] := va_S.rf
  have hl : lv_has ls 1 [(0, .ref h0)] := hl
  refine lv_aload_n hx hb d_NS_isEmpty_0 rfl (lv_at hl 0 rfl) ?_
  refine lv_iconst (v := nI 0) hx hb d_NS_isEmpty_1 (by decide) ?_
  refine topI (y := nI (fo 0 6)) (by decide +kernel) ?_
  refine lv_iconst (v := nI 0) hx hb d_NS_isEmpty_2 (by decide) ?_
  refine clVI (n := 2) (As := [.int (nI (fo 0 6)), .int (nI 0)]) (rest := []) (wc := [(h0, .inr (0, [.ref hw])), (hw, .inl (X.2 1, 64, .inr (.inl f)))]) (wr := []) hx hb hml hown hg hE hA hP hD hS (k_NS_hasRowWith l X h0 hw f S hf 0 0 (by decide) (by decide) (Nat.zero_and _)) (gcons m_301 (gcons m_302 (gcons m_303 (gcons m_3 (gcons m_304 gG))))) (by decide +kernel) [0, 1] [] rfl rfl (by decide) (by decide) (by decide) 0 rfl rfl rfl hl.1 (Nat.le_of_ble_eq_true rfl) rfl d_NS_isEmpty_3 ⟨rfl, rfl, Nat.le_of_ble_eq_true rfl, Nat.le_of_ble_eq_true rfl⟩ (⟨Nat.le_of_ble_eq_true rfl, Nat.le_of_ble_eq_true rfl⟩) (fun r3 u3 H locs hq3 hP hD hS => ?_)
  have hq3 : r3 = bI (anyR S 0 0) := hq3
  subst hq3
  have hP : va_P X.1 classes [(h0, .inr (0, [.ref hw])), (hw, .inl (X.2 1, 64, .inr (.inl f)))] H := hP
  have hD : va_D A [(h0, .inr (0, [.ref hw])), (hw, .inl (X.2 1, 64, .inr (.inl f)))] := hD
  refine lv_if_ne (tgt := 13) hx hb d_NS_isEmpty_6 (by decide) (fun hc6 => ?_) (fun hc6 => ?_)
  · rw [bI_z] at hc6
    refine lv_iconst (v := nI 0) hx hb d_NS_isEmpty_13 (by decide) ?_
    exact retZ (u := ()) hx hb hr hlk (by decide) hP hD hS (by first | (rw [hc6]; rfl) | (rw [ts_nf hc6]; rfl)) d_NS_isEmpty_14
  · rw [bI_z] at hc6
    refine lv_iconst (v := nI 1) hx hb d_NS_isEmpty_9 (by decide) ?_
    refine lv_goto (tgt := 14) hx hb d_NS_isEmpty_10 (by decide) ?_
    exact retZ (u := ()) hx hb hr hlk (by decide) hP hD hS (by first | (rw [hc6]; rfl) | (rw [ts_nf hc6]; rfl)) d_NS_isEmpty_14
end
section
set_option maxHeartbeats 4000000 in
set_option maxRecDepth 100000 in
theorem k_Sp_wordWith (l : Launch) (X : Cx) (h0 hv hi hM hV hN : Nat) (P nr : Nat) (vl iv : Nat → Nat) (hvl : ∀ p, p < 6 → 1 ≤ vl p ∧ vl p ≤ 4) (q w : Nat) (hq : q < 6) (hw : w < 64) (ch : Int32) (cb : Nat → Bool) (hcb : ∀ v, v < 4 → ((ch >>> (nI v &&& 31)) &&& nI 1 = 0 ↔ cb v = false)) : CtL l X (TY X) y_Sp_wordWith cw_Sp_wordWith ({ frames := 2, cells := 0, slots := 0, locals := 43 } : Room) [.ref h0, .int (nI q), .int ch, .int (nI w)] [(h0, .inr (2, [.ref hv, .ref hi, .ref hM, .ref hV, .ref hN, .int (nI P), .int (nI nr)])), (hv, .inl (X.2 0, 6, .inl (ia vl)))] (S := Unit) (fun r _ => ∀ t, t < 64 → bL r t = (decide (dg (64 * w + t) q < vl q) && cb (dg (64 * w + t) q))) (fun _ => [(h0, .inr (2, [.ref hv, .ref hi, .ref hM, .ref hV, .ref hN, .int (nI P), .int (nI nr)])), (hv, .inl (X.2 0, 6, .inl (ia vl)))]) 0 0 := by
  refine metL (by decide) (Nat.le_of_ble_eq_true rfl) ?_
  intro p e s m below meth c A ls hB hl
  obtain ⟨hx, hb, hr, hml, hown, hlk, hin, hg, hA, hD, hP, hE⟩ := hB
  have hS : va_S A s.heap s.heap [] := va_S.rf
  have hl : lv_has ls 7 [(0, .ref h0), (1, .int (nI q)), (2, .int ch), (3, .int (nI w))] := hl
  have hvq := hvl q hq
  refine lv_lconst (v := 0) hx hb d_Sp_wordWith_0 (by decide) ?_
  refine lv_lstore hx hb d_Sp_wordWith_1 hl (by decide) rfl (fun ls hl => ?_)
  have hl : lv_has ls 7 [(4, .long 0), (0, .ref h0), (1, .int (nI q)), (2, .int ch), (3, .int (nI w))] := hl
  refine lv_iconst (v := nI 0) hx hb d_Sp_wordWith_3 (by decide) ?_
  refine lv_istore hx hb d_Sp_wordWith_4 hl (by decide) rfl (fun ls hl => ?_)
  have hl : lv_has ls 7 [(6, .int (nI 0)), (4, .long 0), (0, .ref h0), (1, .int (nI q)), (2, .int ch), (3, .int (nI w))] := hl
  refine wLoop (nL := 7) (σ := (Nat) × (Int64)) (fun x9 => (fun (v : Nat) (a : Int64) => vl q - v) x9.1 x9.2) (fun x9 => (fun (v : Nat) (a : Int64) => v ≤ vl q ∧ ∀ t, t < 64 → bL a t = (decide (dg (64 * w + t) q < v) && cb (dg (64 * w + t) q))) x9.1 x9.2) (fun x9 => (fun (v : Nat) (a : Int64) => [(h0, .inr (2, [.ref hv, .ref hi, .ref hM, .ref hV, .ref hN, .int (nI P), .int (nI nr)])), (hv, .inl (X.2 0, 6, .inl (ia vl)))]) x9.1 x9.2) (fun x9 => (fun (v : Nat) (a : Int64) => [(0, .ref h0), (1, .int (nI q)), (2, .int ch), (3, .int (nI w)), (4, .long a), (6, .int (nI v))]) x9.1 x9.2) ?_ (0, 0) (⟨by (try dsimp only); omega, fun t ht => wwS t⟩) hP hD hS (lv_sub hl [2, 3, 4, 5, 1, 0] rfl)
  rintro ⟨v, a⟩ H locs ls hJ hP hD hS hl ih6
  have hJ : v ≤ vl q ∧ ∀ t, t < 64 → bL a t = (decide (dg (64 * w + t) q < v) && cb (dg (64 * w + t) q)) := hJ
  obtain ⟨hv4, ha⟩ := hJ
  have hP : va_P X.1 classes [(h0, .inr (2, [.ref hv, .ref hi, .ref hM, .ref hV, .ref hN, .int (nI P), .int (nI nr)])), (hv, .inl (X.2 0, 6, .inl (ia vl)))] H := hP
  have hD : va_D A [(h0, .inr (2, [.ref hv, .ref hi, .ref hM, .ref hV, .ref hN, .int (nI P), .int (nI nr)])), (hv, .inl (X.2 0, 6, .inl (ia vl)))] := hD
  have hl : lv_has ls 7 [(0, .ref h0), (1, .int (nI q)), (2, .int ch), (3, .int (nI w)), (4, .long a), (6, .int (nI v))] := hl
  refine lv_iload hx hb d_Sp_wordWith_6 (lv_at hl 5 rfl) ?_
  refine lv_aload_n hx hb d_Sp_wordWith_8 rfl (lv_at hl 0 rfl) ?_
  refine va_get (D := X.1) (ci := 2) (v := .ref hv) (C := R_Sp) (T := F_Sp) (N := 7) hx hb hg in_Sp hown hE.1 hP 0 rfl rfl 0 (by decide) (hg _ m_66) (fun _ h9 => h9) rfl d_Sp_wordWith_9 ?_
  refine lv_iload_n hx hb d_Sp_wordWith_12 rfl (lv_at hl 1 rfl) ?_
  refine va_iald hx hb hE.1 hP 1 0 rfl rfl (vp_in_nI (by omega) (by decide)) d_Sp_wordWith_13 ?_
  refine topI (y := (ia vl) q) (by rw [nI_clamp (by omega)]) ?_
  refine topI (y := nI (vl q)) (rfl) ?_
  refine lv_icmp_ge (tgt := 44) hx hb d_Sp_wordWith_14 (by decide) (fun hc14 => ?_) (fun hc14 => ?_)
  · rw [nI_leI (by omega) (by omega)] at hc14
    refine lv_lload hx hb d_Sp_wordWith_44 (lv_at hl 4 rfl) ?_
    obtain rfl : v = vl q := by omega
    exact retL (u := ()) hx hb hr hlk hP hD hS (ha) d_Sp_wordWith_46
  · rw [nI_leI (by omega) (by omega)] at hc14
    refine lv_iload_n hx hb d_Sp_wordWith_17 rfl (lv_at hl 2 rfl) ?_
    refine lv_iload hx hb d_Sp_wordWith_18 (lv_at hl 5 rfl) ?_
    refine lv_ishr hx hb d_Sp_wordWith_20 ?_
    refine lv_iconst (v := nI 1) hx hb d_Sp_wordWith_21 (by decide) ?_
    refine lv_iand hx hb d_Sp_wordWith_22 ?_
    refine lv_if_eq (tgt := 38) hx hb d_Sp_wordWith_23 (by decide) (fun hc23 => ?_) (fun hc23 => ?_)
    · rw [hcb v (by omega)] at hc23
      refine lv_iinc (k := 5) (v := nI (v + 1)) hx hb d_Sp_wordWith_38 hl rfl (nI_1 _) (by decide) rfl (fun ls hl => ?_)
      have hl : lv_has ls 7 [(6, .int (nI (v + 1))), (0, .ref h0), (1, .int (nI q)), (2, .int ch), (3, .int (nI w)), (4, .long a)] := hl
      refine lv_goto (tgt := 6) hx hb d_Sp_wordWith_41 (by decide) ?_
      exact ih6 (v + 1, a) H locs ls (by (try dsimp only); omega) (⟨by (try dsimp only); omega, by first | exact wwF ha hc23 | exact wwT ha hc23 hq32⟩) hP hD hS (lv_sub hl [1, 2, 3, 4, 5, 0] rfl)
    · rw [hcb v (by omega)] at hc23
      have hc23 := ts_nf hc23
      refine lv_lload hx hb d_Sp_wordWith_26 (lv_at hl 4 rfl) ?_
      refine lv_iload_n hx hb d_Sp_wordWith_28 rfl (lv_at hl 1 rfl) ?_
      refine lv_iload hx hb d_Sp_wordWith_29 (lv_at hl 5 rfl) ?_
      refine lv_iload_n hx hb d_Sp_wordWith_31 rfl (lv_at hl 3 rfl) ?_
      refine clSL (n := 3) (As := [.int (nI q), .int (nI v), .int (nI w)]) (rest := [.long a]) (wc := []) (wr := [(h0, .inr (2, [.ref hv, .ref hi, .ref hM, .ref hV, .ref hN, .int (nI P), .int (nI nr)])), (hv, .inl (X.2 0, 6, .inl (ia vl)))]) hx hb hml hown hg hE hA hP hD hS (k_NS_wordOf l X q v w hq (by omega) hw) (gcons m_58 (gcons m_59 (gcons m_3 (gcons m_60 gG)))) (by decide +kernel) [] [0, 1] rfl rfl (by decide) (by decide) (by decide) rfl hl.1 (Nat.le_of_ble_eq_true rfl) rfl d_Sp_wordWith_32 ⟨rfl, rfl, Nat.le_of_ble_eq_true rfl, Nat.le_of_ble_eq_true rfl⟩ (⟨Nat.le_of_ble_eq_true rfl, Nat.le_of_ble_eq_true rfl⟩) (fun r32 u32 H locs hq32 hP hD hS => ?_)
      have hP : va_P X.1 classes [(h0, .inr (2, [.ref hv, .ref hi, .ref hM, .ref hV, .ref hN, .int (nI P), .int (nI nr)])), (hv, .inl (X.2 0, 6, .inl (ia vl)))] H := hP
      have hD : va_D A [(h0, .inr (2, [.ref hv, .ref hi, .ref hM, .ref hV, .ref hN, .int (nI P), .int (nI nr)])), (hv, .inl (X.2 0, 6, .inl (ia vl)))] := hD
      refine lv_lor hx hb d_Sp_wordWith_35 ?_
      refine lv_lstore hx hb d_Sp_wordWith_36 hl (by decide) rfl (fun ls hl => ?_)
      have hl : lv_has ls 7 [(4, .long (a ||| r32)), (0, .ref h0), (1, .int (nI q)), (2, .int ch), (3, .int (nI w)), (6, .int (nI v))] := hl
      refine lv_iinc (k := 5) (v := nI (v + 1)) hx hb d_Sp_wordWith_38 hl rfl (nI_1 _) (by decide) rfl (fun ls hl => ?_)
      have hl : lv_has ls 7 [(6, .int (nI (v + 1))), (4, .long (a ||| r32)), (0, .ref h0), (1, .int (nI q)), (2, .int ch), (3, .int (nI w))] := hl
      refine lv_goto (tgt := 6) hx hb d_Sp_wordWith_41 (by decide) ?_
      exact ih6 (v + 1, (a ||| r32)) H locs ls (by (try dsimp only); omega) (⟨by (try dsimp only); omega, by first | exact wwF ha hc23 | exact wwT ha hc23 hq32⟩) hP hD hS (lv_sub hl [2, 3, 4, 5, 1, 0] rfl)
set_option maxHeartbeats 4000000 in
set_option maxRecDepth 100000 in
theorem k_Sp_sortRows (l : Launch) (X : Cx) (h0 hv hi hM hV hN : Nat) (P nr : Nat) (vl iv : Nat → Nat) (hvl : ∀ p, p < 6 → 1 ≤ vl p ∧ vl p ≤ 4) (hiv : ∀ p, p < 6 → iv p < 16) (wM wV wN : Nat) (fM fV fN : Nat → Int64) (M : Nat → Bool) (hM0 : RS fM M) : CtV l X (TY X) y_Sp_sortRows cw_Sp_sortRows ({ frames := 3, cells := 0, slots := 0, locals := 69 } : Room) [.ref h0] [(h0, .inr (2, [.ref hv, .ref hi, .ref hM, .ref hV, .ref hN, .int (nI P), .int (nI nr)])), (hv, .inl (X.2 0, 6, .inl (ia vl))), (hi, .inl (X.2 0, 6, .inl (ia iv))), (hM, .inr (0, [.ref wM])), (wM, .inl (X.2 1, 64, .inr (.inl fM))), (hV, .inr (0, [.ref wV])), (wV, .inl (X.2 1, 64, .inr (.inl fV))), (hN, .inr (0, [.ref wN])), (wN, .inl (X.2 1, 64, .inr (.inl fN)))] (S := (Nat → Int64) × (Nat → Int64)) (fun d => RS d.1 (fun r => vK vl iv M r 6) ∧ RS d.2 (fun r => nK vl iv M r 6)) (fun d => [(h0, .inr (2, [.ref hv, .ref hi, .ref hM, .ref hV, .ref hN, .int (nI P), .int (nI nr)])), (hv, .inl (X.2 0, 6, .inl (ia vl))), (hi, .inl (X.2 0, 6, .inl (ia iv))), (hM, .inr (0, [.ref wM])), (wM, .inl (X.2 1, 64, .inr (.inl fM))), (hV, .inr (0, [.ref wV])), (wV, .inl (X.2 1, 64, .inr (.inl d.1))), (hN, .inr (0, [.ref wN])), (wN, .inl (X.2 1, 64, .inr (.inl d.2)))]) 0 0 := by
  refine metV (by decide) (Nat.le_of_ble_eq_true rfl) ?_
  intro p e s m below meth c A ls hB hl
  obtain ⟨hx, hb, hr, hml, hown, hlk, hin, hg, hA, hD, hP, hE⟩ := hB
  have hS : va_S A s.heap s.heap [] := va_S.rf
  have hl : lv_has ls 11 [(0, .ref h0)] := hl
  refine lv_iconst (v := nI 0) hx hb d_Sp_sortRows_0 (by decide) ?_
  refine lv_istore_n hx hb d_Sp_sortRows_1 rfl hl (by decide) rfl (fun ls hl => ?_)
  have hl : lv_has ls 11 [(1, .int (nI 0)), (0, .ref h0)] := hl
  refine wLoop (nL := 11) (σ := (Nat) × (Nat → Int64) × (Nat → Int64)) (fun x9 => (fun (i : Nat) (g : Nat → Int64) (h : Nat → Int64) => 64 - i) x9.1 x9.2.1 x9.2.2) (fun x9 => (fun (i : Nat) (g : Nat → Int64) (h : Nat → Int64) => i ≤ 64 ∧ ∀ w, w < i → ∀ t, t < 64 → bL (g w) t = vK vl iv M (64 * w + t) 6 ∧ bL (h w) t = nK vl iv M (64 * w + t) 6) x9.1 x9.2.1 x9.2.2) (fun x9 => (fun (i : Nat) (g : Nat → Int64) (h : Nat → Int64) => [(h0, .inr (2, [.ref hv, .ref hi, .ref hM, .ref hV, .ref hN, .int (nI P), .int (nI nr)])), (hv, .inl (X.2 0, 6, .inl (ia vl))), (hi, .inl (X.2 0, 6, .inl (ia iv))), (hM, .inr (0, [.ref wM])), (wM, .inl (X.2 1, 64, .inr (.inl fM))), (hV, .inr (0, [.ref wV])), (wV, .inl (X.2 1, 64, .inr (.inl g))), (hN, .inr (0, [.ref wN])), (wN, .inl (X.2 1, 64, .inr (.inl h)))]) x9.1 x9.2.1 x9.2.2) (fun x9 => (fun (i : Nat) (g : Nat → Int64) (h : Nat → Int64) => [(0, .ref h0), (1, .int (nI i))]) x9.1 x9.2.1 x9.2.2) ?_ (0, fV, fN) (⟨by omega, fun w h => absurd h (by omega)⟩) hP hD hS (lv_sub hl [1, 0] rfl)
  rintro ⟨i, g, h⟩ H locs ls hJ hP hD hS hl ih2
  have hJ : i ≤ 64 ∧ ∀ w, w < i → ∀ t, t < 64 → bL (g w) t = vK vl iv M (64 * w + t) 6 ∧ bL (h w) t = nK vl iv M (64 * w + t) 6 := hJ
  obtain ⟨hi64, hgh⟩ := hJ
  have hP : va_P X.1 classes [(h0, .inr (2, [.ref hv, .ref hi, .ref hM, .ref hV, .ref hN, .int (nI P), .int (nI nr)])), (hv, .inl (X.2 0, 6, .inl (ia vl))), (hi, .inl (X.2 0, 6, .inl (ia iv))), (hM, .inr (0, [.ref wM])), (wM, .inl (X.2 1, 64, .inr (.inl fM))), (hV, .inr (0, [.ref wV])), (wV, .inl (X.2 1, 64, .inr (.inl g))), (hN, .inr (0, [.ref wN])), (wN, .inl (X.2 1, 64, .inr (.inl h)))] H := hP
  have hD : va_D A [(h0, .inr (2, [.ref hv, .ref hi, .ref hM, .ref hV, .ref hN, .int (nI P), .int (nI nr)])), (hv, .inl (X.2 0, 6, .inl (ia vl))), (hi, .inl (X.2 0, 6, .inl (ia iv))), (hM, .inr (0, [.ref wM])), (wM, .inl (X.2 1, 64, .inr (.inl fM))), (hV, .inr (0, [.ref wV])), (wV, .inl (X.2 1, 64, .inr (.inl g))), (hN, .inr (0, [.ref wN])), (wN, .inl (X.2 1, 64, .inr (.inl h)))] := hD
  have hl : lv_has ls 11 [(0, .ref h0), (1, .int (nI i))] := hl
  refine lv_iload_n hx hb d_Sp_sortRows_2 rfl (lv_at hl 1 rfl) ?_
  refine lv_bipush (v := nI 64) hx hb d_Sp_sortRows_3 (by decide) ?_
  refine lv_icmp_ge (tgt := 115) hx hb d_Sp_sortRows_5 (by decide) (fun hc5 => ?_) (fun hc5 => ?_)
  · rw [nI_leI (by omega) (by omega)] at hc5
    exact retV (u := (g, h)) hx hb hr hlk hP hD hS (⟨fun w hw t ht => (hgh w (by omega) t ht).1, fun w hw t ht => (hgh w (by omega) t ht).2⟩) d_Sp_sortRows_115
  · rw [nI_leI (by omega) (by omega)] at hc5
    refine lv_aload_n hx hb d_Sp_sortRows_8 rfl (lv_at hl 0 rfl) ?_
    refine va_get (D := X.1) (ci := 2) (v := .ref hM) (C := R_Sp) (T := F_Sp) (N := 7) hx hb hg in_Sp hown hE.1 hP 0 rfl rfl 2 (by decide) (hg _ m_68) (fun _ h9 => h9) rfl d_Sp_sortRows_9 ?_
    refine va_get (D := X.1) (ci := 0) (v := .ref wM) (C := R_NS) (T := F_NS) (N := 1) hx hb hg in_NS hown hE.1 hP 3 rfl rfl 0 (by decide) (hg _ m_33) (fun _ h9 => h9) rfl d_Sp_sortRows_12 ?_
    refine lv_iload_n hx hb d_Sp_sortRows_15 rfl (lv_at hl 1 rfl) ?_
    refine va_lald hx hb hE.1 hP 4 1 rfl rfl (vp_in_nI (by omega) (by decide)) d_Sp_sortRows_16 ?_
    refine topL (y := fM i) (by rw [nI_clamp (by omega)]) ?_
    refine lv_lstore_n hx hb d_Sp_sortRows_17 rfl hl (by decide) rfl (fun ls hl => ?_)
    have hl : lv_has ls 11 [(2, .long (fM i)), (0, .ref h0), (1, .int (nI i))] := hl
    refine lv_lconst (v := 0) hx hb d_Sp_sortRows_18 (by decide) ?_
    refine lv_lstore hx hb d_Sp_sortRows_19 hl (by decide) rfl (fun ls hl => ?_)
    have hl : lv_has ls 11 [(4, .long 0), (2, .long (fM i)), (0, .ref h0), (1, .int (nI i))] := hl
    refine lv_iconst (v := nI 0) hx hb d_Sp_sortRows_21 (by decide) ?_
    refine lv_istore hx hb d_Sp_sortRows_22 hl (by decide) rfl (fun ls hl => ?_)
    have hl : lv_has ls 11 [(6, .int (nI 0)), (4, .long 0), (2, .long (fM i)), (0, .ref h0), (1, .int (nI i))] := hl
    refine wLoop (nL := 11) (σ := (Nat) × (Int64) × (Int64)) (fun x9 => (fun (k : Nat) (a : Int64) (b : Int64) => 6 - k) x9.1 x9.2.1 x9.2.2) (fun x9 => (fun (k : Nat) (a : Int64) (b : Int64) => k ≤ 6 ∧ ∀ t, t < 64 → bL a t = vK vl iv M (64 * i + t) k ∧ bL b t = nK vl iv M (64 * i + t) k) x9.1 x9.2.1 x9.2.2) (fun x9 => (fun (k : Nat) (a : Int64) (b : Int64) => [(h0, .inr (2, [.ref hv, .ref hi, .ref hM, .ref hV, .ref hN, .int (nI P), .int (nI nr)])), (hv, .inl (X.2 0, 6, .inl (ia vl))), (hi, .inl (X.2 0, 6, .inl (ia iv))), (hM, .inr (0, [.ref wM])), (wM, .inl (X.2 1, 64, .inr (.inl fM))), (hV, .inr (0, [.ref wV])), (wV, .inl (X.2 1, 64, .inr (.inl g))), (hN, .inr (0, [.ref wN])), (wN, .inl (X.2 1, 64, .inr (.inl h)))]) x9.1 x9.2.1 x9.2.2) (fun x9 => (fun (k : Nat) (a : Int64) (b : Int64) => [(0, .ref h0), (1, .int (nI i)), (2, .long a), (4, .long b), (6, .int (nI k))]) x9.1 x9.2.1 x9.2.2) ?_ (0, fM i, 0) (⟨by omega, fun t ht => ⟨hM0 i (by omega) t ht, bL_0 t⟩⟩) hP hD hS (lv_sub hl [3, 4, 2, 1, 0] rfl)
    rintro ⟨k, a, b⟩ H locs ls hJ hP hD hS hl ih24
    have hJ : k ≤ 6 ∧ ∀ t, t < 64 → bL a t = vK vl iv M (64 * i + t) k ∧ bL b t = nK vl iv M (64 * i + t) k := hJ
    obtain ⟨hp6, hjn⟩ := hJ
    have hip := hiv
    have hP : va_P X.1 classes [(h0, .inr (2, [.ref hv, .ref hi, .ref hM, .ref hV, .ref hN, .int (nI P), .int (nI nr)])), (hv, .inl (X.2 0, 6, .inl (ia vl))), (hi, .inl (X.2 0, 6, .inl (ia iv))), (hM, .inr (0, [.ref wM])), (wM, .inl (X.2 1, 64, .inr (.inl fM))), (hV, .inr (0, [.ref wV])), (wV, .inl (X.2 1, 64, .inr (.inl g))), (hN, .inr (0, [.ref wN])), (wN, .inl (X.2 1, 64, .inr (.inl h)))] H := hP
    have hD : va_D A [(h0, .inr (2, [.ref hv, .ref hi, .ref hM, .ref hV, .ref hN, .int (nI P), .int (nI nr)])), (hv, .inl (X.2 0, 6, .inl (ia vl))), (hi, .inl (X.2 0, 6, .inl (ia iv))), (hM, .inr (0, [.ref wM])), (wM, .inl (X.2 1, 64, .inr (.inl fM))), (hV, .inr (0, [.ref wV])), (wV, .inl (X.2 1, 64, .inr (.inl g))), (hN, .inr (0, [.ref wN])), (wN, .inl (X.2 1, 64, .inr (.inl h)))] := hD
    have hl : lv_has ls 11 [(0, .ref h0), (1, .int (nI i)), (2, .long a), (4, .long b), (6, .int (nI k))] := hl
    refine lv_iload hx hb d_Sp_sortRows_24 (lv_at hl 4 rfl) ?_
    refine lv_bipush (v := nI 6) hx hb d_Sp_sortRows_26 (by decide) ?_
    refine lv_icmp_ge (tgt := 88) hx hb d_Sp_sortRows_28 (by decide) (fun hc28 => ?_) (fun hc28 => ?_)
    · rw [nI_leI (by omega) (by omega)] at hc28
      obtain rfl : k = 6 := by omega
      refine lv_aload_n hx hb d_Sp_sortRows_88 rfl (lv_at hl 0 rfl) ?_
      refine va_get (D := X.1) (ci := 2) (v := .ref hV) (C := R_Sp) (T := F_Sp) (N := 7) hx hb hg in_Sp hown hE.1 hP 0 rfl rfl 3 (by decide) (hg _ m_69) (fun _ h9 => h9) rfl d_Sp_sortRows_89 ?_
      refine va_get (D := X.1) (ci := 0) (v := .ref wV) (C := R_NS) (T := F_NS) (N := 1) hx hb hg in_NS hown hE.1 hP 5 rfl rfl 0 (by decide) (hg _ m_33) (fun _ h9 => h9) rfl d_Sp_sortRows_92 ?_
      refine lv_iload_n hx hb d_Sp_sortRows_95 rfl (lv_at hl 1 rfl) ?_
      refine lv_lload_n hx hb d_Sp_sortRows_96 rfl (lv_at hl 2 rfl) ?_
      refine va_last hx hb hE.1 hP hD hS 6 1 rfl rfl (vp_in_nI (by omega) (by decide)) d_Sp_sortRows_97 (fun H locs hP hD hS => ?_)
      have hP : va_P X.1 classes [(h0, .inr (2, [.ref hv, .ref hi, .ref hM, .ref hV, .ref hN, .int (nI P), .int (nI nr)])), (hv, .inl (X.2 0, 6, .inl (ia vl))), (hi, .inl (X.2 0, 6, .inl (ia iv))), (hM, .inr (0, [.ref wM])), (wM, .inl (X.2 1, 64, .inr (.inl fM))), (hV, .inr (0, [.ref wV])), (wV, .inl (X.2 1, 64, .inr (.inl (vp_updL g (nI i).toNatClampNeg a)))), (hN, .inr (0, [.ref wN])), (wN, .inl (X.2 1, 64, .inr (.inl h)))] H := hP
      have hD : va_D A [(h0, .inr (2, [.ref hv, .ref hi, .ref hM, .ref hV, .ref hN, .int (nI P), .int (nI nr)])), (hv, .inl (X.2 0, 6, .inl (ia vl))), (hi, .inl (X.2 0, 6, .inl (ia iv))), (hM, .inr (0, [.ref wM])), (wM, .inl (X.2 1, 64, .inr (.inl fM))), (hV, .inr (0, [.ref wV])), (wV, .inl (X.2 1, 64, .inr (.inl (vp_updL g (nI i).toNatClampNeg a)))), (hN, .inr (0, [.ref wN])), (wN, .inl (X.2 1, 64, .inr (.inl h)))] := hD
      rw [nI_clamp (show i < 2 ^ 31 by omega)] at hP hD
      generalize hg2 : vp_updL g i a = g2 at hP hD
      refine lv_aload_n hx hb d_Sp_sortRows_98 rfl (lv_at hl 0 rfl) ?_
      refine va_get (D := X.1) (ci := 2) (v := .ref hN) (C := R_Sp) (T := F_Sp) (N := 7) hx hb hg in_Sp hown hE.1 hP 0 rfl rfl 4 (by decide) (hg _ m_72) (fun _ h9 => h9) rfl d_Sp_sortRows_99 ?_
      refine va_get (D := X.1) (ci := 0) (v := .ref wN) (C := R_NS) (T := F_NS) (N := 1) hx hb hg in_NS hown hE.1 hP 7 rfl rfl 0 (by decide) (hg _ m_33) (fun _ h9 => h9) rfl d_Sp_sortRows_102 ?_
      refine lv_iload_n hx hb d_Sp_sortRows_105 rfl (lv_at hl 1 rfl) ?_
      refine lv_lload hx hb d_Sp_sortRows_106 (lv_at hl 3 rfl) ?_
      refine va_last hx hb hE.1 hP hD hS 8 1 rfl rfl (vp_in_nI (by omega) (by decide)) d_Sp_sortRows_108 (fun H locs hP hD hS => ?_)
      have hP : va_P X.1 classes [(h0, .inr (2, [.ref hv, .ref hi, .ref hM, .ref hV, .ref hN, .int (nI P), .int (nI nr)])), (hv, .inl (X.2 0, 6, .inl (ia vl))), (hi, .inl (X.2 0, 6, .inl (ia iv))), (hM, .inr (0, [.ref wM])), (wM, .inl (X.2 1, 64, .inr (.inl fM))), (hV, .inr (0, [.ref wV])), (wV, .inl (X.2 1, 64, .inr (.inl g2))), (hN, .inr (0, [.ref wN])), (wN, .inl (X.2 1, 64, .inr (.inl (vp_updL h (nI i).toNatClampNeg b))))] H := hP
      have hD : va_D A [(h0, .inr (2, [.ref hv, .ref hi, .ref hM, .ref hV, .ref hN, .int (nI P), .int (nI nr)])), (hv, .inl (X.2 0, 6, .inl (ia vl))), (hi, .inl (X.2 0, 6, .inl (ia iv))), (hM, .inr (0, [.ref wM])), (wM, .inl (X.2 1, 64, .inr (.inl fM))), (hV, .inr (0, [.ref wV])), (wV, .inl (X.2 1, 64, .inr (.inl g2))), (hN, .inr (0, [.ref wN])), (wN, .inl (X.2 1, 64, .inr (.inl (vp_updL h (nI i).toNatClampNeg b))))] := hD
      rw [nI_clamp (show i < 2 ^ 31 by omega)] at hP hD
      generalize hh2 : vp_updL h i b = h2 at hP hD
      refine lv_iinc (k := 1) (v := nI (i + 1)) hx hb d_Sp_sortRows_109 hl rfl (nI_1 _) (by decide) rfl (fun ls hl => ?_)
      have hl : lv_has ls 11 [(1, .int (nI (i + 1))), (0, .ref h0), (2, .long a), (4, .long b), (6, .int (nI 6))] := hl
      refine lv_goto (tgt := 2) hx hb d_Sp_sortRows_112 (by decide) ?_
      exact ih2 (i + 1, g2, h2) H locs ls (by (try dsimp only); omega) (⟨by (try dsimp only); omega, sortK hgh hjn hg2 hh2⟩) hP hD hS (lv_sub hl [1, 0] rfl)
    · rw [nI_leI (by omega) (by omega)] at hc28
      refine lv_aload_n hx hb d_Sp_sortRows_31 rfl (lv_at hl 0 rfl) ?_
      refine lv_iload hx hb d_Sp_sortRows_32 (lv_at hl 4 rfl) ?_
      refine lv_aload_n hx hb d_Sp_sortRows_34 rfl (lv_at hl 0 rfl) ?_
      refine va_get (D := X.1) (ci := 2) (v := .ref hi) (C := R_Sp) (T := F_Sp) (N := 7) hx hb hg in_Sp hown hE.1 hP 0 rfl rfl 1 (by decide) (hg _ m_67) (fun _ h9 => h9) rfl d_Sp_sortRows_35 ?_
      refine lv_iload hx hb d_Sp_sortRows_38 (lv_at hl 4 rfl) ?_
      refine va_iald hx hb hE.1 hP 2 0 rfl rfl (vp_in_nI (by omega) (by decide)) d_Sp_sortRows_40 ?_
      refine topI (y := (ia iv) k) (by rw [nI_clamp (by omega)]) ?_
      refine topI (y := nI (iv k)) (rfl) ?_
      refine lv_iconst (v := (-1)) hx hb d_Sp_sortRows_41 (by decide) ?_
      refine lv_ixor hx hb d_Sp_sortRows_42 ?_
      refine lv_iload_n hx hb d_Sp_sortRows_43 rfl (lv_at hl 1 rfl) ?_
      refine clVL (n := 3) (As := [.int (nI k), .int ((nI (iv k)) ^^^ ((-1))), .int (nI i)]) (rest := []) (wc := [(h0, .inr (2, [.ref hv, .ref hi, .ref hM, .ref hV, .ref hN, .int (nI P), .int (nI nr)])), (hv, .inl (X.2 0, 6, .inl (ia vl)))]) (wr := [(hi, .inl (X.2 0, 6, .inl (ia iv))), (hM, .inr (0, [.ref wM])), (wM, .inl (X.2 1, 64, .inr (.inl fM))), (hV, .inr (0, [.ref wV])), (wV, .inl (X.2 1, 64, .inr (.inl g))), (hN, .inr (0, [.ref wN])), (wN, .inl (X.2 1, 64, .inr (.inl h)))]) hx hb hml hown hg hE hA hP hD hS (k_Sp_wordWith l X h0 hv hi hM hV hN P nr vl iv hvl k i (by omega) (by omega) _ (fun v => !((iv k).testBit v)) (cbN (hiv k (by omega)))) (gcons m_54 (gcons m_56 (gcons ms_Sp_wordWith (gcons m_2 (gcons m_57 gG))))) (by decide +kernel) [0, 1] [2, 3, 4, 5, 6, 7, 8] rfl rfl (by decide) (by decide) (by decide) 0 rfl rfl rfl hl.1 (Nat.le_of_ble_eq_true rfl) rfl d_Sp_sortRows_44 ⟨rfl, rfl, Nat.le_of_ble_eq_true rfl, Nat.le_of_ble_eq_true rfl⟩ (⟨Nat.le_of_ble_eq_true rfl, Nat.le_of_ble_eq_true rfl⟩) (fun r44 u44 H locs hq44 hP hD hS => ?_)
      have hP := hP.sub (ws' := [(h0, .inr (2, [.ref hv, .ref hi, .ref hM, .ref hV, .ref hN, .int (nI P), .int (nI nr)])), (hv, .inl (X.2 0, 6, .inl (ia vl))), (hi, .inl (X.2 0, 6, .inl (ia iv))), (hM, .inr (0, [.ref wM])), (wM, .inl (X.2 1, 64, .inr (.inl fM))), (hV, .inr (0, [.ref wV])), (wV, .inl (X.2 1, 64, .inr (.inl g))), (hN, .inr (0, [.ref wN])), (wN, .inl (X.2 1, 64, .inr (.inl h)))]) [7, 8, 0, 1, 2, 3, 4, 5, 6] rfl
      have hD := hD.sub (ws' := [(h0, .inr (2, [.ref hv, .ref hi, .ref hM, .ref hV, .ref hN, .int (nI P), .int (nI nr)])), (hv, .inl (X.2 0, 6, .inl (ia vl))), (hi, .inl (X.2 0, 6, .inl (ia iv))), (hM, .inr (0, [.ref wM])), (wM, .inl (X.2 1, 64, .inr (.inl fM))), (hV, .inr (0, [.ref wV])), (wV, .inl (X.2 1, 64, .inr (.inl g))), (hN, .inr (0, [.ref wN])), (wN, .inl (X.2 1, 64, .inr (.inl h)))]) [7, 8, 0, 1, 2, 3, 4, 5, 6] (by decide) rfl
      refine lv_lstore hx hb d_Sp_sortRows_47 hl (by decide) rfl (fun ls hl => ?_)
      have hl : lv_has ls 11 [(7, .long r44), (0, .ref h0), (1, .int (nI i)), (2, .long a), (4, .long b), (6, .int (nI k))] := hl
      refine lv_aload_n hx hb d_Sp_sortRows_49 rfl (lv_at hl 1 rfl) ?_
      refine lv_iload hx hb d_Sp_sortRows_50 (lv_at hl 5 rfl) ?_
      refine lv_aload_n hx hb d_Sp_sortRows_52 rfl (lv_at hl 1 rfl) ?_
      refine va_get (D := X.1) (ci := 2) (v := .ref hi) (C := R_Sp) (T := F_Sp) (N := 7) hx hb hg in_Sp hown hE.1 hP 0 rfl rfl 1 (by decide) (hg _ m_67) (fun _ h9 => h9) rfl d_Sp_sortRows_53 ?_
      refine lv_iload hx hb d_Sp_sortRows_56 (lv_at hl 5 rfl) ?_
      refine va_iald hx hb hE.1 hP 2 0 rfl rfl (vp_in_nI (by omega) (by decide)) d_Sp_sortRows_58 ?_
      refine topI (y := (ia iv) k) (by rw [nI_clamp (by omega)]) ?_
      refine topI (y := nI (iv k)) (rfl) ?_
      refine lv_iload_n hx hb d_Sp_sortRows_59 rfl (lv_at hl 2 rfl) ?_
      refine clVL (n := 3) (As := [.int (nI k), .int (nI (iv k)), .int (nI i)]) (rest := []) (wc := [(h0, .inr (2, [.ref hv, .ref hi, .ref hM, .ref hV, .ref hN, .int (nI P), .int (nI nr)])), (hv, .inl (X.2 0, 6, .inl (ia vl)))]) (wr := [(hi, .inl (X.2 0, 6, .inl (ia iv))), (hM, .inr (0, [.ref wM])), (wM, .inl (X.2 1, 64, .inr (.inl fM))), (hV, .inr (0, [.ref wV])), (wV, .inl (X.2 1, 64, .inr (.inl g))), (hN, .inr (0, [.ref wN])), (wN, .inl (X.2 1, 64, .inr (.inl h)))]) hx hb hml hown hg hE hA hP hD hS (k_Sp_wordWith l X h0 hv hi hM hV hN P nr vl iv hvl k i (by omega) (by omega) _ (fun v => (iv k).testBit v) (cbP (hiv k (by omega)))) (gcons m_54 (gcons m_56 (gcons ms_Sp_wordWith (gcons m_2 (gcons m_57 gG))))) (by decide +kernel) [0, 1] [2, 3, 4, 5, 6, 7, 8] rfl rfl (by decide) (by decide) (by decide) 0 rfl rfl rfl hl.1 (Nat.le_of_ble_eq_true rfl) rfl d_Sp_sortRows_60 ⟨rfl, rfl, Nat.le_of_ble_eq_true rfl, Nat.le_of_ble_eq_true rfl⟩ (⟨Nat.le_of_ble_eq_true rfl, Nat.le_of_ble_eq_true rfl⟩) (fun r60 u60 H locs hq60 hP hD hS => ?_)
      have hP := hP.sub (ws' := [(h0, .inr (2, [.ref hv, .ref hi, .ref hM, .ref hV, .ref hN, .int (nI P), .int (nI nr)])), (hv, .inl (X.2 0, 6, .inl (ia vl))), (hi, .inl (X.2 0, 6, .inl (ia iv))), (hM, .inr (0, [.ref wM])), (wM, .inl (X.2 1, 64, .inr (.inl fM))), (hV, .inr (0, [.ref wV])), (wV, .inl (X.2 1, 64, .inr (.inl g))), (hN, .inr (0, [.ref wN])), (wN, .inl (X.2 1, 64, .inr (.inl h)))]) [7, 8, 0, 1, 2, 3, 4, 5, 6] rfl
      have hD := hD.sub (ws' := [(h0, .inr (2, [.ref hv, .ref hi, .ref hM, .ref hV, .ref hN, .int (nI P), .int (nI nr)])), (hv, .inl (X.2 0, 6, .inl (ia vl))), (hi, .inl (X.2 0, 6, .inl (ia iv))), (hM, .inr (0, [.ref wM])), (wM, .inl (X.2 1, 64, .inr (.inl fM))), (hV, .inr (0, [.ref wV])), (wV, .inl (X.2 1, 64, .inr (.inl g))), (hN, .inr (0, [.ref wN])), (wN, .inl (X.2 1, 64, .inr (.inl h)))]) [7, 8, 0, 1, 2, 3, 4, 5, 6] (by decide) rfl
      refine lv_lstore hx hb d_Sp_sortRows_63 hl (by decide) rfl (fun ls hl => ?_)
      have hl : lv_has ls 11 [(9, .long r60), (7, .long r44), (0, .ref h0), (1, .int (nI i)), (2, .long a), (4, .long b), (6, .int (nI k))] := hl
      refine lv_lload hx hb d_Sp_sortRows_65 (lv_at hl 5 rfl) ?_
      refine lv_lload hx hb d_Sp_sortRows_67 (lv_at hl 1 rfl) ?_
      refine lv_land hx hb d_Sp_sortRows_69 ?_
      refine lv_lload_n hx hb d_Sp_sortRows_70 rfl (lv_at hl 4 rfl) ?_
      refine lv_lload hx hb d_Sp_sortRows_71 (lv_at hl 0 rfl) ?_
      refine lv_land hx hb d_Sp_sortRows_73 ?_
      refine lv_lor hx hb d_Sp_sortRows_74 ?_
      refine lv_lstore hx hb d_Sp_sortRows_75 hl (by decide) rfl (fun ls hl => ?_)
      have hl : lv_has ls 11 [(4, .long ((b &&& r44) ||| (a &&& r60))), (9, .long r60), (7, .long r44), (0, .ref h0), (1, .int (nI i)), (2, .long a), (6, .int (nI k))] := hl
      refine lv_lload_n hx hb d_Sp_sortRows_77 rfl (lv_at hl 5 rfl) ?_
      refine lv_lload hx hb d_Sp_sortRows_78 (lv_at hl 2 rfl) ?_
      refine lv_land hx hb d_Sp_sortRows_80 ?_
      refine lv_lstore_n hx hb d_Sp_sortRows_81 rfl hl (by decide) rfl (fun ls hl => ?_)
      have hl : lv_has ls 11 [(2, .long (a &&& r44)), (4, .long ((b &&& r44) ||| (a &&& r60))), (9, .long r60), (7, .long r44), (0, .ref h0), (1, .int (nI i)), (6, .int (nI k))] := hl
      refine lv_iinc (k := 6) (v := nI (k + 1)) hx hb d_Sp_sortRows_82 hl rfl (nI_1 _) (by decide) rfl (fun ls hl => ?_)
      have hl : lv_has ls 11 [(6, .int (nI (k + 1))), (2, .long (a &&& r44)), (4, .long ((b &&& r44) ||| (a &&& r60))), (9, .long r60), (7, .long r44), (0, .ref h0), (1, .int (nI i))] := hl
      refine lv_goto (tgt := 24) hx hb d_Sp_sortRows_85 (by decide) ?_
      exact ih24 (k + 1, (a &&& r44), ((b &&& r44) ||| (a &&& r60))) H locs ls (by (try dsimp only); omega) (⟨by (try dsimp only); omega, sortJ hjn hq44 hq60⟩) hP hD hS (lv_sub hl [5, 6, 1, 2, 0] rfl)
set_option maxHeartbeats 4000000 in
set_option maxRecDepth 100000 in
theorem k_Sp_hasValue (l : Launch) (X : Cx) (h0 hv hi hM hV hN : Nat) (P nr : Nat) (vl iv : Nat → Nat) (hP6 : P ≤ 6) (hvl : ∀ p, p < 6 → 1 ≤ vl p ∧ vl p ≤ 4) (x y : Int32) : CtI l X (TY X) y_Sp_hasValue cw_Sp_hasValue ({ frames := 0, cells := 0, slots := 0, locals := 0 } : Room) [.ref h0, .int x, .int y] [(h0, .inr (2, [.ref hv, .ref hi, .ref hM, .ref hV, .ref hN, .int (nI P), .int (nI nr)])), (hv, .inl (X.2 0, 6, .inl (ia vl)))] (S := Unit) (fun r _ => r = bI (hvB P vl x y)) (fun _ => [(h0, .inr (2, [.ref hv, .ref hi, .ref hM, .ref hV, .ref hN, .int (nI P), .int (nI nr)])), (hv, .inl (X.2 0, 6, .inl (ia vl)))]) 0 0 := by
  refine metI (by decide) (Nat.le_of_ble_eq_true rfl) ?_
  intro p e s m below meth c A ls hB hl
  obtain ⟨hx, hb, hr, hml, hown, hlk, hin, hg, hA, hD, hP, hE⟩ := hB
  have hS : va_S A s.heap s.heap [] := va_S.rf
  have hl : lv_has ls 3 [(0, .ref h0), (1, .int x), (2, .int y)] := hl
  refine lv_iload_n hx hb d_Sp_hasValue_0 rfl (lv_at hl 1 rfl) ?_
  refine lv_if_lt (tgt := 30) hx hb d_Sp_hasValue_1 (by decide) (fun hc1 => ?_) (fun hc1 => ?_)
  · refine lv_iconst (v := nI 0) hx hb d_Sp_hasValue_30 (by decide) ?_
    exact retZ (u := ()) hx hb hr hlk (by decide) hP hD hS (by first | exact hvB_0a hc1 | exact hvB_0b hc9 | exact hvB_0c hc13 | exact hvB_0d (by omega) hc23) d_Sp_hasValue_31
  · refine lv_iload_n hx hb d_Sp_hasValue_4 rfl (lv_at hl 1 rfl) ?_
    refine lv_aload_n hx hb d_Sp_hasValue_5 rfl (lv_at hl 0 rfl) ?_
    refine va_get (D := X.1) (ci := 2) (v := .int (nI P)) (C := R_Sp) (T := F_Sp) (N := 7) hx hb hg in_Sp hown hE.1 hP 0 rfl rfl 5 (by decide) (hg _ m_75) (fun _ h9 => h9) rfl d_Sp_hasValue_6 ?_
    refine lv_icmp_ge (tgt := 30) hx hb d_Sp_hasValue_9 (by decide) (fun hc9 => ?_) (fun hc9 => ?_)
    · refine lv_iconst (v := nI 0) hx hb d_Sp_hasValue_30 (by decide) ?_
      exact retZ (u := ()) hx hb hr hlk (by decide) hP hD hS (by first | exact hvB_0a hc1 | exact hvB_0b hc9 | exact hvB_0c hc13 | exact hvB_0d (by omega) hc23) d_Sp_hasValue_31
    · refine lv_iload_n hx hb d_Sp_hasValue_12 rfl (lv_at hl 2 rfl) ?_
      refine lv_if_lt (tgt := 30) hx hb d_Sp_hasValue_13 (by decide) (fun hc13 => ?_) (fun hc13 => ?_)
      · refine lv_iconst (v := nI 0) hx hb d_Sp_hasValue_30 (by decide) ?_
        exact retZ (u := ()) hx hb hr hlk (by decide) hP hD hS (by first | exact hvB_0a hc1 | exact hvB_0b hc9 | exact hvB_0c hc13 | exact hvB_0d (by omega) hc23) d_Sp_hasValue_31
      · refine lv_iload_n hx hb d_Sp_hasValue_16 rfl (lv_at hl 2 rfl) ?_
        refine lv_aload_n hx hb d_Sp_hasValue_17 rfl (lv_at hl 0 rfl) ?_
        refine va_get (D := X.1) (ci := 2) (v := .ref hv) (C := R_Sp) (T := F_Sp) (N := 7) hx hb hg in_Sp hown hE.1 hP 0 rfl rfl 0 (by decide) (hg _ m_66) (fun _ h9 => h9) rfl d_Sp_hasValue_18 ?_
        refine lv_iload_n hx hb d_Sp_hasValue_21 rfl (lv_at hl 1 rfl) ?_
        obtain ⟨q, hq, rfl⟩ := nI_below hP6 hc1 hc9
        refine va_iald hx hb hE.1 hP 1 0 rfl rfl (vp_in_nI (by omega) (by decide)) d_Sp_hasValue_22 ?_
        refine topI (y := (ia vl) q) (by rw [nI_clamp (by omega)]) ?_
        refine topI (y := nI (vl q)) (rfl) ?_
        refine lv_icmp_ge (tgt := 30) hx hb d_Sp_hasValue_23 (by decide) (fun hc23 => ?_) (fun hc23 => ?_)
        · refine lv_iconst (v := nI 0) hx hb d_Sp_hasValue_30 (by decide) ?_
          exact retZ (u := ()) hx hb hr hlk (by decide) hP hD hS (by first | exact hvB_0a hc1 | exact hvB_0b hc9 | exact hvB_0c hc13 | exact hvB_0d (by omega) hc23) d_Sp_hasValue_31
        · refine lv_iconst (v := nI 1) hx hb d_Sp_hasValue_26 (by decide) ?_
          refine lv_goto (tgt := 31) hx hb d_Sp_hasValue_27 (by decide) ?_
          exact retZ (u := ()) hx hb hr hlk (by decide) hP hD hS (hvB_1 (by omega) hc1 hc9 hc13 hc23) d_Sp_hasValue_31
set_option maxHeartbeats 4000000 in
set_option maxRecDepth 100000 in
theorem k_Sp_isInvalid (l : Launch) (X : Cx) (h0 hv hi hM hV hN : Nat) (P nr : Nat) (vl iv : Nat → Nat) (hiv : ∀ p, p < 6 → iv p < 16) (q v : Nat) (hq : q < 6) (hv4 : v < 4) : CtI l X (TY X) y_Sp_isInvalid cw_Sp_isInvalid ({ frames := 0, cells := 0, slots := 0, locals := 0 } : Room) [.ref h0, .int (nI q), .int (nI v)] [(h0, .inr (2, [.ref hv, .ref hi, .ref hM, .ref hV, .ref hN, .int (nI P), .int (nI nr)])), (hi, .inl (X.2 0, 6, .inl (ia iv)))] (S := Unit) (fun r _ => r = bI ((iv q).testBit v)) (fun _ => [(h0, .inr (2, [.ref hv, .ref hi, .ref hM, .ref hV, .ref hN, .int (nI P), .int (nI nr)])), (hi, .inl (X.2 0, 6, .inl (ia iv)))]) 0 0 := by
  refine metI (by decide) (Nat.le_of_ble_eq_true rfl) ?_
  intro p e s m below meth c A ls hB hl
  obtain ⟨hx, hb, hr, hml, hown, hlk, hin, hg, hA, hD, hP, hE⟩ := hB
  have hS : va_S A s.heap s.heap [] := va_S.rf
  have hl : lv_has ls 3 [(0, .ref h0), (1, .int (nI q)), (2, .int (nI v))] := hl
  have hiq := hiv q hq
  refine lv_aload_n hx hb d_Sp_isInvalid_0 rfl (lv_at hl 0 rfl) ?_
  refine va_get (D := X.1) (ci := 2) (v := .ref hi) (C := R_Sp) (T := F_Sp) (N := 7) hx hb hg in_Sp hown hE.1 hP 0 rfl rfl 1 (by decide) (hg _ m_67) (fun _ h9 => h9) rfl d_Sp_isInvalid_1 ?_
  refine lv_iload_n hx hb d_Sp_isInvalid_4 rfl (lv_at hl 1 rfl) ?_
  refine va_iald hx hb hE.1 hP 1 0 rfl rfl (vp_in_nI (by omega) (by decide)) d_Sp_isInvalid_5 ?_
  refine topI (y := (ia iv) q) (by rw [nI_clamp (by omega)]) ?_
  refine topI (y := nI (iv q)) (rfl) ?_
  refine lv_iload_n hx hb d_Sp_isInvalid_6 rfl (lv_at hl 2 rfl) ?_
  refine lv_ishr hx hb d_Sp_isInvalid_7 ?_
  refine topI (shrN (by omega) (by omega)) ?_
  refine lv_iconst (v := nI 1) hx hb d_Sp_isInvalid_8 (by decide) ?_
  refine lv_iand hx hb d_Sp_isInvalid_9 ?_
  refine topI (nx_and _ _) ?_
  refine lv_if_eq (tgt := 17) hx hb d_Sp_isInvalid_10 (by decide) (fun hc10 => ?_) (fun hc10 => ?_)
  · rw [tb_z] at hc10
    refine lv_iconst (v := nI 0) hx hb d_Sp_isInvalid_17 (by decide) ?_
    exact retZ (u := ()) hx hb hr hlk (by decide) hP hD hS (by first | (rw [hc10]; rfl) | (rw [ts_nf hc10]; rfl)) d_Sp_isInvalid_18
  · rw [tb_z] at hc10
    refine lv_iconst (v := nI 1) hx hb d_Sp_isInvalid_13 (by decide) ?_
    refine lv_goto (tgt := 18) hx hb d_Sp_isInvalid_14 (by decide) ?_
    exact retZ (u := ()) hx hb hr hlk (by decide) hP hD hS (by first | (rw [hc10]; rfl) | (rw [ts_nf hc10]; rfl)) d_Sp_isInvalid_18
set_option maxHeartbeats 4000000 in
set_option maxRecDepth 100000 in
theorem k_Sp_numberLimit (l : Launch) (X : Cx) (h0 hv hi hM hV hN : Nat) (P nr : Nat) (vl iv : Nat → Nat) (hP6 : P ≤ 6) : CtI l X (TY X) y_Sp_numberLimit cw_Sp_numberLimit ({ frames := 0, cells := 0, slots := 0, locals := 0 } : Room) [.ref h0] [(h0, .inr (2, [.ref hv, .ref hi, .ref hM, .ref hV, .ref hN, .int (nI P), .int (nI nr)]))] (S := Unit) (fun r _ => r = nI (4 ^ P)) (fun _ => [(h0, .inr (2, [.ref hv, .ref hi, .ref hM, .ref hV, .ref hN, .int (nI P), .int (nI nr)]))]) 0 0 := by
  refine metI (by decide) (Nat.le_of_ble_eq_true rfl) ?_
  intro p e s m below meth c A ls hB hl
  obtain ⟨hx, hb, hr, hml, hown, hlk, hin, hg, hA, hD, hP, hE⟩ := hB
  have hS : va_S A s.heap s.heap [] := va_S.rf
  have hl : lv_has ls 1 [(0, .ref h0)] := hl
  refine lv_iconst (v := nI 1) hx hb d_Sp_numberLimit_0 (by decide) ?_
  refine lv_iconst (v := nI 2) hx hb d_Sp_numberLimit_1 (by decide) ?_
  refine lv_aload_n hx hb d_Sp_numberLimit_2 rfl (lv_at hl 0 rfl) ?_
  refine va_get (D := X.1) (ci := 2) (v := .int (nI P)) (C := R_Sp) (T := F_Sp) (N := 7) hx hb hg in_Sp hown hE.1 hP 0 rfl rfl 5 (by decide) (hg _ m_75) (fun _ h9 => h9) rfl d_Sp_numberLimit_3 ?_
  refine lv_imul hx hb d_Sp_numberLimit_6 ?_
  refine topI (pk_mul _ _) ?_
  refine lv_ishl hx hb d_Sp_numberLimit_7 ?_
  refine topI (shlN (by omega) (pw4 hP6)) ?_
  exact retI (u := ()) hx hb hr hlk hP hD hS (by rw [pwE]) d_Sp_numberLimit_8
set_option maxHeartbeats 4000000 in
set_option maxRecDepth 100000 in
theorem k_Sp_allFields (l : Launch) (X : Cx) (h0 hv hi hM hV hN : Nat) (P nr : Nat) (vl iv : Nat → Nat) (hP6 : P ≤ 6) : CtI l X (TY X) y_Sp_allFields cw_Sp_allFields ({ frames := 1, cells := 0, slots := 0, locals := 20 } : Room) [.ref h0] [(h0, .inr (2, [.ref hv, .ref hi, .ref hM, .ref hV, .ref hN, .int (nI P), .int (nI nr)]))] (S := Unit) (fun r _ => r = nI (4 ^ P - 1)) (fun _ => [(h0, .inr (2, [.ref hv, .ref hi, .ref hM, .ref hV, .ref hN, .int (nI P), .int (nI nr)]))]) 0 0 := by
  refine metI (by decide) (Nat.le_of_ble_eq_true rfl) ?_
  intro p e s m below meth c A ls hB hl
  obtain ⟨hx, hb, hr, hml, hown, hlk, hin, hg, hA, hD, hP, hE⟩ := hB
  have hS : va_S A s.heap s.heap [] := va_S.rf
  have hl : lv_has ls 1 [(0, .ref h0)] := hl
  refine lv_aload_n hx hb d_Sp_allFields_0 rfl (lv_at hl 0 rfl) ?_
  refine clVI (n := 0) (As := []) (rest := []) (wc := [(h0, .inr (2, [.ref hv, .ref hi, .ref hM, .ref hV, .ref hN, .int (nI P), .int (nI nr)]))]) (wr := []) hx hb hml hown hg hE hA hP hD hS (k_Sp_numberLimit l X h0 hv hi hM hV hN P nr vl iv hP6) (gcons m_363 (gcons m_348 (gcons m_349 (gcons m_2 (gcons m_350 gG))))) (by decide +kernel) [0] [] rfl rfl (by decide) (by decide) (by decide) 0 rfl rfl rfl hl.1 (Nat.le_of_ble_eq_true rfl) rfl d_Sp_allFields_1 ⟨rfl, rfl, Nat.le_of_ble_eq_true rfl, Nat.le_of_ble_eq_true rfl⟩ (⟨Nat.le_of_ble_eq_true rfl, Nat.le_of_ble_eq_true rfl⟩) (fun r1 u1 H locs hq1 hP hD hS => ?_)
  have hq1 : r1 = nI (4 ^ P) := hq1
  subst hq1
  have hP : va_P X.1 classes [(h0, .inr (2, [.ref hv, .ref hi, .ref hM, .ref hV, .ref hN, .int (nI P), .int (nI nr)]))] H := hP
  have hD : va_D A [(h0, .inr (2, [.ref hv, .ref hi, .ref hM, .ref hV, .ref hN, .int (nI P), .int (nI nr)]))] := hD
  refine lv_iconst (v := nI 1) hx hb d_Sp_allFields_4 (by decide) ?_
  refine lv_isub hx hb d_Sp_allFields_5 ?_
  refine topI (pk_sub (p4 P)) ?_
  exact retI (u := ()) hx hb hr hlk hP hD hS (rfl) d_Sp_allFields_6
set_option maxHeartbeats 4000000 in
set_option maxRecDepth 100000 in
theorem k_Sp_isSet (l : Launch) (X : Cx) (h0 hv hi hM hV hN : Nat) (P nr : Nat) (vl iv : Nat → Nat) (hP6 : P ≤ 6) (x : Int32) : CtI l X (TY X) y_Sp_isSet cw_Sp_isSet ({ frames := 0, cells := 0, slots := 0, locals := 0 } : Room) [.ref h0, .int x] [(h0, .inr (2, [.ref hv, .ref hi, .ref hM, .ref hV, .ref hN, .int (nI P), .int (nI nr)]))] (S := Unit) (fun r _ => r = bI (isS P x)) (fun _ => [(h0, .inr (2, [.ref hv, .ref hi, .ref hM, .ref hV, .ref hN, .int (nI P), .int (nI nr)]))]) 0 0 := by
  refine metI (by decide) (Nat.le_of_ble_eq_true rfl) ?_
  intro p e s m below meth c A ls hB hl
  obtain ⟨hx, hb, hr, hml, hown, hlk, hin, hg, hA, hD, hP, hE⟩ := hB
  have hS : va_S A s.heap s.heap [] := va_S.rf
  have hl : lv_has ls 2 [(0, .ref h0), (1, .int x)] := hl
  refine lv_iload_n hx hb d_Sp_isSet_0 rfl (lv_at hl 1 rfl) ?_
  refine lv_if_le (tgt := 18) hx hb d_Sp_isSet_1 (by decide) (fun hc1 => ?_) (fun hc1 => ?_)
  · refine lv_iconst (v := nI 0) hx hb d_Sp_isSet_18 (by decide) ?_
    exact retZ (u := ()) hx hb hr hlk (by decide) hP hD hS (by first | exact isS_0a hc1 | exact isS_0b hc11) d_Sp_isSet_19
  · refine lv_iload_n hx hb d_Sp_isSet_4 rfl (lv_at hl 1 rfl) ?_
    refine lv_iconst (v := nI 1) hx hb d_Sp_isSet_5 (by decide) ?_
    refine lv_aload_n hx hb d_Sp_isSet_6 rfl (lv_at hl 0 rfl) ?_
    refine va_get (D := X.1) (ci := 2) (v := .int (nI P)) (C := R_Sp) (T := F_Sp) (N := 7) hx hb hg in_Sp hown hE.1 hP 0 rfl rfl 5 (by decide) (hg _ m_75) (fun _ h9 => h9) rfl d_Sp_isSet_7 ?_
    refine lv_ishl hx hb d_Sp_isSet_10 ?_
    refine topI (shlN (by omega) (pw2 hP6)) ?_
    refine lv_icmp_ge (tgt := 18) hx hb d_Sp_isSet_11 (by decide) (fun hc11 => ?_) (fun hc11 => ?_)
    · refine lv_iconst (v := nI 0) hx hb d_Sp_isSet_18 (by decide) ?_
      exact retZ (u := ()) hx hb hr hlk (by decide) hP hD hS (by first | exact isS_0a hc1 | exact isS_0b hc11) d_Sp_isSet_19
    · refine lv_iconst (v := nI 1) hx hb d_Sp_isSet_14 (by decide) ?_
      refine lv_goto (tgt := 19) hx hb d_Sp_isSet_15 (by decide) ?_
      exact retZ (u := ()) hx hb hr hlk (by decide) hP hD hS (isS_1 hc1 hc11) d_Sp_isSet_19
set_option maxHeartbeats 4000000 in
set_option maxRecDepth 100000 in
theorem k_Sp_hasAllValues (l : Launch) (X : Cx) (h0 hv hi hM hV hN : Nat) (P nr : Nat) (vl iv : Nat → Nat) (hvl : ∀ p, p < 6 → 1 ≤ vl p ∧ vl p ≤ 4) (n : Nat) (hn : n < 2 ^ 31) : CtI l X (TY X) y_Sp_hasAllValues cw_Sp_hasAllValues ({ frames := 1, cells := 0, slots := 0, locals := 21 } : Room) [.ref h0, .int (nI n)] [(h0, .inr (2, [.ref hv, .ref hi, .ref hM, .ref hV, .ref hN, .int (nI P), .int (nI nr)])), (hv, .inl (X.2 0, 6, .inl (ia vl)))] (S := Unit) (fun r _ => r = bI (all6 vl n 6)) (fun _ => [(h0, .inr (2, [.ref hv, .ref hi, .ref hM, .ref hV, .ref hN, .int (nI P), .int (nI nr)])), (hv, .inl (X.2 0, 6, .inl (ia vl)))]) 0 0 := by
  refine metI (by decide) (Nat.le_of_ble_eq_true rfl) ?_
  intro p e s m below meth c A ls hB hl
  obtain ⟨hx, hb, hr, hml, hown, hlk, hin, hg, hA, hD, hP, hE⟩ := hB
  have hS : va_S A s.heap s.heap [] := va_S.rf
  have hl : lv_has ls 3 [(0, .ref h0), (1, .int (nI n))] := hl
  refine lv_iconst (v := nI 0) hx hb d_Sp_hasAllValues_0 (by decide) ?_
  refine lv_istore_n hx hb d_Sp_hasAllValues_1 rfl hl (by decide) rfl (fun ls hl => ?_)
  have hl : lv_has ls 3 [(2, .int (nI 0)), (0, .ref h0), (1, .int (nI n))] := hl
  refine wLoop (nL := 3) (σ := (Nat)) (fun i => 6 - i) (fun i => i ≤ 6 ∧ all6 vl n i = true) (fun i => [(h0, .inr (2, [.ref hv, .ref hi, .ref hM, .ref hV, .ref hN, .int (nI P), .int (nI nr)])), (hv, .inl (X.2 0, 6, .inl (ia vl)))]) (fun i => [(0, .ref h0), (1, .int (nI n)), (2, .int (nI i))]) ?_ 0 (⟨by omega, rfl⟩) hP hD hS (lv_sub hl [1, 2, 0] rfl)
  rintro i H locs ls hJ hP hD hS hl ih2
  have hJ : i ≤ 6 ∧ all6 vl n i = true := hJ
  obtain ⟨hi6, hall⟩ := hJ
  have hP : va_P X.1 classes [(h0, .inr (2, [.ref hv, .ref hi, .ref hM, .ref hV, .ref hN, .int (nI P), .int (nI nr)])), (hv, .inl (X.2 0, 6, .inl (ia vl)))] H := hP
  have hD : va_D A [(h0, .inr (2, [.ref hv, .ref hi, .ref hM, .ref hV, .ref hN, .int (nI P), .int (nI nr)])), (hv, .inl (X.2 0, 6, .inl (ia vl)))] := hD
  have hl : lv_has ls 3 [(0, .ref h0), (1, .int (nI n)), (2, .int (nI i))] := hl
  refine lv_iload_n hx hb d_Sp_hasAllValues_2 rfl (lv_at hl 2 rfl) ?_
  refine lv_bipush (v := nI 6) hx hb d_Sp_hasAllValues_3 (by decide) ?_
  refine lv_icmp_ge (tgt := 30) hx hb d_Sp_hasAllValues_5 (by decide) (fun hc5 => ?_) (fun hc5 => ?_)
  · rw [nI_leI (by omega) (by omega)] at hc5
    obtain rfl : i = 6 := by omega
    refine lv_iconst (v := nI 1) hx hb d_Sp_hasAllValues_30 (by decide) ?_
    exact retZ (u := ()) hx hb hr hlk (by decide) hP hD hS (by rw [hall]; rfl) d_Sp_hasAllValues_31
  · rw [nI_leI (by omega) (by omega)] at hc5
    refine lv_iload_n hx hb d_Sp_hasAllValues_8 rfl (lv_at hl 2 rfl) ?_
    refine lv_iload_n hx hb d_Sp_hasAllValues_9 rfl (lv_at hl 1 rfl) ?_
    refine clSNI (n := 2) (As := [.int (nI i), .int (nI n)]) (rest := []) (wc := []) (wr := [(h0, .inr (2, [.ref hv, .ref hi, .ref hM, .ref hV, .ref hN, .int (nI P), .int (nI nr)])), (hv, .inl (X.2 0, 6, .inl (ia vl)))]) hx hb hml hown hg hE hA hP hD hS (k_CR_valueOf l X i n (by omega) hn) m_65 m_64 m_1 (nw_8 hE.2.1) (by decide +kernel) [] [0, 1] rfl rfl (by decide) (by decide) (by decide) rfl hl.1 (Nat.le_of_ble_eq_true rfl) rfl d_Sp_hasAllValues_10 ⟨rfl, rfl, Nat.le_of_ble_eq_true rfl, Nat.le_of_ble_eq_true rfl⟩ (⟨Nat.le_of_ble_eq_true rfl, Nat.le_of_ble_eq_true rfl⟩) (fun r10 u10 H locs hq10 hP hD hS => ?_)
    have hq10 : r10 = nI (dg n i) := hq10
    subst hq10
    have hP : va_P X.1 classes [(h0, .inr (2, [.ref hv, .ref hi, .ref hM, .ref hV, .ref hN, .int (nI P), .int (nI nr)])), (hv, .inl (X.2 0, 6, .inl (ia vl)))] H := hP
    have hD : va_D A [(h0, .inr (2, [.ref hv, .ref hi, .ref hM, .ref hV, .ref hN, .int (nI P), .int (nI nr)])), (hv, .inl (X.2 0, 6, .inl (ia vl)))] := hD
    refine lv_aload_n hx hb d_Sp_hasAllValues_13 rfl (lv_at hl 0 rfl) ?_
    refine va_get (D := X.1) (ci := 2) (v := .ref hv) (C := R_Sp) (T := F_Sp) (N := 7) hx hb hg in_Sp hown hE.1 hP 0 rfl rfl 0 (by decide) (hg _ m_66) (fun _ h9 => h9) rfl d_Sp_hasAllValues_14 ?_
    refine lv_iload_n hx hb d_Sp_hasAllValues_17 rfl (lv_at hl 2 rfl) ?_
    refine va_iald hx hb hE.1 hP 1 0 rfl rfl (vp_in_nI (by omega) (by decide)) d_Sp_hasAllValues_18 ?_
    refine topI (y := (ia vl) i) (by rw [nI_clamp (by omega)]) ?_
    refine topI (y := nI (vl i)) (rfl) ?_
    have hvi := hvl i (by omega)
    refine lv_icmp_lt (tgt := 24) hx hb d_Sp_hasAllValues_19 (by decide) (fun hc19 => ?_) (fun hc19 => ?_)
    · rw [nI_ltI (dg_lt31 _ _) (by omega)] at hc19
      refine lv_iinc (k := 2) (v := nI (i + 1)) hx hb d_Sp_hasAllValues_24 hl rfl (nI_1 _) (by decide) rfl (fun ls hl => ?_)
      have hl : lv_has ls 3 [(2, .int (nI (i + 1))), (0, .ref h0), (1, .int (nI n))] := hl
      refine lv_goto (tgt := 2) hx hb d_Sp_hasAllValues_27 (by decide) ?_
      exact ih2 (i + 1) H locs ls (by (try dsimp only); omega) (⟨by (try dsimp only); omega, all6_s hall hc19⟩) hP hD hS (lv_sub hl [1, 2, 0] rfl)
    · rw [nI_ltI (dg_lt31 _ _) (by omega)] at hc19
      refine lv_iconst (v := nI 0) hx hb d_Sp_hasAllValues_22 (by decide) ?_
      exact retZ (u := ()) hx hb hr hlk (by decide) hP hD hS (by rw [all6_no (by omega) hc19]; rfl) d_Sp_hasAllValues_23
set_option maxHeartbeats 4000000 in
set_option maxRecDepth 100000 in
theorem k_Sp_rank (l : Launch) (X : Cx) (h0 hv hi hM hV hN : Nat) (P nr : Nat) (vl iv : Nat → Nat) (wM wV wN : Nat) (fM fV fN : Nat → Int64) (hP6 : P ≤ 6) (hvl : ∀ p, p < 6 → 1 ≤ vl p ∧ vl p ≤ 4) (hv1 : ∀ p, P ≤ p → p < 6 → vl p = 1) (VS NSs : Nat → Bool) (hfV : RS fV VS) (hfN : RS fN NSs) (x : Int32) : CtI l X (TY X) y_Sp_rank cw_Sp_rank ({ frames := 2, cells := 0, slots := 0, locals := 43 } : Room) [.ref h0, .int x] [(h0, .inr (2, [.ref hv, .ref hi, .ref hM, .ref hV, .ref hN, .int (nI P), .int (nI nr)])), (hv, .inl (X.2 0, 6, .inl (ia vl))), (hV, .inr (0, [.ref wV])), (wV, .inl (X.2 1, 64, .inr (.inl fV))), (hN, .inr (0, [.ref wN])), (wN, .inl (X.2 1, 64, .inr (.inl fN)))] (S := Unit) (fun r _ => r = rkF vl VS NSs x) (fun _ => [(h0, .inr (2, [.ref hv, .ref hi, .ref hM, .ref hV, .ref hN, .int (nI P), .int (nI nr)])), (hv, .inl (X.2 0, 6, .inl (ia vl))), (hV, .inr (0, [.ref wV])), (wV, .inl (X.2 1, 64, .inr (.inl fV))), (hN, .inr (0, [.ref wN])), (wN, .inl (X.2 1, 64, .inr (.inl fN)))]) 0 0 := by
  refine metI (by decide) (Nat.le_of_ble_eq_true rfl) ?_
  intro p e s m below meth c A ls hB hl
  obtain ⟨hx, hb, hr, hml, hown, hlk, hin, hg, hA, hD, hP, hE⟩ := hB
  have hS : va_S A s.heap s.heap [] := va_S.rf
  have hl : lv_has ls 2 [(0, .ref h0), (1, .int x)] := hl
  refine lv_iload_n hx hb d_Sp_rank_0 rfl (lv_at hl 1 rfl) ?_
  refine lv_if_lt (tgt := 20) hx hb d_Sp_rank_1 (by decide) (fun hc1 => ?_) (fun hc1 => ?_)
  · refine lv_iconst (v := (-1)) hx hb d_Sp_rank_20 (by decide) ?_
    exact retI (u := ()) hx hb hr hlk hP hD hS (by first | exact rk_a hc1 | exact rk_b hP6 hv1 hn hc9 | exact rk_c hn hc17) d_Sp_rank_21
  · obtain ⟨n, hn, rfl⟩ := nI_of hc1
    refine lv_iload_n hx hb d_Sp_rank_4 rfl (lv_at hl 1 rfl) ?_
    refine lv_aload_n hx hb d_Sp_rank_5 rfl (lv_at hl 0 rfl) ?_
    refine clVI (n := 0) (As := []) (rest := [.int (nI n)]) (wc := [(h0, .inr (2, [.ref hv, .ref hi, .ref hM, .ref hV, .ref hN, .int (nI P), .int (nI nr)]))]) (wr := [(hv, .inl (X.2 0, 6, .inl (ia vl))), (hV, .inr (0, [.ref wV])), (wV, .inl (X.2 1, 64, .inr (.inl fV))), (hN, .inr (0, [.ref wN])), (wN, .inl (X.2 1, 64, .inr (.inl fN)))]) hx hb hml hown hg hE hA hP hD hS (k_Sp_numberLimit l X h0 hv hi hM hV hN P nr vl iv hP6) (gcons m_363 (gcons m_348 (gcons m_349 (gcons m_2 (gcons m_350 gG))))) (by decide +kernel) [0] [1, 2, 3, 4, 5] rfl rfl (by decide) (by decide) (by decide) 0 rfl rfl rfl hl.1 (Nat.le_of_ble_eq_true rfl) rfl d_Sp_rank_6 ⟨rfl, rfl, Nat.le_of_ble_eq_true rfl, Nat.le_of_ble_eq_true rfl⟩ (⟨Nat.le_of_ble_eq_true rfl, Nat.le_of_ble_eq_true rfl⟩) (fun r6 u6 H locs hq6 hP hD hS => ?_)
    have hq6 : r6 = nI (4 ^ P) := hq6
    subst hq6
    have hP := hP.sub (ws' := [(h0, .inr (2, [.ref hv, .ref hi, .ref hM, .ref hV, .ref hN, .int (nI P), .int (nI nr)])), (hv, .inl (X.2 0, 6, .inl (ia vl))), (hV, .inr (0, [.ref wV])), (wV, .inl (X.2 1, 64, .inr (.inl fV))), (hN, .inr (0, [.ref wN])), (wN, .inl (X.2 1, 64, .inr (.inl fN)))]) [5, 0, 1, 2, 3, 4] rfl
    have hD := hD.sub (ws' := [(h0, .inr (2, [.ref hv, .ref hi, .ref hM, .ref hV, .ref hN, .int (nI P), .int (nI nr)])), (hv, .inl (X.2 0, 6, .inl (ia vl))), (hV, .inr (0, [.ref wV])), (wV, .inl (X.2 1, 64, .inr (.inl fV))), (hN, .inr (0, [.ref wN])), (wN, .inl (X.2 1, 64, .inr (.inl fN)))]) [5, 0, 1, 2, 3, 4] (by decide) rfl
    refine lv_icmp_ge (tgt := 20) hx hb d_Sp_rank_9 (by decide) (fun hc9 => ?_) (fun hc9 => ?_)
    · rw [nI_leI (pw4lt hP6) hn] at hc9
      refine lv_iconst (v := (-1)) hx hb d_Sp_rank_20 (by decide) ?_
      exact retI (u := ()) hx hb hr hlk hP hD hS (by first | exact rk_a hc1 | exact rk_b hP6 hv1 hn hc9 | exact rk_c hn hc17) d_Sp_rank_21
    · rw [nI_leI (pw4lt hP6) hn] at hc9
      have h4 := pw4le hP6
      refine lv_aload_n hx hb d_Sp_rank_12 rfl (lv_at hl 0 rfl) ?_
      refine lv_iload_n hx hb d_Sp_rank_13 rfl (lv_at hl 1 rfl) ?_
      refine clVI (n := 1) (As := [.int (nI n)]) (rest := []) (wc := [(h0, .inr (2, [.ref hv, .ref hi, .ref hM, .ref hV, .ref hN, .int (nI P), .int (nI nr)])), (hv, .inl (X.2 0, 6, .inl (ia vl)))]) (wr := [(hV, .inr (0, [.ref wV])), (wV, .inl (X.2 1, 64, .inr (.inl fV))), (hN, .inr (0, [.ref wN])), (wN, .inl (X.2 1, 64, .inr (.inl fN)))]) hx hb hml hown hg hE hA hP hD hS (k_Sp_hasAllValues l X h0 hv hi hM hV hN P nr vl iv hvl n hn) (gcons m_378 (gcons m_380 (gcons ms_Sp_hasAllValues (gcons m_2 (gcons m_381 gG))))) (by decide +kernel) [0, 1] [2, 3, 4, 5] rfl rfl (by decide) (by decide) (by decide) 0 rfl rfl rfl hl.1 (Nat.le_of_ble_eq_true rfl) rfl d_Sp_rank_14 ⟨rfl, rfl, Nat.le_of_ble_eq_true rfl, Nat.le_of_ble_eq_true rfl⟩ (⟨Nat.le_of_ble_eq_true rfl, Nat.le_of_ble_eq_true rfl⟩) (fun r14 u14 H locs hq14 hP hD hS => ?_)
      have hq14 : r14 = bI (all6 vl n 6) := hq14
      subst hq14
      have hP := hP.sub (ws' := [(h0, .inr (2, [.ref hv, .ref hi, .ref hM, .ref hV, .ref hN, .int (nI P), .int (nI nr)])), (hv, .inl (X.2 0, 6, .inl (ia vl))), (hV, .inr (0, [.ref wV])), (wV, .inl (X.2 1, 64, .inr (.inl fV))), (hN, .inr (0, [.ref wN])), (wN, .inl (X.2 1, 64, .inr (.inl fN)))]) [4, 5, 0, 1, 2, 3] rfl
      have hD := hD.sub (ws' := [(h0, .inr (2, [.ref hv, .ref hi, .ref hM, .ref hV, .ref hN, .int (nI P), .int (nI nr)])), (hv, .inl (X.2 0, 6, .inl (ia vl))), (hV, .inr (0, [.ref wV])), (wV, .inl (X.2 1, 64, .inr (.inl fV))), (hN, .inr (0, [.ref wN])), (wN, .inl (X.2 1, 64, .inr (.inl fN)))]) [4, 5, 0, 1, 2, 3] (by decide) rfl
      refine lv_if_ne (tgt := 22) hx hb d_Sp_rank_17 (by decide) (fun hc17 => ?_) (fun hc17 => ?_)
      · rw [bI_z] at hc17
        refine lv_aload_n hx hb d_Sp_rank_22 rfl (lv_at hl 0 rfl) ?_
        refine va_get (D := X.1) (ci := 2) (v := .ref hV) (C := R_Sp) (T := F_Sp) (N := 7) hx hb hg in_Sp hown hE.1 hP 0 rfl rfl 3 (by decide) (hg _ m_69) (fun _ h9 => h9) rfl d_Sp_rank_23 ?_
        refine lv_iload_n hx hb d_Sp_rank_26 rfl (lv_at hl 1 rfl) ?_
        refine clVI (n := 1) (As := [.int (nI n)]) (rest := []) (wc := [(hV, .inr (0, [.ref wV])), (wV, .inl (X.2 1, 64, .inr (.inl fV)))]) (wr := [(h0, .inr (2, [.ref hv, .ref hi, .ref hM, .ref hV, .ref hN, .int (nI P), .int (nI nr)])), (hv, .inl (X.2 0, 6, .inl (ia vl))), (hN, .inr (0, [.ref wN])), (wN, .inl (X.2 1, 64, .inr (.inl fN)))]) hx hb hml hown hg hE hA hP hD hS (k_NS_has l X hV wV fV VS hfV n (by omega)) (gcons m_382 (gcons m_356 (gcons m_357 (gcons m_3 (gcons m_358 gG))))) (by decide +kernel) [2, 3] [0, 1, 4, 5] rfl rfl (by decide) (by decide) (by decide) 0 rfl rfl rfl hl.1 (Nat.le_of_ble_eq_true rfl) rfl d_Sp_rank_27 ⟨rfl, rfl, Nat.le_of_ble_eq_true rfl, Nat.le_of_ble_eq_true rfl⟩ (⟨Nat.le_of_ble_eq_true rfl, Nat.le_of_ble_eq_true rfl⟩) (fun r27 u27 H locs hq27 hP hD hS => ?_)
        have hq27 : r27 = bI (VS n) := hq27
        subst hq27
        have hP := hP.sub (ws' := [(h0, .inr (2, [.ref hv, .ref hi, .ref hM, .ref hV, .ref hN, .int (nI P), .int (nI nr)])), (hv, .inl (X.2 0, 6, .inl (ia vl))), (hV, .inr (0, [.ref wV])), (wV, .inl (X.2 1, 64, .inr (.inl fV))), (hN, .inr (0, [.ref wN])), (wN, .inl (X.2 1, 64, .inr (.inl fN)))]) [0, 1, 4, 5, 2, 3] rfl
        have hD := hD.sub (ws' := [(h0, .inr (2, [.ref hv, .ref hi, .ref hM, .ref hV, .ref hN, .int (nI P), .int (nI nr)])), (hv, .inl (X.2 0, 6, .inl (ia vl))), (hV, .inr (0, [.ref wV])), (wV, .inl (X.2 1, 64, .inr (.inl fV))), (hN, .inr (0, [.ref wN])), (wN, .inl (X.2 1, 64, .inr (.inl fN)))]) [0, 1, 4, 5, 2, 3] (by decide) rfl
        refine lv_if_eq (tgt := 35) hx hb d_Sp_rank_30 (by decide) (fun hc30 => ?_) (fun hc30 => ?_)
        · rw [bI_z] at hc30
          refine lv_aload_n hx hb d_Sp_rank_35 rfl (lv_at hl 0 rfl) ?_
          refine va_get (D := X.1) (ci := 2) (v := .ref hN) (C := R_Sp) (T := F_Sp) (N := 7) hx hb hg in_Sp hown hE.1 hP 0 rfl rfl 4 (by decide) (hg _ m_72) (fun _ h9 => h9) rfl d_Sp_rank_36 ?_
          refine lv_iload_n hx hb d_Sp_rank_39 rfl (lv_at hl 1 rfl) ?_
          refine clVI (n := 1) (As := [.int (nI n)]) (rest := []) (wc := [(hN, .inr (0, [.ref wN])), (wN, .inl (X.2 1, 64, .inr (.inl fN)))]) (wr := [(h0, .inr (2, [.ref hv, .ref hi, .ref hM, .ref hV, .ref hN, .int (nI P), .int (nI nr)])), (hv, .inl (X.2 0, 6, .inl (ia vl))), (hV, .inr (0, [.ref wV])), (wV, .inl (X.2 1, 64, .inr (.inl fV)))]) hx hb hml hown hg hE hA hP hD hS (k_NS_has l X hN wN fN NSs hfN n (by omega)) (gcons m_382 (gcons m_356 (gcons m_357 (gcons m_3 (gcons m_358 gG))))) (by decide +kernel) [4, 5] [0, 1, 2, 3] rfl rfl (by decide) (by decide) (by decide) 0 rfl rfl rfl hl.1 (Nat.le_of_ble_eq_true rfl) rfl d_Sp_rank_40 ⟨rfl, rfl, Nat.le_of_ble_eq_true rfl, Nat.le_of_ble_eq_true rfl⟩ (⟨Nat.le_of_ble_eq_true rfl, Nat.le_of_ble_eq_true rfl⟩) (fun r40 u40 H locs hq40 hP hD hS => ?_)
          have hq40 : r40 = bI (NSs n) := hq40
          subst hq40
          have hP : va_P X.1 classes [(h0, .inr (2, [.ref hv, .ref hi, .ref hM, .ref hV, .ref hN, .int (nI P), .int (nI nr)])), (hv, .inl (X.2 0, 6, .inl (ia vl))), (hV, .inr (0, [.ref wV])), (wV, .inl (X.2 1, 64, .inr (.inl fV))), (hN, .inr (0, [.ref wN])), (wN, .inl (X.2 1, 64, .inr (.inl fN)))] H := hP
          have hD : va_D A [(h0, .inr (2, [.ref hv, .ref hi, .ref hM, .ref hV, .ref hN, .int (nI P), .int (nI nr)])), (hv, .inl (X.2 0, 6, .inl (ia vl))), (hV, .inr (0, [.ref wV])), (wV, .inl (X.2 1, 64, .inr (.inl fV))), (hN, .inr (0, [.ref wN])), (wN, .inl (X.2 1, 64, .inr (.inl fN)))] := hD
          refine lv_if_eq (tgt := 50) hx hb d_Sp_rank_43 (by decide) (fun hc43 => ?_) (fun hc43 => ?_)
          · rw [bI_z] at hc43
            refine lv_iconst (v := nI 0) hx hb d_Sp_rank_50 (by decide) ?_
            exact retI (u := ()) hx hb hr hlk hP hD hS (by first | exact rk_1 (by omega) (ts_nf hc17) hc30 (ts_nf hc43) | exact rk_0 (by omega) (ts_nf hc17) hc30 hc43) d_Sp_rank_51
          · rw [bI_z] at hc43
            refine lv_iconst (v := nI 1) hx hb d_Sp_rank_46 (by decide) ?_
            refine lv_goto (tgt := 51) hx hb d_Sp_rank_47 (by decide) ?_
            exact retI (u := ()) hx hb hr hlk hP hD hS (by first | exact rk_1 (by omega) (ts_nf hc17) hc30 (ts_nf hc43) | exact rk_0 (by omega) (ts_nf hc17) hc30 hc43) d_Sp_rank_51
        · rw [bI_z] at hc30
          refine lv_iconst (v := nI 2) hx hb d_Sp_rank_33 (by decide) ?_
          exact retI (u := ()) hx hb hr hlk hP hD hS (rk_2 (by omega) (ts_nf hc17) (ts_nf hc30)) d_Sp_rank_34
      · rw [bI_z] at hc17
        refine lv_iconst (v := (-1)) hx hb d_Sp_rank_20 (by decide) ?_
        exact retI (u := ()) hx hb hr hlk hP hD hS (by first | exact rk_a hc1 | exact rk_b hP6 hv1 hn hc9 | exact rk_c hn hc17) d_Sp_rank_21
set_option maxHeartbeats 4000000 in
set_option maxRecDepth 100000 in
theorem k_Sp_invalidIn (l : Launch) (X : Cx) (h0 hv hi hM hV hN : Nat) (P nr : Nat) (vl iv : Nat → Nat) (hiv : ∀ p, p < 6 → iv p < 16) (n b : Nat) (hn : n < 64) (hb0 : b < 4096) : CtI l X (TY X) y_Sp_invalidIn cw_Sp_invalidIn ({ frames := 1, cells := 0, slots := 0, locals := 22 } : Room) [.ref h0, .int (nI (fo n 6)), .int (nI b)] [(h0, .inr (2, [.ref hv, .ref hi, .ref hM, .ref hV, .ref hN, .int (nI P), .int (nI nr)])), (hi, .inl (X.2 0, 6, .inl (ia iv)))] (S := Unit) (fun r _ => r = nI (ivs iv n b 6)) (fun _ => [(h0, .inr (2, [.ref hv, .ref hi, .ref hM, .ref hV, .ref hN, .int (nI P), .int (nI nr)])), (hi, .inl (X.2 0, 6, .inl (ia iv)))]) 0 0 := by
  refine metI (by decide) (Nat.le_of_ble_eq_true rfl) ?_
  intro p e s m below meth c A ls hB hl
  obtain ⟨hx, hb, hr, hml, hown, hlk, hin, hg, hA, hD, hP, hE⟩ := hB
  have hS : va_S A s.heap s.heap [] := va_S.rf
  have hl : lv_has ls 5 [(0, .ref h0), (1, .int (nI (fo n 6))), (2, .int (nI b))] := hl
  have hfo := fo_lt n 6 (by omega)
  refine lv_iconst (v := nI 0) hx hb d_Sp_invalidIn_0 (by decide) ?_
  refine lv_istore_n hx hb d_Sp_invalidIn_1 rfl hl (by decide) rfl (fun ls hl => ?_)
  have hl : lv_has ls 5 [(3, .int (nI 0)), (0, .ref h0), (1, .int (nI (fo n 6))), (2, .int (nI b))] := hl
  refine lv_iconst (v := nI 0) hx hb d_Sp_invalidIn_2 (by decide) ?_
  refine lv_istore hx hb d_Sp_invalidIn_3 hl (by decide) rfl (fun ls hl => ?_)
  have hl : lv_has ls 5 [(4, .int (nI 0)), (3, .int (nI 0)), (0, .ref h0), (1, .int (nI (fo n 6))), (2, .int (nI b))] := hl
  refine wLoop (nL := 5) (σ := (Nat)) (fun i => 6 - i) (fun i => i ≤ 6) (fun i => [(h0, .inr (2, [.ref hv, .ref hi, .ref hM, .ref hV, .ref hN, .int (nI P), .int (nI nr)])), (hi, .inl (X.2 0, 6, .inl (ia iv)))]) (fun i => [(0, .ref h0), (1, .int (nI (fo n 6))), (2, .int (nI b)), (3, .int (nI (ivs iv n b i))), (4, .int (nI i))]) ?_ 0 (by omega) hP hD hS (lv_sub hl [2, 3, 4, 1, 0] rfl)
  rintro i H locs ls hJ hP hD hS hl ih5
  have hJ : i ≤ 6 := hJ
  have hP : va_P X.1 classes [(h0, .inr (2, [.ref hv, .ref hi, .ref hM, .ref hV, .ref hN, .int (nI P), .int (nI nr)])), (hi, .inl (X.2 0, 6, .inl (ia iv)))] H := hP
  have hD : va_D A [(h0, .inr (2, [.ref hv, .ref hi, .ref hM, .ref hV, .ref hN, .int (nI P), .int (nI nr)])), (hi, .inl (X.2 0, 6, .inl (ia iv)))] := hD
  have hl : lv_has ls 5 [(0, .ref h0), (1, .int (nI (fo n 6))), (2, .int (nI b)), (3, .int (nI (ivs iv n b i))), (4, .int (nI i))] := hl
  refine lv_iload hx hb d_Sp_invalidIn_5 (lv_at hl 4 rfl) ?_
  refine lv_bipush (v := nI 6) hx hb d_Sp_invalidIn_7 (by decide) ?_
  refine lv_icmp_ge (tgt := 49) hx hb d_Sp_invalidIn_9 (by decide) (fun hc9 => ?_) (fun hc9 => ?_)
  · rw [nI_leI (by omega) (by omega)] at hc9
    obtain rfl : i = 6 := by omega
    refine lv_iload_n hx hb d_Sp_invalidIn_49 rfl (lv_at hl 3 rfl) ?_
    exact retI (u := ()) hx hb hr hlk hP hD hS (rfl) d_Sp_invalidIn_50
  · rw [nI_leI (by omega) (by omega)] at hc9
    refine lv_iload hx hb d_Sp_invalidIn_12 (lv_at hl 4 rfl) ?_
    refine lv_iload_n hx hb d_Sp_invalidIn_14 rfl (lv_at hl 1 rfl) ?_
    refine clSNI (n := 2) (As := [.int (nI i), .int (nI (fo n 6))]) (rest := []) (wc := []) (wr := [(h0, .inr (2, [.ref hv, .ref hi, .ref hM, .ref hV, .ref hN, .int (nI P), .int (nI nr)])), (hi, .inl (X.2 0, 6, .inl (ia iv)))]) hx hb hml hown hg hE hA hP hD hS (k_CR_valueOf l X i (fo n 6) (by omega) (by omega)) m_65 m_64 m_1 (nw_8 hE.2.1) (by decide +kernel) [] [0, 1] rfl rfl (by decide) (by decide) (by decide) rfl hl.1 (Nat.le_of_ble_eq_true rfl) rfl d_Sp_invalidIn_15 ⟨rfl, rfl, Nat.le_of_ble_eq_true rfl, Nat.le_of_ble_eq_true rfl⟩ (⟨Nat.le_of_ble_eq_true rfl, Nat.le_of_ble_eq_true rfl⟩) (fun r15 u15 H locs hq15 hP hD hS => ?_)
    have hq15 : r15 = nI (dg (fo n 6) i) := hq15
    subst hq15
    have hP : va_P X.1 classes [(h0, .inr (2, [.ref hv, .ref hi, .ref hM, .ref hV, .ref hN, .int (nI P), .int (nI nr)])), (hi, .inl (X.2 0, 6, .inl (ia iv)))] H := hP
    have hD : va_D A [(h0, .inr (2, [.ref hv, .ref hi, .ref hM, .ref hV, .ref hN, .int (nI P), .int (nI nr)])), (hi, .inl (X.2 0, 6, .inl (ia iv)))] := hD
    refine lv_if_eq (tgt := 43) hx hb d_Sp_invalidIn_18 (by decide) (fun hc18 => ?_) (fun hc18 => ?_)
    · rw [n_z (dg_lt31 _ _)] at hc18
      have hl : lv_has ls 5 [(0, .ref h0), (1, .int (nI (fo n 6))), (2, .int (nI b)), (3, .int (nI (ivs iv n b (i + 1)))), (4, .int (nI i))] := by rw [ivs_a (by omega) hc18]; exact hl
      refine lv_iinc (k := 4) (v := nI (i + 1)) hx hb d_Sp_invalidIn_43 hl rfl (nI_1 _) (by decide) rfl (fun ls hl => ?_)
      have hl : lv_has ls 5 [(4, .int (nI (i + 1))), (0, .ref h0), (1, .int (nI (fo n 6))), (2, .int (nI b)), (3, .int (nI (ivs iv n b (i + 1))))] := hl
      refine lv_goto (tgt := 5) hx hb d_Sp_invalidIn_46 (by decide) ?_
      exact ih5 (i + 1) H locs ls (by (try dsimp only); omega) (by (try dsimp only); omega) hP hD hS (lv_sub hl [1, 2, 3, 4, 0] rfl)
    · rw [n_z (dg_lt31 _ _)] at hc18
      refine lv_aload_n hx hb d_Sp_invalidIn_21 rfl (lv_at hl 0 rfl) ?_
      refine lv_iload hx hb d_Sp_invalidIn_22 (lv_at hl 4 rfl) ?_
      refine lv_iload hx hb d_Sp_invalidIn_24 (lv_at hl 4 rfl) ?_
      refine lv_iload_n hx hb d_Sp_invalidIn_26 rfl (lv_at hl 2 rfl) ?_
      refine clSNI (n := 2) (As := [.int (nI i), .int (nI b)]) (rest := [.int (nI i), .ref h0]) (wc := []) (wr := [(h0, .inr (2, [.ref hv, .ref hi, .ref hM, .ref hV, .ref hN, .int (nI P), .int (nI nr)])), (hi, .inl (X.2 0, 6, .inl (ia iv)))]) hx hb hml hown hg hE hA hP hD hS (k_CR_valueOf l X i b (by omega) (by omega)) m_65 m_64 m_1 (nw_8 hE.2.1) (by decide +kernel) [] [0, 1] rfl rfl (by decide) (by decide) (by decide) rfl hl.1 (Nat.le_of_ble_eq_true rfl) rfl d_Sp_invalidIn_27 ⟨rfl, rfl, Nat.le_of_ble_eq_true rfl, Nat.le_of_ble_eq_true rfl⟩ (⟨Nat.le_of_ble_eq_true rfl, Nat.le_of_ble_eq_true rfl⟩) (fun r27 u27 H locs hq27 hP hD hS => ?_)
      have hq27 : r27 = nI (dg b i) := hq27
      subst hq27
      have hP : va_P X.1 classes [(h0, .inr (2, [.ref hv, .ref hi, .ref hM, .ref hV, .ref hN, .int (nI P), .int (nI nr)])), (hi, .inl (X.2 0, 6, .inl (ia iv)))] H := hP
      have hD : va_D A [(h0, .inr (2, [.ref hv, .ref hi, .ref hM, .ref hV, .ref hN, .int (nI P), .int (nI nr)])), (hi, .inl (X.2 0, 6, .inl (ia iv)))] := hD
      refine clVI (n := 2) (As := [.int (nI i), .int (nI (dg b i))]) (rest := []) (wc := [(h0, .inr (2, [.ref hv, .ref hi, .ref hM, .ref hV, .ref hN, .int (nI P), .int (nI nr)])), (hi, .inl (X.2 0, 6, .inl (ia iv)))]) (wr := []) hx hb hml hown hg hE hA hP hD hS (k_Sp_isInvalid l X h0 hv hi hM hV hN P nr vl iv hiv i (dg b i) (by omega) (dg_lt _ _)) (gcons m_339 (gcons m_203 (gcons m_204 (gcons m_2 (gcons m_205 gG))))) (by decide +kernel) [0, 1] [] rfl rfl (by decide) (by decide) (by decide) 0 rfl rfl rfl hl.1 (Nat.le_of_ble_eq_true rfl) rfl d_Sp_invalidIn_30 ⟨rfl, rfl, Nat.le_of_ble_eq_true rfl, Nat.le_of_ble_eq_true rfl⟩ (⟨Nat.le_of_ble_eq_true rfl, Nat.le_of_ble_eq_true rfl⟩) (fun r30 u30 H locs hq30 hP hD hS => ?_)
      have hq30 : r30 = bI ((iv i).testBit (dg b i)) := hq30
      subst hq30
      have hP : va_P X.1 classes [(h0, .inr (2, [.ref hv, .ref hi, .ref hM, .ref hV, .ref hN, .int (nI P), .int (nI nr)])), (hi, .inl (X.2 0, 6, .inl (ia iv)))] H := hP
      have hD : va_D A [(h0, .inr (2, [.ref hv, .ref hi, .ref hM, .ref hV, .ref hN, .int (nI P), .int (nI nr)])), (hi, .inl (X.2 0, 6, .inl (ia iv)))] := hD
      refine lv_if_eq (tgt := 43) hx hb d_Sp_invalidIn_33 (by decide) (fun hc33 => ?_) (fun hc33 => ?_)
      · rw [bI_z] at hc33
        have hl : lv_has ls 5 [(0, .ref h0), (1, .int (nI (fo n 6))), (2, .int (nI b)), (3, .int (nI (ivs iv n b (i + 1)))), (4, .int (nI i))] := by rw [ivs_b hc33]; exact hl
        refine lv_iinc (k := 4) (v := nI (i + 1)) hx hb d_Sp_invalidIn_43 hl rfl (nI_1 _) (by decide) rfl (fun ls hl => ?_)
        have hl : lv_has ls 5 [(4, .int (nI (i + 1))), (0, .ref h0), (1, .int (nI (fo n 6))), (2, .int (nI b)), (3, .int (nI (ivs iv n b (i + 1))))] := hl
        refine lv_goto (tgt := 5) hx hb d_Sp_invalidIn_46 (by decide) ?_
        exact ih5 (i + 1) H locs ls (by (try dsimp only); omega) (by (try dsimp only); omega) hP hD hS (lv_sub hl [1, 2, 3, 4, 0] rfl)
      · rw [bI_z] at hc33
        refine lv_iload_n hx hb d_Sp_invalidIn_36 rfl (lv_at hl 3 rfl) ?_
        refine lv_iconst (v := nI 1) hx hb d_Sp_invalidIn_37 (by decide) ?_
        refine lv_iload hx hb d_Sp_invalidIn_38 (lv_at hl 4 rfl) ?_
        refine lv_ishl hx hb d_Sp_invalidIn_40 ?_
        refine topI (shlN (by omega) (pw1 (by omega))) ?_
        refine lv_ior hx hb d_Sp_invalidIn_41 ?_
        refine topI (y := nI (ivs iv n b (i + 1))) (by rw [nx_or, ivs_c (by omega) hc18 (ts_nf hc33)]) ?_
        refine lv_istore_n hx hb d_Sp_invalidIn_42 rfl hl (by decide) rfl (fun ls hl => ?_)
        have hl : lv_has ls 5 [(3, .int (nI (ivs iv n b (i + 1)))), (0, .ref h0), (1, .int (nI (fo n 6))), (2, .int (nI b)), (4, .int (nI i))] := hl
        refine lv_iinc (k := 4) (v := nI (i + 1)) hx hb d_Sp_invalidIn_43 hl rfl (nI_1 _) (by decide) rfl (fun ls hl => ?_)
        have hl : lv_has ls 5 [(4, .int (nI (i + 1))), (3, .int (nI (ivs iv n b (i + 1)))), (0, .ref h0), (1, .int (nI (fo n 6))), (2, .int (nI b))] := hl
        refine lv_goto (tgt := 5) hx hb d_Sp_invalidIn_46 (by decide) ?_
        exact ih5 (i + 1) H locs ls (by (try dsimp only); omega) (by (try dsimp only); omega) hP hD hS (lv_sub hl [2, 3, 4, 1, 0] rfl)
set_option maxHeartbeats 4000000 in
set_option maxRecDepth 100000 in
theorem k_Re_askedWith (l : Launch) (X : Cx) (h0 : Nat) (ak : Int64) (nk : Nat) (n : Nat) (hn : n < 64) : CtL l X (TY X) y_Re_askedWith cw_Re_askedWith ({ frames := 0, cells := 0, slots := 0, locals := 0 } : Room) [.ref h0, .int (nI n)] [(h0, .inr (1, [.long ak, .int (nI nk)]))] (S := Unit) (fun r _ => ∀ s, s < 64 → bL r s = (bL ak s && sub6 n s 6)) (fun _ => [(h0, .inr (1, [.long ak, .int (nI nk)]))]) 0 0 := by
  refine metL (by decide) (Nat.le_of_ble_eq_true rfl) ?_
  intro p e s m below meth c A ls hB hl
  obtain ⟨hx, hb, hr, hml, hown, hlk, hin, hg, hA, hD, hP, hE⟩ := hB
  have hS : va_S A s.heap s.heap [] := va_S.rf
  have hl : lv_has ls 5 [(0, .ref h0), (1, .int (nI n))] := hl
  obtain ⟨hK, hNw, t1, t2, hZ1, hT1, hZ2, hT2⟩ := id hE
  refine lv_aload_n hx hb d_Re_askedWith_0 rfl (lv_at hl 0 rfl) ?_
  refine va_get (D := X.1) (ci := 1) (v := .long ak) (C := R_Re) (T := F_Re) (N := 2) hx hb hg in_Re hown hE.1 hP 0 rfl rfl 0 (by decide) (hg _ m_100) (fun _ h9 => h9) rfl d_Re_askedWith_1 ?_
  refine lv_lstore_n hx hb d_Re_askedWith_4 rfl hl (by decide) rfl (fun ls hl => ?_)
  have hl : lv_has ls 5 [(2, .long ak), (0, .ref h0), (1, .int (nI n))] := hl
  refine lv_iconst (v := nI 0) hx hb d_Re_askedWith_5 (by decide) ?_
  refine lv_istore hx hb d_Re_askedWith_6 hl (by decide) rfl (fun ls hl => ?_)
  have hl : lv_has ls 5 [(4, .int (nI 0)), (2, .long ak), (0, .ref h0), (1, .int (nI n))] := hl
  refine wLoop (nL := 5) (σ := (Nat) × (Int64)) (fun x9 => (fun (i : Nat) (a : Int64) => 6 - i) x9.1 x9.2) (fun x9 => (fun (i : Nat) (a : Int64) => i ≤ 6 ∧ ∀ s, s < 64 → bL a s = (bL ak s && sub6 n s i)) x9.1 x9.2) (fun x9 => (fun (i : Nat) (a : Int64) => [(h0, .inr (1, [.long ak, .int (nI nk)]))]) x9.1 x9.2) (fun x9 => (fun (i : Nat) (a : Int64) => [(0, .ref h0), (1, .int (nI n)), (2, .long a), (4, .int (nI i))]) x9.1 x9.2) ?_ (0, ak) (⟨by omega, fun s _ => (Bool.and_true _).symm⟩) hP hD hS (lv_sub hl [2, 3, 1, 0] rfl)
  rintro ⟨i, a⟩ H locs ls hJ hP hD hS hl ih8
  have hJ : i ≤ 6 ∧ ∀ s, s < 64 → bL a s = (bL ak s && sub6 n s i) := hJ
  obtain ⟨hi6, ha⟩ := hJ
  have hP : va_P X.1 classes [(h0, .inr (1, [.long ak, .int (nI nk)]))] H := hP
  have hD : va_D A [(h0, .inr (1, [.long ak, .int (nI nk)]))] := hD
  have hl : lv_has ls 5 [(0, .ref h0), (1, .int (nI n)), (2, .long a), (4, .int (nI i))] := hl
  refine lv_iload hx hb d_Re_askedWith_8 (lv_at hl 3 rfl) ?_
  refine lv_bipush (v := nI 6) hx hb d_Re_askedWith_10 (by decide) ?_
  refine lv_icmp_ge (tgt := 39) hx hb d_Re_askedWith_12 (by decide) (fun hc12 => ?_) (fun hc12 => ?_)
  · rw [nI_leI (by omega) (by omega)] at hc12
    obtain rfl : i = 6 := by omega
    refine lv_lload_n hx hb d_Re_askedWith_39 rfl (lv_at hl 2 rfl) ?_
    exact retL (u := ()) hx hb hr hlk hP hD hS (ha) d_Re_askedWith_40
  · rw [nI_leI (by omega) (by omega)] at hc12
    refine lv_iload_n hx hb d_Re_askedWith_15 rfl (lv_at hl 1 rfl) ?_
    refine lv_iload hx hb d_Re_askedWith_16 (lv_at hl 3 rfl) ?_
    refine lv_ishr hx hb d_Re_askedWith_18 ?_
    refine topI (shrN (by omega) (by omega)) ?_
    refine lv_iconst (v := nI 1) hx hb d_Re_askedWith_19 (by decide) ?_
    refine lv_iand hx hb d_Re_askedWith_20 ?_
    refine topI (nx_and _ _) ?_
    refine lv_if_eq (tgt := 33) hx hb d_Re_askedWith_21 (by decide) (fun hc21 => ?_) (fun hc21 => ?_)
    · rw [tb_z] at hc21
      refine lv_iinc (k := 3) (v := nI (i + 1)) hx hb d_Re_askedWith_33 hl rfl (nI_1 _) (by decide) rfl (fun ls hl => ?_)
      have hl : lv_has ls 5 [(4, .int (nI (i + 1))), (0, .ref h0), (1, .int (nI n)), (2, .long a)] := hl
      refine lv_goto (tgt := 8) hx hb d_Re_askedWith_36 (by decide) ?_
      exact ih8 (i + 1, a) H locs ls (by (try dsimp only); omega) (⟨by (try dsimp only); omega, by first | exact awF ha hc21 | exact awT ha (by omega) (ts_nf hc21)⟩) hP hD hS (lv_sub hl [1, 2, 3, 0] rfl)
    · rw [tb_z] at hc21
      refine lv_lload_n hx hb d_Re_askedWith_24 rfl (lv_at hl 2 rfl) ?_
      refine va_getsN hx hb hZ2 hS hown (va_Nw.use rfl (nw_6 hNw)) (fun _ h9 => h9) d_Re_askedWith_25 ?_
      refine lv_iload hx hb d_Re_askedWith_28 (lv_at hl 3 rfl) ?_
      refine va_tl (v := .long (sw i)) hx hb hT2 hS (vp_in_nI (by omega) (by decide)) (by show Value.long (sw (nI i).toNatClampNeg) = _; rw [nI_clamp (by omega)]) d_Re_askedWith_30 ?_
      refine lv_land hx hb d_Re_askedWith_31 ?_
      refine lv_lstore_n hx hb d_Re_askedWith_32 rfl hl (by decide) rfl (fun ls hl => ?_)
      have hl : lv_has ls 5 [(2, .long (a &&& (sw i))), (0, .ref h0), (1, .int (nI n)), (4, .int (nI i))] := hl
      refine lv_iinc (k := 3) (v := nI (i + 1)) hx hb d_Re_askedWith_33 hl rfl (nI_1 _) (by decide) rfl (fun ls hl => ?_)
      have hl : lv_has ls 5 [(4, .int (nI (i + 1))), (2, .long (a &&& (sw i))), (0, .ref h0), (1, .int (nI n))] := hl
      refine lv_goto (tgt := 8) hx hb d_Re_askedWith_36 (by decide) ?_
      exact ih8 (i + 1, (a &&& (sw i))) H locs ls (by (try dsimp only); omega) (⟨by (try dsimp only); omega, by first | exact awF ha hc21 | exact awT ha (by omega) (ts_nf hc21)⟩) hP hD hS (lv_sub hl [2, 3, 1, 0] rfl)
set_option maxHeartbeats 4000000 in
set_option maxRecDepth 100000 in
theorem k_Re_add (l : Launch) (X : Cx) (h0 : Nat) (ak : Int64) (nk n k : Nat) (hn : n < 64) (hk : k < 4) : CtV l X (TY X) y_Re_add cw_Re_add ({ frames := 1, cells := 0, slots := 0, locals := 20 } : Room) [.ref h0, .int (nI n), .int (nI k)] [(h0, .inr (1, [.long ak, .int (nI nk)]))] (S := Int64) (fun d => ∀ s, s < 64 → bL d s = (bL ak s || adB n k s)) (fun d => [(h0, .inr (1, [.long d, .int (nI (nk + 1))]))]) 0 0 := by
  refine metV (by decide) (Nat.le_of_ble_eq_true rfl) ?_
  intro p e s m below meth c A ls hB hl
  obtain ⟨hx, hb, hr, hml, hown, hlk, hin, hg, hA, hD, hP, hE⟩ := hB
  have hS : va_S A s.heap s.heap [] := va_S.rf
  have hl : lv_has ls 4 [(0, .ref h0), (1, .int (nI n)), (2, .int (nI k))] := hl
  refine lv_iconst (v := nI 1) hx hb d_Re_add_0 (by decide) ?_
  refine lv_istore_n hx hb d_Re_add_1 rfl hl (by decide) rfl (fun ls hl => ?_)
  have hl : lv_has ls 4 [(3, .int (nI 1)), (0, .ref h0), (1, .int (nI n)), (2, .int (nI k))] := hl
  refine wLoop (nL := 4) (σ := (Nat) × (Int64)) (fun x9 => (fun (i : Nat) (d : Int64) => 64 - i) x9.1 x9.2) (fun x9 => (fun (i : Nat) (d : Int64) => 1 ≤ i ∧ i ≤ 64 ∧ ∀ s, s < 64 → bL d s = (bL ak s || (decide (s < i) && adB n k s))) x9.1 x9.2) (fun x9 => (fun (i : Nat) (d : Int64) => [(h0, .inr (1, [.long d, .int (nI nk)]))]) x9.1 x9.2) (fun x9 => (fun (i : Nat) (d : Int64) => [(0, .ref h0), (1, .int (nI n)), (2, .int (nI k)), (3, .int (nI i))]) x9.1 x9.2) ?_ (1, ak) (⟨by omega, by omega, fun s _ => addS s⟩) hP hD hS (lv_sub hl [1, 2, 3, 0] rfl)
  rintro ⟨i, d⟩ H locs ls hJ hP hD hS hl ih2
  have hJ : 1 ≤ i ∧ i ≤ 64 ∧ ∀ s, s < 64 → bL d s = (bL ak s || (decide (s < i) && adB n k s)) := hJ
  obtain ⟨hi1, hi64, hd⟩ := hJ
  have hP : va_P X.1 classes [(h0, .inr (1, [.long d, .int (nI nk)]))] H := hP
  have hD : va_D A [(h0, .inr (1, [.long d, .int (nI nk)]))] := hD
  have hl : lv_has ls 4 [(0, .ref h0), (1, .int (nI n)), (2, .int (nI k)), (3, .int (nI i))] := hl
  refine lv_iload_n hx hb d_Re_add_2 rfl (lv_at hl 3 rfl) ?_
  refine lv_bipush (v := nI 64) hx hb d_Re_add_3 (by decide) ?_
  refine lv_icmp_ge (tgt := 42) hx hb d_Re_add_5 (by decide) (fun hc5 => ?_) (fun hc5 => ?_)
  · rw [nI_leI (by omega) (by omega)] at hc5
    refine lv_aload_n hx hb d_Re_add_42 rfl (lv_at hl 0 rfl) ?_
    refine lv_dup hx hb d_Re_add_43 rfl ?_
    refine va_get (D := X.1) (ci := 1) (v := .int (nI nk)) (C := R_Re) (T := F_Re) (N := 2) hx hb hg in_Re hown hE.1 hP 0 rfl rfl 1 (by decide) (hg _ m_101) (fun _ h9 => h9) rfl d_Re_add_44 ?_
    refine lv_iconst (v := nI 1) hx hb d_Re_add_47 (by decide) ?_
    refine lv_iadd hx hb d_Re_add_48 ?_
    refine topI (nI_add _ _) ?_
    refine va_put (D := X.1) (ci := 1) (v := .int (nI (nk + 1))) (ty := .int) (C := R_Re) (T := F_Re) (N := 2) hx hb hg in_Re t_Re t_Re_ok n_Re hown hE.1 hP hD hS 0 rfl rfl 1 (by decide) (hg _ m_101) (fun _ h9 => h9) rfl (by decide +kernel) rfl rfl (Nat.le_of_ble_eq_true rfl) d_Re_add_49 (fun H locs hP hD hS => ?_)
    have hP : va_P X.1 classes [(h0, .inr (1, [.long d, .int (nI (nk + 1))]))] H := hP
    have hD : va_D A [(h0, .inr (1, [.long d, .int (nI (nk + 1))]))] := hD
    exact retV (u := d) hx hb hr hlk hP hD hS (addDone hd (by omega)) d_Re_add_52
  · rw [nI_leI (by omega) (by omega)] at hc5
    refine lv_iload_n hx hb d_Re_add_8 rfl (lv_at hl 3 rfl) ?_
    refine lv_iload_n hx hb d_Re_add_9 rfl (lv_at hl 1 rfl) ?_
    refine lv_iconst (v := (-1)) hx hb d_Re_add_10 (by decide) ?_
    refine lv_ixor hx hb d_Re_add_11 ?_
    refine lv_iand hx hb d_Re_add_12 ?_
    refine lv_if_ne (tgt := 36) hx hb d_Re_add_13 (by decide) (fun hc13 => ?_) (fun hc13 => ?_)
    · rw [sb13 (by omega) hn] at hc13
      refine lv_iinc (k := 3) (v := nI (i + 1)) hx hb d_Re_add_36 hl rfl (nI_1 _) (by decide) rfl (fun ls hl => ?_)
      have hl : lv_has ls 4 [(3, .int (nI (i + 1))), (0, .ref h0), (1, .int (nI n)), (2, .int (nI k))] := hl
      refine lv_goto (tgt := 2) hx hb d_Re_add_39 (by decide) ?_
      exact ih2 (i + 1, d) H locs ls (by (try dsimp only); omega) (⟨by (try dsimp only); omega, by (try dsimp only); omega, by first | exact addF1 hd hc13 | exact addF2 hd hc21 | exact addT hd (by omega) (by omega) hc13 hc21⟩) hP hD hS (lv_sub hl [1, 2, 3, 0] rfl)
    · rw [sb13 (by omega) hn] at hc13
      refine lv_iload_n hx hb d_Re_add_16 rfl (lv_at hl 3 rfl) ?_
      refine clSI (n := 1) (As := [.int (nI i)]) (rest := []) (wc := []) (wr := [(h0, .inr (1, [.long d, .int (nI nk)]))]) hx hb hml hown hg hE hA hP hD hS (k_JI_bitCount l X (nI i)) (gcons m_228 (gcons m_219 (gcons m_9 (gcons m_220 gG)))) (by decide +kernel) [] [0] rfl rfl (by decide) (by decide) (by decide) rfl hl.1 (Nat.le_of_ble_eq_true rfl) rfl d_Re_add_17 ⟨rfl, rfl, Nat.le_of_ble_eq_true rfl, Nat.le_of_ble_eq_true rfl⟩ (⟨Nat.le_of_ble_eq_true rfl, Nat.le_of_ble_eq_true rfl⟩) (fun r17 u17 H locs hq17 hP hD hS => ?_)
      have hq17 : r17 = bcI (nI i) := hq17
      subst hq17
      have hP : va_P X.1 classes [(h0, .inr (1, [.long d, .int (nI nk)]))] H := hP
      have hD : va_D A [(h0, .inr (1, [.long d, .int (nI nk)]))] := hD
      refine topI (y := nI (cn i 6)) (bc6 (by omega)) ?_
      refine lv_iload_n hx hb d_Re_add_20 rfl (lv_at hl 2 rfl) ?_
      refine lv_icmp_ne (tgt := 36) hx hb d_Re_add_21 (by decide) (fun hc21 => ?_) (fun hc21 => ?_)
      · rw [nI_eq (cn31 _) (by omega)] at hc21
        refine lv_iinc (k := 3) (v := nI (i + 1)) hx hb d_Re_add_36 hl rfl (nI_1 _) (by decide) rfl (fun ls hl => ?_)
        have hl : lv_has ls 4 [(3, .int (nI (i + 1))), (0, .ref h0), (1, .int (nI n)), (2, .int (nI k))] := hl
        refine lv_goto (tgt := 2) hx hb d_Re_add_39 (by decide) ?_
        exact ih2 (i + 1, d) H locs ls (by (try dsimp only); omega) (⟨by (try dsimp only); omega, by (try dsimp only); omega, by first | exact addF1 hd hc13 | exact addF2 hd hc21 | exact addT hd (by omega) (by omega) hc13 hc21⟩) hP hD hS (lv_sub hl [1, 2, 3, 0] rfl)
      · rw [nI_eq (cn31 _) (by omega)] at hc21
        refine lv_aload_n hx hb d_Re_add_24 rfl (lv_at hl 0 rfl) ?_
        refine lv_dup hx hb d_Re_add_25 rfl ?_
        refine va_get (D := X.1) (ci := 1) (v := .long d) (C := R_Re) (T := F_Re) (N := 2) hx hb hg in_Re hown hE.1 hP 0 rfl rfl 0 (by decide) (hg _ m_100) (fun _ h9 => h9) rfl d_Re_add_26 ?_
        refine lv_lconst (v := 1) hx hb d_Re_add_29 (by decide) ?_
        refine lv_iload_n hx hb d_Re_add_30 rfl (lv_at hl 3 rfl) ?_
        refine lv_lshl hx hb d_Re_add_31 rfl ?_
        refine lv_lor hx hb d_Re_add_32 ?_
        refine va_put (D := X.1) (ci := 1) (v := .long (d ||| (1 <<< ((nI i).toInt64 &&& 63)))) (ty := .long) (C := R_Re) (T := F_Re) (N := 2) hx hb hg in_Re t_Re t_Re_ok n_Re hown hE.1 hP hD hS 0 rfl rfl 0 (by decide) (hg _ m_100) (fun _ h9 => h9) rfl (by decide +kernel) rfl rfl (Nat.le_of_ble_eq_true rfl) d_Re_add_33 (fun H locs hP hD hS => ?_)
        have hP : va_P X.1 classes [(h0, .inr (1, [.long (d ||| (1 <<< ((nI i).toInt64 &&& 63))), .int (nI nk)]))] H := hP
        have hD : va_D A [(h0, .inr (1, [.long (d ||| (1 <<< ((nI i).toInt64 &&& 63))), .int (nI nk)]))] := hD
        refine lv_iinc (k := 3) (v := nI (i + 1)) hx hb d_Re_add_36 hl rfl (nI_1 _) (by decide) rfl (fun ls hl => ?_)
        have hl : lv_has ls 4 [(3, .int (nI (i + 1))), (0, .ref h0), (1, .int (nI n)), (2, .int (nI k))] := hl
        refine lv_goto (tgt := 2) hx hb d_Re_add_39 (by decide) ?_
        exact ih2 (i + 1, (d ||| (1 <<< ((nI i).toInt64 &&& 63)))) H locs ls (by (try dsimp only); omega) (⟨by (try dsimp only); omega, by (try dsimp only); omega, by first | exact addF1 hd hc13 | exact addF2 hd hc21 | exact addT hd (by omega) (by omega) hc13 hc21⟩) hP hD hS (lv_sub hl [1, 2, 3, 0] rfl)
end
section
def upN (v : Nat → Nat) (k x : Nat) : Nat → Nat := fun j => if j = k then x else v j
theorem upN_s {v : Nat → Nat} {k x : Nat} : upN v k x k = x := if_pos rfl
theorem upN_n {v : Nat → Nat} {k j x : Nat} (h : j ≠ k) : upN v k x j = v j := if_neg h
theorem upd_ia (v : Nat → Nat) (k x : Nat) : upd (ia v) k (nI x) = ia (upN v k x) := by
  funext j
  unfold upd ia upN
  by_cases h : j = k
  · rw [if_pos h, if_pos h]
  · rw [if_neg h, if_neg h]
theorem or16 {a v : Nat} (ha : a < 16) (hv : v < 4) : a ||| 1 * 2 ^ v < 16 := Nat.or_lt_two_pow (n := 4) ha (by
  rw [Nat.one_mul]
  exact Nat.pow_lt_pow_right (by decide) hv)
theorem upV {vl : Nat → Nat} (h : ∀ p, p < 6 → 1 ≤ vl p ∧ vl p ≤ 4) {k v : Nat} (h1 : 2 ≤ v) (h2 : v ≤ 4) : ∀ p, p < 6 → 1 ≤ upN vl k v p ∧ upN vl k v p ≤ 4 := fun p hp => by
  by_cases e : p = k
  · subst e; rw [upN_s]; omega
  · rw [upN_n e]; exact h p hp
theorem upI {iv : Nat → Nat} (h : ∀ p, p < 6 → iv p < 16) {k x : Nat} (hx : x < 16) : ∀ p, p < 6 → upN iv k x p < 16 := fun p hp => by
  by_cases e : p = k
  · subst e; rw [upN_s]; exact hx
  · rw [upN_n e]; exact h p hp
/-! minimal forbidden tuples -/
def rmS (n i : Nat) : Nat := n &&& (63 - 2 ^ i)
theorem rm_fo : ∀ n, n < 64 → ∀ i, i < 6 → nI (fo n 6) &&& (nI (3 * 2 ^ (2 * i)) ^^^ (-1)) = nI (fo (rmS n i) 6) := by decide +kernel
theorem rm_eq : ∀ n, n < 64 → ∀ i, i < 6 → (nI (fo (rmS n i) 6) = nI (fo n 6) ↔ n.testBit i = false) := by decide +kernel
theorem rm_lt {n : Nat} (hn : n < 64) (i : Nat) : rmS n i < 64 := Nat.lt_of_le_of_lt Nat.and_le_left hn
theorem and_and (a b : Nat) : (a &&& b) &&& b = a &&& b := by rw [Nat.and_assoc, Nat.and_self]
theorem and_lt {a : Nat} (b : Nat) (h : a < 4096) : a &&& b < 4096 := Nat.lt_of_le_of_lt Nat.and_le_left h
def mfL (V : Nat → Bool) (n b : Nat) : Nat → Bool
  | 0 => true
  | i + 1 => mfL V n b i && (!(n.testBit i) || anyR V (rmS n i) (b &&& fo (rmS n i) 6))
def mfB (vl iv : Nat → Nat) (V : Nat → Bool) (n b : Nat) : Bool := all6 vl b 6 && ((ivs iv n b 6 == 0) && (!(anyR V n b) && mfL V n b 6))
def mfF (vl iv : Nat → Nat) (V : Nat → Bool) (n j : Nat) : Bool := mfB vl iv V n (ux n j)
theorem mf_a {vl iv : Nat → Nat} {V : Nat → Bool} {n b : Nat} (h : all6 vl b 6 = false) : nI 0 = bI (mfB vl iv V n b) := by unfold mfB; rw [h]; rfl
theorem mf_b {vl iv : Nat → Nat} {V : Nat → Bool} {n b : Nat} (h : ¬ ivs iv n b 6 = 0) : nI 0 = bI (mfB vl iv V n b) := by unfold mfB; rw [beq_false_of_ne h, Bool.false_and, Bool.and_false]; rfl
theorem mf_c {vl iv : Nat → Nat} {V : Nat → Bool} {n b : Nat} (h : ¬ anyR V n b = false) : nI 0 = bI (mfB vl iv V n b) := by unfold mfB; rw [ts_nf h, Bool.not_true, Bool.false_and, Bool.and_false, Bool.and_false]; rfl
theorem mfL_f {V : Nat → Bool} {n b i : Nat} (h : mfL V n b i = true) (hb : n.testBit i = false) : mfL V n b (i + 1) = true := by
  show (mfL V n b i && (!(n.testBit i) || anyR V (rmS n i) (b &&& fo (rmS n i) 6))) = true
  rw [h, hb]; rfl
theorem mfL_t {V : Nat → Bool} {n b i : Nat} (h : mfL V n b i = true) (ha : ¬ anyR V (rmS n i) (b &&& fo (rmS n i) 6) = false) : mfL V n b (i + 1) = true := by
  show (mfL V n b i && (!(n.testBit i) || anyR V (rmS n i) (b &&& fo (rmS n i) 6))) = true
  rw [h, ts_nf ha, Bool.or_true]; rfl
theorem mfL_no {V : Nat → Bool} {n b i : Nat} (hb : ¬ n.testBit i = false) (ha : anyR V (rmS n i) (b &&& fo (rmS n i) 6) = false) : ∀ {k : Nat}, i < k → mfL V n b k = false
  | 0, h => absurd h (Nat.not_lt_zero _)
  | k + 1, h => by
    show (mfL V n b k && (!(n.testBit k) || anyR V (rmS n k) (b &&& fo (rmS n k) 6))) = false
    by_cases e : i = k
    · subst e; rw [ts_nf hb, ha, Bool.not_true, Bool.or_false, Bool.and_false]
    · rw [mfL_no hb ha (show i < k by omega), Bool.false_and]
theorem mf_d {vl iv : Nat → Nat} {V : Nat → Bool} {n b i : Nat} (hi : i < 6) (hb : ¬ n.testBit i = false) (ha : anyR V (rmS n i) (b &&& fo (rmS n i) 6) = false) : nI 0 = bI (mfB vl iv V n b) := by
  unfold mfB
  rw [mfL_no hb ha hi, Bool.and_false, Bool.and_false, Bool.and_false]; rfl
theorem mf_1 {vl iv : Nat → Nat} {V : Nat → Bool} {n b : Nat} (h1 : ¬ all6 vl b 6 = false) (h2 : ivs iv n b 6 = 0) (h3 : anyR V n b = false) (h4 : mfL V n b 6 = true) : nI 1 = bI (mfB vl iv V n b) := by
  unfold mfB
  rw [ts_nf h1, h2, h3, h4]; rfl
theorem ivs31 (iv : Nat → Nat) (n b : Nat) : ivs iv n b 6 < 2 ^ 31 := Nat.lt_trans (ivs_64 iv n b 6 (by decide)) (by decide)
theorem cB_it {f : Nat → Bool} {k : Nat} (h : ¬ f k = false) : nI (cB f k) + 1 = nI (cB f (k + 1)) := by rw [cB_t (ts_nf h), nI_1]
/-! goals -/
def glB (iv : Nat → Nat) (V N : Nat → Bool) (n b : Nat) : Bool := bif (ivs iv n b 6 == 0) then anyR V n b else (cn (ivs iv n b 6) 6 == 1) && anyR N n b
def glF (iv : Nat → Nat) (V N : Nat → Bool) (n j : Nat) : Bool := glB iv V N n (ux n j)
theorem gl_0 {iv : Nat → Nat} {V N : Nat → Bool} {n b : Nat} (h : ivs iv n b 6 = 0) : glB iv V N n b = anyR V n b := by unfold glB; rw [h, beq_self_eq_true, cond_true]
theorem gl_n {iv : Nat → Nat} {V N : Nat → Bool} {n b : Nat} (h : ¬ ivs iv n b 6 = 0) : glB iv V N n b = ((cn (ivs iv n b 6) 6 == 1) && anyR N n b) := by unfold glB; rw [beq_false_of_ne h]; rfl
theorem gl_a {iv : Nat → Nat} {V N : Nat → Bool} {n b : Nat} (h : ¬ ivs iv n b 6 = 0) (h1 : ¬ cn (ivs iv n b 6) 6 = 1) : nI 0 = bI (glB iv V N n b) := by rw [gl_n h, beq_false_of_ne h1]; rfl
theorem gl_b {iv : Nat → Nat} {V N : Nat → Bool} {n b : Nat} (h : ¬ ivs iv n b 6 = 0) (h1 : anyR N n b = false) : nI 0 = bI (glB iv V N n b) := by rw [gl_n h, h1, Bool.and_false]; rfl
theorem gl_c {iv : Nat → Nat} {V N : Nat → Bool} {n b : Nat} (h : ¬ ivs iv n b 6 = 0) (h1 : cn (ivs iv n b 6) 6 = 1) (h2 : ¬ anyR N n b = false) : nI 1 = bI (glB iv V N n b) := by rw [gl_n h, h1, ts_nf h2]; rfl
def sumN (f : Nat → Nat) : Nat → Nat
  | 0 => 0
  | k + 1 => sumN f k + f k
theorem sumN_le {f : Nat → Nat} {c : Nat} (h : ∀ i, f i ≤ c) : ∀ k, sumN f k ≤ k * c
  | 0 => by rw [Nat.zero_mul]; exact Nat.le_refl _
  | k + 1 => by
    have h1 := sumN_le h k
    have h2 := h k
    show sumN f k + f k ≤ (k + 1) * c
    rw [Nat.succ_mul]
    omega
/-- the number of goals of the set n -/
def gsF (iv : Nat → Nat) (V N ak : Nat → Bool) (n : Nat) : Nat := bif ak n then cB (glF iv V N n) (4 ^ cn n 6) else 0
theorem gsF_le (iv : Nat → Nat) (V N ak : Nat → Bool) (n : Nat) : gsF iv V N ak n ≤ 4096 := by
  unfold gsF
  cases ak n
  · exact Nat.zero_le _
  · exact Nat.le_trans (cB_le _ _) (p4cn n)
theorem gs_f {iv : Nat → Nat} {V N ak : Nat → Bool} {n : Nat} (h : ak n = false) : sumN (gsF iv V N ak) (n + 1) = sumN (gsF iv V N ak) n := by
  show sumN (gsF iv V N ak) n + gsF iv V N ak n = _
  unfold gsF; rw [h]; rfl
theorem gs_t {iv : Nat → Nat} {V N ak : Nat → Bool} {n : Nat} (h : ¬ ak n = false) : nI (sumN (gsF iv V N ak) n + cB (glF iv V N n) (4 ^ cn n 6)) = nI (sumN (gsF iv V N ak) (n + 1)) := by
  show _ = nI (sumN (gsF iv V N ak) n + gsF iv V N ak n)
  congr 2
  unfold gsF; rw [ts_nf h]; rfl
/-! what a row covers, out of the class's words -/
theorem ivs_bit (iv : Nat → Nat) (n b : Nat) : ∀ k p, (ivs iv n b k).testBit p = (decide (p < k) && (n.testBit p && (iv p).testBit (dg b p)))
  | 0, p => by rw [decide_eq_false (Nat.not_lt_zero _)]; exact Nat.zero_testBit p
  | k + 1, p => by
    have ih := ivs_bit iv n b k p
    have hlt := ivs_lt iv n b k
    show (ivs iv n b k + cond (n.testBit k && (iv k).testBit (dg b k)) (2 ^ k) 0).testBit p = _
    cases hc : (n.testBit k && (iv k).testBit (dg b k))
    · show (ivs iv n b k + 0).testBit p = _
      rw [Nat.add_zero, ih, lt_sB]
      by_cases e : p = k
      · rw [e, hc, Bool.and_false, Bool.and_false]
      · rw [beq_false_of_ne e, Bool.or_false]
    · show (ivs iv n b k + 2 ^ k).testBit p = _
      rw [Nat.add_comm, lt_sB]
      rcases Nat.lt_trichotomy p k with h | h | h
      · rw [Nat.testBit_two_pow_add_gt h, ih, beq_false_of_ne (by omega), Bool.or_false]
      · subst h
        rw [Nat.testBit_two_pow_add_eq, ih, decide_eq_false (Nat.lt_irrefl _), Bool.false_and, beq_self_eq_true, hc]
        rfl
      · have h2 : 2 ^ (k + 1) ≤ 2 ^ p := Nat.pow_le_pow_right (by decide) h
        rw [Nat.pow_succ] at h2
        rw [Nat.testBit_lt_two_pow (show 2 ^ k + ivs iv n b k < 2 ^ p by omega), decide_eq_false (by omega), beq_false_of_ne (by omega)]
        rfl
theorem sub6_iff {n s : Nat} : ∀ {k : Nat}, sub6 n s k = true ↔ ∀ p, p < k → n.testBit p = true → s.testBit p = true
  | 0 => ⟨fun _ p hp => absurd hp (Nat.not_lt_zero _), fun _ => rfl⟩
  | k + 1 => by
    show (sub6 n s k && (!(n.testBit k) || s.testBit k)) = true ↔ _
    rw [Bool.and_eq_true, sub6_iff, Bool.or_eq_true, Bool.not_eq_true']
    constructor
    · rintro ⟨h1, h2⟩ p hp hb
      by_cases e : p = k
      · subst e
        rcases h2 with h2 | h2
        · rw [h2] at hb; cases hb
        · exact h2
      · exact h1 p (by omega) hb
    · intro h
      refine ⟨fun p hp hb => h p (by omega) hb, ?_⟩
      cases hb : n.testBit k
      · exact Or.inl rfl
      · exact Or.inr (h k (by omega) hb)
theorem sub_0 (s : Nat) : sub6 0 s 6 = true := sub6_iff.mpr (fun p _ h => by rw [Nat.zero_testBit] at h; cases h)
theorem sub_iv {iv : Nat → Nat} {P r s : Nat} (hi0 : ∀ p, P ≤ p → p < 6 → iv p = 0) : sub6 (ivs iv (2 ^ P - 1) r 6) s 6 = inb iv r s 6 := by
  rw [Bool.eq_iff_iff, sub6_iff, inb_iff]
  constructor
  · intro h p hp hb
    apply h p hp
    rw [ivs_bit, hb, Bool.and_true, Nat.testBit_two_pow_sub_one, decide_eq_true hp, Bool.true_and, decide_eq_true_iff]
    apply Classical.byContradiction
    intro hP
    rw [hi0 p (by omega) hp, Nat.zero_testBit] at hb
    cases hb
  · intro h p hp hb
    rw [ivs_bit, Bool.and_eq_true, Bool.and_eq_true] at hb
    exact h p hp hb.2.2
theorem sc_V {iv : Nat → Nat} {V N : Nat → Bool} (hVN : VN iv V N) {ak : Nat → Bool} {r : Nat} (h : ¬ V r = false) (s : Nat) : (ak s && sub6 0 s 6) = csB iv V N ak r s := by
  unfold csB
  rw [sub_0, ts_nf h, Bool.true_or, Bool.true_and, Bool.and_true, inb_iff.mpr (fun p hp hb => by rw [cB_zero.mp ((hVN r).1 (ts_nf h)) p hp] at hb; cases hb), Bool.and_true]
theorem sc_N {iv : Nat → Nat} {V N : Nat → Bool} {ak : Nat → Bool} {P r : Nat} (hi0 : ∀ p, P ≤ p → p < 6 → iv p = 0) (h : ¬ N r = false) (s : Nat) : (ak s && sub6 (ivs iv (2 ^ P - 1) r 6) s 6) = csB iv V N ak r s := by
  unfold csB
  rw [sub_iv hi0, ts_nf h, Bool.or_true, Bool.true_and]
theorem sc_0 {iv : Nat → Nat} {V N : Nat → Bool} {ak : Nat → Bool} {r : Nat} (h : V r = false) (h2 : N r = false) (s : Nat) : false = csB iv V N ak r s := by
  unfold csB
  rw [h, h2, Bool.or_false, Bool.false_and, Bool.and_false]
/-! cover, lower -/
theorem pc6_or {n r i : Nat} (h : ¬ n.testBit i = false) : nI (pc6 n r i * 2 ^ 2) ||| nI (dg r i) = nI (pc6 n r (i + 1)) := by
  have h2 := Nat.shiftLeft_add_eq_or_of_lt (show dg r i < 2 ^ 2 from dg_lt r i) (pc6 n r i)
  rw [Nat.shiftLeft_eq] at h2
  rw [nx_or, ← h2, pc6_t (ts_nf h)]
theorem pc6_4096 (n r : Nat) {i : Nat} (h : i ≤ 6) : pc6 n r i < 4096 := Nat.lt_of_lt_of_le (pc6_lt n r i) (p4le (b := 6) (Nat.le_trans (cn_le n i) h))
theorem pc6_64 {n : Nat} (r : Nat) (h : cn n 6 ≤ 3) : pc6 n r 6 < 64 := Nat.lt_of_lt_of_le (pc6_lt n r 6) (p4le (b := 3) h)
theorem cv_bit {x : Int64} {k : Nat} (hk : k < 64) : x &&& ((1 : Int64) <<< ((nI k).toInt64 &&& 63)) = 0 ↔ bL x k = false := by
  constructor
  · intro h
    have h1 := congrArg (fun y => bL y k) h
    simp only [bL_and] at h1
    rw [sh1_all k hk k hk, beq_self_eq_true, Bool.and_true, bL_0] at h1
    exact h1
  · intro h
    apply bL_ext0
    intro t ht
    rw [bL_and, sh1_all k hk t ht]
    by_cases e : t = k
    · rw [e, h]; rfl
    · rw [beq_false_of_ne e, Bool.and_false]
theorem cv_set {cv d : Nat → Int64} {n k : Nat} (hk : k < 64) (h : vp_updL cv n (cv n ||| ((1 : Int64) <<< ((nI k).toInt64 &&& 63))) = d) : ∀ a, ∀ t, t < 64 → bL (d a) t = (bL (cv a) t || (a == n && t == k)) := by
  intro a t ht
  rw [← h]
  by_cases e : a = n
  · rw [e, pk_uLs, bL_or, sh1_all k hk t ht, beq_self_eq_true, Bool.true_and]
  · rw [pk_uLn e, beq_false_of_ne e, Bool.false_and, Bool.or_false]
def lgP (gs : Nat → Nat) (K : Nat → Bool) (P n r mm j : Nat) (d : Nat → Nat) : Prop := ∀ s, s < 4 ^ P → d s = if tp n s = tp n r ∧ tp mm s < j ∧ K s = true then gs s - 1 else gs s
theorem lg_0 {gs : Nat → Nat} {K : Nat → Bool} {P n r mm : Nat} : lgP gs K P n r mm 0 gs := fun s _ => by rw [if_neg (fun z => Nat.not_lt_zero _ z.2.1)]
theorem lg_at {gs d : Nat → Nat} {K : Nat → Bool} {P n r mm j : Nat} (hP : P < 7) (hn : n < 2 ^ P) (hr : r < 4 ^ P) (hm : mm = 2 ^ P - 1 - n) (hj : j < 4 ^ cn mm 6) (h : lgP gs K P n r mm j d) : d (ot r n mm j) = gs (ot r n mm j) := by
  subst hm
  have ho := ot_P (j := j) hP hn hr
  have hi := (ot_iff hP hn hr ho hj).mp rfl
  rw [h _ ho, if_neg (fun z => by have := z.2.1; rw [hi.2] at this; omega)]
theorem lg_F {gs d : Nat → Nat} {K : Nat → Bool} {P n r mm j : Nat} (hP : P < 7) (hn : n < 2 ^ P) (hr : r < 4 ^ P) (hm : mm = 2 ^ P - 1 - n) (hj : j < 4 ^ cn mm 6) (h : lgP gs K P n r mm j d) (hK : K (ot r n mm j) = false) : lgP gs K P n r mm (j + 1) d := by
  subst hm
  intro s hs
  rw [h s hs]
  by_cases e : s = ot r n (2 ^ P - 1 - n) j
  · rw [if_neg (fun z => by rw [e, hK] at z; exact Bool.noConfusion z.2.2), if_neg (fun z => by rw [e, hK] at z; exact Bool.noConfusion z.2.2)]
  · have e2 : ¬ (tp n s = tp n r ∧ tp (2 ^ P - 1 - n) s = j) := fun z => e ((ot_iff hP hn hr hs hj).mpr z)
    by_cases c : tp n s = tp n r ∧ tp (2 ^ P - 1 - n) s < j ∧ K s = true
    · rw [if_pos c, if_pos ⟨c.1, by omega, c.2.2⟩]
    · rw [if_neg c, if_neg (fun z => c ⟨z.1, by
        have h1 := z.2.1
        have h2 : ¬ tp (2 ^ P - 1 - n) s = j := fun q => e2 ⟨z.1, q⟩
        omega, z.2.2⟩)]
theorem lg_T {gs d : Nat → Nat} {K : Nat → Bool} {P n r mm j : Nat} (hP : P < 7) (hn : n < 2 ^ P) (hr : r < 4 ^ P) (hm : mm = 2 ^ P - 1 - n) (hj : j < 4 ^ cn mm 6) (h : lgP gs K P n r mm j d) (hK : ¬ K (ot r n mm j) = false) : lgP gs K P n r mm (j + 1) (upN d (ot r n mm j) (d (ot r n mm j) - 1)) := by
  have hat := lg_at hP hn hr hm hj h
  subst hm
  intro s hs
  by_cases e : s = ot r n (2 ^ P - 1 - n) j
  · have hi := (ot_iff hP hn hr hs hj).mp e
    rw [if_pos ⟨hi.1, by omega, by rw [e]; exact ts_nf hK⟩, e, upN_s, hat]
  · rw [upN_n e, h s hs]
    have e2 : ¬ (tp n s = tp n r ∧ tp (2 ^ P - 1 - n) s = j) := fun z => e ((ot_iff hP hn hr hs hj).mpr z)
    by_cases c : tp n s = tp n r ∧ tp (2 ^ P - 1 - n) s < j ∧ K s = true
    · rw [if_pos c, if_pos ⟨c.1, by omega, c.2.2⟩]
    · rw [if_neg c, if_neg (fun z => c ⟨z.1, by
        have h1 := z.2.1
        have h2 : ¬ tp (2 ^ P - 1 - n) s = j := fun q => e2 ⟨z.1, q⟩
        omega, z.2.2⟩)]
theorem lg_end {gs d : Nat → Nat} {K : Nat → Bool} {P n r mm j : Nat} (hj : 4 ^ cn mm 6 ≤ j) (h : lgP gs K P n r mm j d) : ∀ s, s < 4 ^ P → d s = if tp n s = tp n r ∧ K s = true then gs s - 1 else gs s := fun s hs => by
  rw [h s hs]
  have hlt : tp mm s < j := Nat.lt_of_lt_of_le (tp_lt4 mm s) hj
  by_cases c : tp n s = tp n r ∧ K s = true
  · rw [if_pos c, if_pos ⟨c.1, hlt, c.2⟩]
  · rw [if_neg c, if_neg (fun z => c ⟨z.1, z.2.2⟩)]
theorem cm64 {P n mm : Nat} (hP : P < 7) (hm : mm = 2 ^ P - 1 - n) : mm < 64 := by
  have := pw2le (P := P) (by omega)
  omega
/-! the best -/
def oI (b : Option Nat) : Int32 := match b with
  | none => -1
  | some b => nI b
theorem oI_m1 {b : Option Nat} (h : ∀ x, b = some x → x < 2 ^ 31) : oI b = -1 ↔ b = none := by
  cases b with
  | none => exact ⟨fun _ => rfl, fun _ => rfl⟩
  | some x =>
    refine ⟨fun z => ?_, fun z => by cases z⟩
    have h1 := nI_pos (h x rfl)
    have z : nI x = -1 := z
    rw [z] at h1
    exact absurd (by decide) h1
theorem mst_lt {g : Nat → Nat} {c : Nat} (hc : 0 < c) (h : ∀ s, g s < c) (b : Option Nat) : mst g b < c := by
  cases b with
  | none => exact hc
  | some b => exact h b
theorem bs_lt {R : Nat → Bool} {g : Nat → Nat} {k : Nat} {b : Option Nat} (h : bsP R g k b) : ∀ x, b = some x → x < k := fun x hx => by
  subst hx
  exact h.1
def bst2 (V N : Nat → Bool) (g : Nat → Nat) (k : Nat) (b : Option Nat) : Prop := (bsP V g k b ∧ ¬ b = none) ∨ (bsP V g k none ∧ bsP N g k b)
end
section
theorem up31 {d : Nat → Nat} (h : ∀ s, d s < 2 ^ 31) {k x : Nat} (hx : x < 2 ^ 31) : ∀ s, upN d k x s < 2 ^ 31 := fun s => by
  by_cases e : s = k
  · rw [e, upN_s]; exact hx
  · rw [upN_n e]; exact h s
theorem ot_tp {P n r mm j : Nat} (hP : P < 7) (hn : n < 2 ^ P) (hr : r < 4 ^ P) (hm : mm = 2 ^ P - 1 - n) (hj : j < 4 ^ cn mm 6) : tp n (ot r n mm j) = tp n r := by
  subst hm
  exact ((ot_iff hP hn hr (ot_P hP hn hr) hj).mp rfl).1
theorem stK {d F : Nat → Nat} {k : Nat} (h : ∀ s, s < k → d s = F s) : ∀ s, s < k + 1 → upN d k (F k) s = F s := fun s hs => by
  by_cases e : s = k
  · rw [e, upN_s]
  · rw [upN_n e]; exact h s (by omega)
end
section
set_option maxHeartbeats 4000000 in
set_option maxRecDepth 100000 in
theorem k_Sp_addParameter (l : Launch) (X : Cx) (h0 hv hi hM hV hN : Nat) (P nr : Nat) (vl iv : Nat → Nat) (hvl : ∀ p, p < 6 → 1 ≤ vl p ∧ vl p ≤ 4) (hiv : ∀ p, p < 6 → iv p < 16) (wM wV wN : Nat) (fM fV fN : Nat → Int64) (M : Nat → Bool) (hM0 : RS fM M) (v : Nat) (hv2 : 2 ≤ v) (hv4 : v ≤ 4) (hP5 : P < 6) : CtV l X (TY X) y_Sp_addParameter cw_Sp_addParameter ({ frames := 4, cells := 0, slots := 0, locals := 99 } : Room) [.ref h0, .int (nI v)] [(h0, .inr (2, [.ref hv, .ref hi, .ref hM, .ref hV, .ref hN, .int (nI P), .int (nI nr)])), (hv, .inl (X.2 0, 6, .inl (ia vl))), (hi, .inl (X.2 0, 6, .inl (ia iv))), (hM, .inr (0, [.ref wM])), (wM, .inl (X.2 1, 64, .inr (.inl fM))), (hV, .inr (0, [.ref wV])), (wV, .inl (X.2 1, 64, .inr (.inl fV))), (hN, .inr (0, [.ref wN])), (wN, .inl (X.2 1, 64, .inr (.inl fN)))] (S := (Nat → Int64) × (Nat → Int64)) (fun d => RS d.1 (fun r => vK (upN vl P v) iv M r 6) ∧ RS d.2 (fun r => nK (upN vl P v) iv M r 6)) (fun d => [(h0, .inr (2, [.ref hv, .ref hi, .ref hM, .ref hV, .ref hN, .int (nI (P + 1)), .int (nI nr)])), (hv, .inl (X.2 0, 6, .inl (ia (upN vl P v)))), (hi, .inl (X.2 0, 6, .inl (ia iv))), (hM, .inr (0, [.ref wM])), (wM, .inl (X.2 1, 64, .inr (.inl fM))), (hV, .inr (0, [.ref wV])), (wV, .inl (X.2 1, 64, .inr (.inl d.1))), (hN, .inr (0, [.ref wN])), (wN, .inl (X.2 1, 64, .inr (.inl d.2)))]) 0 0 := by
  refine metV (by decide) (Nat.le_of_ble_eq_true rfl) ?_
  intro p e s m below meth c A ls hB hl
  obtain ⟨hx, hb, hr, hml, hown, hlk, hin, hg, hA, hD, hP, hE⟩ := hB
  have hS : va_S A s.heap s.heap [] := va_S.rf
  have hl : lv_has ls 2 [(0, .ref h0), (1, .int (nI v))] := hl
  refine lv_aload_n hx hb d_Sp_addParameter_0 rfl (lv_at hl 0 rfl) ?_
  refine va_get (D := X.1) (ci := 2) (v := .ref hv) (C := R_Sp) (T := F_Sp) (N := 7) hx hb hg in_Sp hown hE.1 hP 0 rfl rfl 0 (by decide) (hg _ m_66) (fun _ h9 => h9) rfl d_Sp_addParameter_1 ?_
  refine lv_aload_n hx hb d_Sp_addParameter_4 rfl (lv_at hl 0 rfl) ?_
  refine va_get (D := X.1) (ci := 2) (v := .int (nI P)) (C := R_Sp) (T := F_Sp) (N := 7) hx hb hg in_Sp hown hE.1 hP 0 rfl rfl 5 (by decide) (hg _ m_75) (fun _ h9 => h9) rfl d_Sp_addParameter_5 ?_
  refine lv_iload_n hx hb d_Sp_addParameter_8 rfl (lv_at hl 1 rfl) ?_
  refine va_iast hx hb hE.1 hP hD hS 1 0 rfl rfl (vp_in_nI (by omega) (by decide)) d_Sp_addParameter_9 (fun H locs hP hD hS => ?_)
  have hP : va_P X.1 classes [(h0, .inr (2, [.ref hv, .ref hi, .ref hM, .ref hV, .ref hN, .int (nI P), .int (nI nr)])), (hv, .inl (X.2 0, 6, .inl (upd (ia vl) (nI P).toNatClampNeg (nI v)))), (hi, .inl (X.2 0, 6, .inl (ia iv))), (hM, .inr (0, [.ref wM])), (wM, .inl (X.2 1, 64, .inr (.inl fM))), (hV, .inr (0, [.ref wV])), (wV, .inl (X.2 1, 64, .inr (.inl fV))), (hN, .inr (0, [.ref wN])), (wN, .inl (X.2 1, 64, .inr (.inl fN)))] H := hP
  have hD : va_D A [(h0, .inr (2, [.ref hv, .ref hi, .ref hM, .ref hV, .ref hN, .int (nI P), .int (nI nr)])), (hv, .inl (X.2 0, 6, .inl (upd (ia vl) (nI P).toNatClampNeg (nI v)))), (hi, .inl (X.2 0, 6, .inl (ia iv))), (hM, .inr (0, [.ref wM])), (wM, .inl (X.2 1, 64, .inr (.inl fM))), (hV, .inr (0, [.ref wV])), (wV, .inl (X.2 1, 64, .inr (.inl fV))), (hN, .inr (0, [.ref wN])), (wN, .inl (X.2 1, 64, .inr (.inl fN)))] := hD
  rw [nI_clamp (show P < 2 ^ 31 by omega)] at hP hD
  have e9 : upd (ia vl) P (nI v) = ia (upN vl P v) := upd_ia _ _ _
  rw [e9] at hP hD
  clear e9
  refine lv_aload_n hx hb d_Sp_addParameter_10 rfl (lv_at hl 0 rfl) ?_
  refine lv_dup hx hb d_Sp_addParameter_11 rfl ?_
  refine va_get (D := X.1) (ci := 2) (v := .int (nI P)) (C := R_Sp) (T := F_Sp) (N := 7) hx hb hg in_Sp hown hE.1 hP 0 rfl rfl 5 (by decide) (hg _ m_75) (fun _ h9 => h9) rfl d_Sp_addParameter_12 ?_
  refine lv_iconst (v := nI 1) hx hb d_Sp_addParameter_15 (by decide) ?_
  refine lv_iadd hx hb d_Sp_addParameter_16 ?_
  refine topI (nI_add _ _) ?_
  refine va_put (D := X.1) (ci := 2) (v := .int (nI (P + 1))) (ty := .int) (C := R_Sp) (T := F_Sp) (N := 7) hx hb hg in_Sp t_Sp t_Sp_ok n_Sp hown hE.1 hP hD hS 0 rfl rfl 5 (by decide) (hg _ m_75) (fun _ h9 => h9) rfl (by decide +kernel) rfl rfl (Nat.le_of_ble_eq_true rfl) d_Sp_addParameter_17 (fun H locs hP hD hS => ?_)
  have hP : va_P X.1 classes [(h0, .inr (2, [.ref hv, .ref hi, .ref hM, .ref hV, .ref hN, .int (nI (P + 1)), .int (nI nr)])), (hv, .inl (X.2 0, 6, .inl (ia (upN vl P v)))), (hi, .inl (X.2 0, 6, .inl (ia iv))), (hM, .inr (0, [.ref wM])), (wM, .inl (X.2 1, 64, .inr (.inl fM))), (hV, .inr (0, [.ref wV])), (wV, .inl (X.2 1, 64, .inr (.inl fV))), (hN, .inr (0, [.ref wN])), (wN, .inl (X.2 1, 64, .inr (.inl fN)))] H := hP
  have hD : va_D A [(h0, .inr (2, [.ref hv, .ref hi, .ref hM, .ref hV, .ref hN, .int (nI (P + 1)), .int (nI nr)])), (hv, .inl (X.2 0, 6, .inl (ia (upN vl P v)))), (hi, .inl (X.2 0, 6, .inl (ia iv))), (hM, .inr (0, [.ref wM])), (wM, .inl (X.2 1, 64, .inr (.inl fM))), (hV, .inr (0, [.ref wV])), (wV, .inl (X.2 1, 64, .inr (.inl fV))), (hN, .inr (0, [.ref wN])), (wN, .inl (X.2 1, 64, .inr (.inl fN)))] := hD
  refine lv_aload_n hx hb d_Sp_addParameter_20 rfl (lv_at hl 0 rfl) ?_
  refine clVV (n := 0) (As := []) (rest := []) (wc := [(h0, .inr (2, [.ref hv, .ref hi, .ref hM, .ref hV, .ref hN, .int (nI (P + 1)), .int (nI nr)])), (hv, .inl (X.2 0, 6, .inl (ia (upN vl P v)))), (hi, .inl (X.2 0, 6, .inl (ia iv))), (hM, .inr (0, [.ref wM])), (wM, .inl (X.2 1, 64, .inr (.inl fM))), (hV, .inr (0, [.ref wV])), (wV, .inl (X.2 1, 64, .inr (.inl fV))), (hN, .inr (0, [.ref wN])), (wN, .inl (X.2 1, 64, .inr (.inl fN)))]) (wr := []) hx hb hml hown hg hE hA hP hD hS (k_Sp_sortRows l X h0 hv hi hM hV hN (P + 1) nr (upN vl P v) iv (upV hvl hv2 hv4) hiv wM wV wN fM fV fN M hM0) (gcons m_50 (gcons m_52 (gcons ms_Sp_sortRows (gcons m_2 (gcons m_53 gG))))) (by decide +kernel) [0, 1, 2, 3, 4, 5, 6, 7, 8] [] rfl rfl (by decide) (by decide) (by decide) 0 rfl rfl rfl hl.1 (Nat.le_of_ble_eq_true rfl) rfl d_Sp_addParameter_21 ⟨rfl, rfl, Nat.le_of_ble_eq_true rfl, Nat.le_of_ble_eq_true rfl⟩ (⟨Nat.le_of_ble_eq_true rfl, Nat.le_of_ble_eq_true rfl⟩) (fun d H locs hd hP hD hS => ?_)
  have hP : va_P X.1 classes [(h0, .inr (2, [.ref hv, .ref hi, .ref hM, .ref hV, .ref hN, .int (nI (P + 1)), .int (nI nr)])), (hv, .inl (X.2 0, 6, .inl (ia (upN vl P v)))), (hi, .inl (X.2 0, 6, .inl (ia iv))), (hM, .inr (0, [.ref wM])), (wM, .inl (X.2 1, 64, .inr (.inl fM))), (hV, .inr (0, [.ref wV])), (wV, .inl (X.2 1, 64, .inr (.inl d.1))), (hN, .inr (0, [.ref wN])), (wN, .inl (X.2 1, 64, .inr (.inl d.2)))] H := hP
  have hD : va_D A [(h0, .inr (2, [.ref hv, .ref hi, .ref hM, .ref hV, .ref hN, .int (nI (P + 1)), .int (nI nr)])), (hv, .inl (X.2 0, 6, .inl (ia (upN vl P v)))), (hi, .inl (X.2 0, 6, .inl (ia iv))), (hM, .inr (0, [.ref wM])), (wM, .inl (X.2 1, 64, .inr (.inl fM))), (hV, .inr (0, [.ref wV])), (wV, .inl (X.2 1, 64, .inr (.inl d.1))), (hN, .inr (0, [.ref wN])), (wN, .inl (X.2 1, 64, .inr (.inl d.2)))] := hD
  exact retV (u := d) hx hb hr hlk hP hD hS (hd) d_Sp_addParameter_24
set_option maxHeartbeats 4000000 in
set_option maxRecDepth 100000 in
theorem k_Sp_makeInvalid (l : Launch) (X : Cx) (h0 hv hi hM hV hN : Nat) (P nr : Nat) (vl iv : Nat → Nat) (hvl : ∀ p, p < 6 → 1 ≤ vl p ∧ vl p ≤ 4) (hiv : ∀ p, p < 6 → iv p < 16) (wM wV wN : Nat) (fM fV fN : Nat → Int64) (M : Nat → Bool) (hM0 : RS fM M) (q v : Nat) (hq : q < 6) (hv4 : v < 4) : CtV l X (TY X) y_Sp_makeInvalid cw_Sp_makeInvalid ({ frames := 4, cells := 0, slots := 0, locals := 99 } : Room) [.ref h0, .int (nI q), .int (nI v)] [(h0, .inr (2, [.ref hv, .ref hi, .ref hM, .ref hV, .ref hN, .int (nI P), .int (nI nr)])), (hv, .inl (X.2 0, 6, .inl (ia vl))), (hi, .inl (X.2 0, 6, .inl (ia iv))), (hM, .inr (0, [.ref wM])), (wM, .inl (X.2 1, 64, .inr (.inl fM))), (hV, .inr (0, [.ref wV])), (wV, .inl (X.2 1, 64, .inr (.inl fV))), (hN, .inr (0, [.ref wN])), (wN, .inl (X.2 1, 64, .inr (.inl fN)))] (S := (Nat → Int64) × (Nat → Int64)) (fun d => RS d.1 (fun r => vK vl (upN iv q (iv q ||| 1 * 2 ^ v)) M r 6) ∧ RS d.2 (fun r => nK vl (upN iv q (iv q ||| 1 * 2 ^ v)) M r 6)) (fun d => [(h0, .inr (2, [.ref hv, .ref hi, .ref hM, .ref hV, .ref hN, .int (nI P), .int (nI nr)])), (hv, .inl (X.2 0, 6, .inl (ia vl))), (hi, .inl (X.2 0, 6, .inl (ia (upN iv q (iv q ||| 1 * 2 ^ v))))), (hM, .inr (0, [.ref wM])), (wM, .inl (X.2 1, 64, .inr (.inl fM))), (hV, .inr (0, [.ref wV])), (wV, .inl (X.2 1, 64, .inr (.inl d.1))), (hN, .inr (0, [.ref wN])), (wN, .inl (X.2 1, 64, .inr (.inl d.2)))]) 0 0 := by
  refine metV (by decide) (Nat.le_of_ble_eq_true rfl) ?_
  intro p e s m below meth c A ls hB hl
  obtain ⟨hx, hb, hr, hml, hown, hlk, hin, hg, hA, hD, hP, hE⟩ := hB
  have hS : va_S A s.heap s.heap [] := va_S.rf
  have hl : lv_has ls 3 [(0, .ref h0), (1, .int (nI q)), (2, .int (nI v))] := hl
  refine lv_aload_n hx hb d_Sp_makeInvalid_0 rfl (lv_at hl 0 rfl) ?_
  refine va_get (D := X.1) (ci := 2) (v := .ref hi) (C := R_Sp) (T := F_Sp) (N := 7) hx hb hg in_Sp hown hE.1 hP 0 rfl rfl 1 (by decide) (hg _ m_67) (fun _ h9 => h9) rfl d_Sp_makeInvalid_1 ?_
  refine lv_iload_n hx hb d_Sp_makeInvalid_4 rfl (lv_at hl 1 rfl) ?_
  refine lv_dup2_11 hx hb d_Sp_makeInvalid_5 rfl rfl ?_
  refine va_iald hx hb hE.1 hP 2 0 rfl rfl (vp_in_nI (by omega) (by decide)) d_Sp_makeInvalid_6 ?_
  refine topI (y := (ia iv) q) (by rw [nI_clamp (by omega)]) ?_
  refine topI (y := nI (iv q)) (rfl) ?_
  refine lv_iconst (v := nI 1) hx hb d_Sp_makeInvalid_7 (by decide) ?_
  refine lv_iload_n hx hb d_Sp_makeInvalid_8 rfl (lv_at hl 2 rfl) ?_
  refine lv_ishl hx hb d_Sp_makeInvalid_9 ?_
  refine topI (shlN (by omega) (pw1 (by omega))) ?_
  refine lv_ior hx hb d_Sp_makeInvalid_10 ?_
  refine topI (nx_or _ _) ?_
  refine va_iast hx hb hE.1 hP hD hS 2 0 rfl rfl (vp_in_nI (by omega) (by decide)) d_Sp_makeInvalid_11 (fun H locs hP hD hS => ?_)
  have hP : va_P X.1 classes [(h0, .inr (2, [.ref hv, .ref hi, .ref hM, .ref hV, .ref hN, .int (nI P), .int (nI nr)])), (hv, .inl (X.2 0, 6, .inl (ia vl))), (hi, .inl (X.2 0, 6, .inl (upd (ia iv) (nI q).toNatClampNeg (nI ((iv q) ||| (1 * 2 ^ v)))))), (hM, .inr (0, [.ref wM])), (wM, .inl (X.2 1, 64, .inr (.inl fM))), (hV, .inr (0, [.ref wV])), (wV, .inl (X.2 1, 64, .inr (.inl fV))), (hN, .inr (0, [.ref wN])), (wN, .inl (X.2 1, 64, .inr (.inl fN)))] H := hP
  have hD : va_D A [(h0, .inr (2, [.ref hv, .ref hi, .ref hM, .ref hV, .ref hN, .int (nI P), .int (nI nr)])), (hv, .inl (X.2 0, 6, .inl (ia vl))), (hi, .inl (X.2 0, 6, .inl (upd (ia iv) (nI q).toNatClampNeg (nI ((iv q) ||| (1 * 2 ^ v)))))), (hM, .inr (0, [.ref wM])), (wM, .inl (X.2 1, 64, .inr (.inl fM))), (hV, .inr (0, [.ref wV])), (wV, .inl (X.2 1, 64, .inr (.inl fV))), (hN, .inr (0, [.ref wN])), (wN, .inl (X.2 1, 64, .inr (.inl fN)))] := hD
  rw [nI_clamp (show q < 2 ^ 31 by omega)] at hP hD
  have e9 : upd (ia iv) q (nI ((iv q) ||| (1 * 2 ^ v))) = ia (upN iv q (iv q ||| 1 * 2 ^ v)) := upd_ia _ _ _
  rw [e9] at hP hD
  clear e9
  refine lv_aload_n hx hb d_Sp_makeInvalid_12 rfl (lv_at hl 0 rfl) ?_
  refine clVV (n := 0) (As := []) (rest := []) (wc := [(h0, .inr (2, [.ref hv, .ref hi, .ref hM, .ref hV, .ref hN, .int (nI P), .int (nI nr)])), (hv, .inl (X.2 0, 6, .inl (ia vl))), (hi, .inl (X.2 0, 6, .inl (ia (upN iv q (iv q ||| 1 * 2 ^ v))))), (hM, .inr (0, [.ref wM])), (wM, .inl (X.2 1, 64, .inr (.inl fM))), (hV, .inr (0, [.ref wV])), (wV, .inl (X.2 1, 64, .inr (.inl fV))), (hN, .inr (0, [.ref wN])), (wN, .inl (X.2 1, 64, .inr (.inl fN)))]) (wr := []) hx hb hml hown hg hE hA hP hD hS (k_Sp_sortRows l X h0 hv hi hM hV hN P nr vl (upN iv q (iv q ||| 1 * 2 ^ v)) hvl (upI hiv (or16 (hiv q hq) hv4)) wM wV wN fM fV fN M hM0) (gcons m_50 (gcons m_52 (gcons ms_Sp_sortRows (gcons m_2 (gcons m_53 gG))))) (by decide +kernel) [0, 1, 2, 3, 4, 5, 6, 7, 8] [] rfl rfl (by decide) (by decide) (by decide) 0 rfl rfl rfl hl.1 (Nat.le_of_ble_eq_true rfl) rfl d_Sp_makeInvalid_13 ⟨rfl, rfl, Nat.le_of_ble_eq_true rfl, Nat.le_of_ble_eq_true rfl⟩ (⟨Nat.le_of_ble_eq_true rfl, Nat.le_of_ble_eq_true rfl⟩) (fun d H locs hd hP hD hS => ?_)
  have hP : va_P X.1 classes [(h0, .inr (2, [.ref hv, .ref hi, .ref hM, .ref hV, .ref hN, .int (nI P), .int (nI nr)])), (hv, .inl (X.2 0, 6, .inl (ia vl))), (hi, .inl (X.2 0, 6, .inl (ia (upN iv q (iv q ||| 1 * 2 ^ v))))), (hM, .inr (0, [.ref wM])), (wM, .inl (X.2 1, 64, .inr (.inl fM))), (hV, .inr (0, [.ref wV])), (wV, .inl (X.2 1, 64, .inr (.inl d.1))), (hN, .inr (0, [.ref wN])), (wN, .inl (X.2 1, 64, .inr (.inl d.2)))] H := hP
  have hD : va_D A [(h0, .inr (2, [.ref hv, .ref hi, .ref hM, .ref hV, .ref hN, .int (nI P), .int (nI nr)])), (hv, .inl (X.2 0, 6, .inl (ia vl))), (hi, .inl (X.2 0, 6, .inl (ia (upN iv q (iv q ||| 1 * 2 ^ v))))), (hM, .inr (0, [.ref wM])), (wM, .inl (X.2 1, 64, .inr (.inl fM))), (hV, .inr (0, [.ref wV])), (wV, .inl (X.2 1, 64, .inr (.inl d.1))), (hN, .inr (0, [.ref wN])), (wN, .inl (X.2 1, 64, .inr (.inl d.2)))] := hD
  exact retV (u := d) hx hb hr hlk hP hD hS (hd) d_Sp_makeInvalid_16
set_option maxHeartbeats 4000000 in
set_option maxRecDepth 100000 in
theorem k_Sp_addRule (l : Launch) (X : Cx) (h0 hv hi hM hV hN : Nat) (P nr : Nat) (vl iv : Nat → Nat) (hvl : ∀ p, p < 6 → 1 ≤ vl p ∧ vl p ≤ 4) (hiv : ∀ p, p < 6 → iv p < 16) (wM wV wN : Nat) (fM fV fN : Nat → Int64) (M : Nat → Bool) (hM0 : RS fM M) (hT wT : Nat) (fT : Nat → Int64) (T : Nat → Bool) (hT0 : RS fT T) : CtV l X (TY X) y_Sp_addRule cw_Sp_addRule ({ frames := 4, cells := 0, slots := 0, locals := 99 } : Room) [.ref h0, .ref hT] [(h0, .inr (2, [.ref hv, .ref hi, .ref hM, .ref hV, .ref hN, .int (nI P), .int (nI nr)])), (hv, .inl (X.2 0, 6, .inl (ia vl))), (hi, .inl (X.2 0, 6, .inl (ia iv))), (hM, .inr (0, [.ref wM])), (wM, .inl (X.2 1, 64, .inr (.inl fM))), (hV, .inr (0, [.ref wV])), (wV, .inl (X.2 1, 64, .inr (.inl fV))), (hN, .inr (0, [.ref wN])), (wN, .inl (X.2 1, 64, .inr (.inl fN))), (hT, .inr (0, [.ref wT])), (wT, .inl (X.2 1, 64, .inr (.inl fT)))] (S := (Nat → Int64) × (Nat → Int64) × (Nat → Int64)) (fun d => RS d.1 (fun r => M r && T r) ∧ RS d.2.1 (fun r => vK vl iv (fun r => M r && T r) r 6) ∧ RS d.2.2 (fun r => nK vl iv (fun r => M r && T r) r 6)) (fun d => [(h0, .inr (2, [.ref hv, .ref hi, .ref hM, .ref hV, .ref hN, .int (nI P), .int (nI (nr + 1))])), (hv, .inl (X.2 0, 6, .inl (ia vl))), (hi, .inl (X.2 0, 6, .inl (ia iv))), (hM, .inr (0, [.ref wM])), (wM, .inl (X.2 1, 64, .inr (.inl d.1))), (hV, .inr (0, [.ref wV])), (wV, .inl (X.2 1, 64, .inr (.inl d.2.1))), (hN, .inr (0, [.ref wN])), (wN, .inl (X.2 1, 64, .inr (.inl d.2.2))), (hT, .inr (0, [.ref wT])), (wT, .inl (X.2 1, 64, .inr (.inl fT)))]) 0 0 := by
  refine metV (by decide) (Nat.le_of_ble_eq_true rfl) ?_
  intro p e s m below meth c A ls hB hl
  obtain ⟨hx, hb, hr, hml, hown, hlk, hin, hg, hA, hD, hP, hE⟩ := hB
  have hS : va_S A s.heap s.heap [] := va_S.rf
  have hl : lv_has ls 2 [(0, .ref h0), (1, .ref hT)] := hl
  refine lv_aload_n hx hb d_Sp_addRule_0 rfl (lv_at hl 0 rfl) ?_
  refine va_get (D := X.1) (ci := 2) (v := .ref hM) (C := R_Sp) (T := F_Sp) (N := 7) hx hb hg in_Sp hown hE.1 hP 0 rfl rfl 2 (by decide) (hg _ m_68) (fun _ h9 => h9) rfl d_Sp_addRule_1 ?_
  refine lv_aload_n hx hb d_Sp_addRule_4 rfl (lv_at hl 1 rfl) ?_
  refine clVV (n := 1) (As := [.ref hT]) (rest := []) (wc := [(hM, .inr (0, [.ref wM])), (wM, .inl (X.2 1, 64, .inr (.inl fM))), (hT, .inr (0, [.ref wT])), (wT, .inl (X.2 1, 64, .inr (.inl fT)))]) (wr := [(h0, .inr (2, [.ref hv, .ref hi, .ref hM, .ref hV, .ref hN, .int (nI P), .int (nI nr)])), (hv, .inl (X.2 0, 6, .inl (ia vl))), (hi, .inl (X.2 0, 6, .inl (ia iv))), (hV, .inr (0, [.ref wV])), (wV, .inl (X.2 1, 64, .inr (.inl fV))), (hN, .inr (0, [.ref wN])), (wN, .inl (X.2 1, 64, .inr (.inl fN)))]) hx hb hml hown hg hE hA hP hD hS (k_NS_becomeAnd l X hM wM hT wT fM fT M T hM0 hT0) (gcons m_288 (gcons m_269 (gcons m_270 (gcons m_3 (gcons m_271 gG))))) (by decide +kernel) [3, 4, 9, 10] [0, 1, 2, 5, 6, 7, 8] rfl rfl (by decide) (by decide) (by decide) 0 rfl rfl rfl hl.1 (Nat.le_of_ble_eq_true rfl) rfl d_Sp_addRule_5 ⟨rfl, rfl, Nat.le_of_ble_eq_true rfl, Nat.le_of_ble_eq_true rfl⟩ (⟨Nat.le_of_ble_eq_true rfl, Nat.le_of_ble_eq_true rfl⟩) (fun f2 H locs hf2 hP hD hS => ?_)
  have hP := hP.sub (ws' := [(h0, .inr (2, [.ref hv, .ref hi, .ref hM, .ref hV, .ref hN, .int (nI P), .int (nI nr)])), (hv, .inl (X.2 0, 6, .inl (ia vl))), (hi, .inl (X.2 0, 6, .inl (ia iv))), (hM, .inr (0, [.ref wM])), (wM, .inl (X.2 1, 64, .inr (.inl f2))), (hV, .inr (0, [.ref wV])), (wV, .inl (X.2 1, 64, .inr (.inl fV))), (hN, .inr (0, [.ref wN])), (wN, .inl (X.2 1, 64, .inr (.inl fN))), (hT, .inr (0, [.ref wT])), (wT, .inl (X.2 1, 64, .inr (.inl fT)))]) [0, 1, 2, 7, 8, 3, 4, 5, 6, 9, 10] rfl
  have hD := hD.sub (ws' := [(h0, .inr (2, [.ref hv, .ref hi, .ref hM, .ref hV, .ref hN, .int (nI P), .int (nI nr)])), (hv, .inl (X.2 0, 6, .inl (ia vl))), (hi, .inl (X.2 0, 6, .inl (ia iv))), (hM, .inr (0, [.ref wM])), (wM, .inl (X.2 1, 64, .inr (.inl f2))), (hV, .inr (0, [.ref wV])), (wV, .inl (X.2 1, 64, .inr (.inl fV))), (hN, .inr (0, [.ref wN])), (wN, .inl (X.2 1, 64, .inr (.inl fN))), (hT, .inr (0, [.ref wT])), (wT, .inl (X.2 1, 64, .inr (.inl fT)))]) [0, 1, 2, 7, 8, 3, 4, 5, 6, 9, 10] (by decide) rfl
  refine lv_aload_n hx hb d_Sp_addRule_8 rfl (lv_at hl 0 rfl) ?_
  refine lv_dup hx hb d_Sp_addRule_9 rfl ?_
  refine va_get (D := X.1) (ci := 2) (v := .int (nI nr)) (C := R_Sp) (T := F_Sp) (N := 7) hx hb hg in_Sp hown hE.1 hP 0 rfl rfl 6 (by decide) (hg _ m_77) (fun _ h9 => h9) rfl d_Sp_addRule_10 ?_
  refine lv_iconst (v := nI 1) hx hb d_Sp_addRule_13 (by decide) ?_
  refine lv_iadd hx hb d_Sp_addRule_14 ?_
  refine topI (nI_add _ _) ?_
  refine va_put (D := X.1) (ci := 2) (v := .int (nI (nr + 1))) (ty := .int) (C := R_Sp) (T := F_Sp) (N := 7) hx hb hg in_Sp t_Sp t_Sp_ok n_Sp hown hE.1 hP hD hS 0 rfl rfl 6 (by decide) (hg _ m_77) (fun _ h9 => h9) rfl (by decide +kernel) rfl rfl (Nat.le_of_ble_eq_true rfl) d_Sp_addRule_15 (fun H locs hP hD hS => ?_)
  have hP : va_P X.1 classes [(h0, .inr (2, [.ref hv, .ref hi, .ref hM, .ref hV, .ref hN, .int (nI P), .int (nI (nr + 1))])), (hv, .inl (X.2 0, 6, .inl (ia vl))), (hi, .inl (X.2 0, 6, .inl (ia iv))), (hM, .inr (0, [.ref wM])), (wM, .inl (X.2 1, 64, .inr (.inl f2))), (hV, .inr (0, [.ref wV])), (wV, .inl (X.2 1, 64, .inr (.inl fV))), (hN, .inr (0, [.ref wN])), (wN, .inl (X.2 1, 64, .inr (.inl fN))), (hT, .inr (0, [.ref wT])), (wT, .inl (X.2 1, 64, .inr (.inl fT)))] H := hP
  have hD : va_D A [(h0, .inr (2, [.ref hv, .ref hi, .ref hM, .ref hV, .ref hN, .int (nI P), .int (nI (nr + 1))])), (hv, .inl (X.2 0, 6, .inl (ia vl))), (hi, .inl (X.2 0, 6, .inl (ia iv))), (hM, .inr (0, [.ref wM])), (wM, .inl (X.2 1, 64, .inr (.inl f2))), (hV, .inr (0, [.ref wV])), (wV, .inl (X.2 1, 64, .inr (.inl fV))), (hN, .inr (0, [.ref wN])), (wN, .inl (X.2 1, 64, .inr (.inl fN))), (hT, .inr (0, [.ref wT])), (wT, .inl (X.2 1, 64, .inr (.inl fT)))] := hD
  refine lv_aload_n hx hb d_Sp_addRule_18 rfl (lv_at hl 0 rfl) ?_
  refine clVV (n := 0) (As := []) (rest := []) (wc := [(h0, .inr (2, [.ref hv, .ref hi, .ref hM, .ref hV, .ref hN, .int (nI P), .int (nI (nr + 1))])), (hv, .inl (X.2 0, 6, .inl (ia vl))), (hi, .inl (X.2 0, 6, .inl (ia iv))), (hM, .inr (0, [.ref wM])), (wM, .inl (X.2 1, 64, .inr (.inl f2))), (hV, .inr (0, [.ref wV])), (wV, .inl (X.2 1, 64, .inr (.inl fV))), (hN, .inr (0, [.ref wN])), (wN, .inl (X.2 1, 64, .inr (.inl fN)))]) (wr := [(hT, .inr (0, [.ref wT])), (wT, .inl (X.2 1, 64, .inr (.inl fT)))]) hx hb hml hown hg hE hA hP hD hS (k_Sp_sortRows l X h0 hv hi hM hV hN P (nr + 1) vl iv hvl hiv wM wV wN f2 fV fN _ hf2) (gcons m_50 (gcons m_52 (gcons ms_Sp_sortRows (gcons m_2 (gcons m_53 gG))))) (by decide +kernel) [0, 1, 2, 3, 4, 5, 6, 7, 8] [9, 10] rfl rfl (by decide) (by decide) (by decide) 0 rfl rfl rfl hl.1 (Nat.le_of_ble_eq_true rfl) rfl d_Sp_addRule_19 ⟨rfl, rfl, Nat.le_of_ble_eq_true rfl, Nat.le_of_ble_eq_true rfl⟩ (⟨Nat.le_of_ble_eq_true rfl, Nat.le_of_ble_eq_true rfl⟩) (fun d H locs hd hP hD hS => ?_)
  have hP := hP.sub (ws' := [(h0, .inr (2, [.ref hv, .ref hi, .ref hM, .ref hV, .ref hN, .int (nI P), .int (nI (nr + 1))])), (hv, .inl (X.2 0, 6, .inl (ia vl))), (hi, .inl (X.2 0, 6, .inl (ia iv))), (hM, .inr (0, [.ref wM])), (wM, .inl (X.2 1, 64, .inr (.inl f2))), (hV, .inr (0, [.ref wV])), (wV, .inl (X.2 1, 64, .inr (.inl d.1))), (hN, .inr (0, [.ref wN])), (wN, .inl (X.2 1, 64, .inr (.inl d.2))), (hT, .inr (0, [.ref wT])), (wT, .inl (X.2 1, 64, .inr (.inl fT)))]) [2, 3, 4, 5, 6, 7, 8, 9, 10, 0, 1] rfl
  have hD := hD.sub (ws' := [(h0, .inr (2, [.ref hv, .ref hi, .ref hM, .ref hV, .ref hN, .int (nI P), .int (nI (nr + 1))])), (hv, .inl (X.2 0, 6, .inl (ia vl))), (hi, .inl (X.2 0, 6, .inl (ia iv))), (hM, .inr (0, [.ref wM])), (wM, .inl (X.2 1, 64, .inr (.inl f2))), (hV, .inr (0, [.ref wV])), (wV, .inl (X.2 1, 64, .inr (.inl d.1))), (hN, .inr (0, [.ref wN])), (wN, .inl (X.2 1, 64, .inr (.inl d.2))), (hT, .inr (0, [.ref wT])), (wT, .inl (X.2 1, 64, .inr (.inl fT)))]) [2, 3, 4, 5, 6, 7, 8, 9, 10, 0, 1] (by decide) rfl
  exact retV (u := (f2, d.1, d.2)) hx hb hr hlk hP hD hS (⟨hf2, hd.1, hd.2⟩) d_Sp_addRule_22
set_option maxHeartbeats 4000000 in
set_option maxRecDepth 100000 in
theorem k_Sp_isMinimalForbidden (l : Launch) (X : Cx) (h0 hv hi hM hV hN : Nat) (P nr : Nat) (vl iv : Nat → Nat) (hvl : ∀ p, p < 6 → 1 ≤ vl p ∧ vl p ≤ 4) (hiv : ∀ p, p < 6 → iv p < 16) (wV : Nat) (fV : Nat → Int64) (VS : Nat → Bool) (hfV : RS fV VS) (n b : Nat) (hn : n < 64) (hb0 : b < 4096) (hbs : b &&& fo n 6 = b) : CtI l X (TY X) y_Sp_isMinimalForbidden cw_Sp_isMinimalForbidden ({ frames := 3, cells := 0, slots := 0, locals := 74 } : Room) [.ref h0, .int (nI (fo n 6)), .int (nI b)] [(h0, .inr (2, [.ref hv, .ref hi, .ref hM, .ref hV, .ref hN, .int (nI P), .int (nI nr)])), (hv, .inl (X.2 0, 6, .inl (ia vl))), (hi, .inl (X.2 0, 6, .inl (ia iv))), (hV, .inr (0, [.ref wV])), (wV, .inl (X.2 1, 64, .inr (.inl fV)))] (S := Unit) (fun r _ => r = bI (mfB vl iv VS n b)) (fun _ => [(h0, .inr (2, [.ref hv, .ref hi, .ref hM, .ref hV, .ref hN, .int (nI P), .int (nI nr)])), (hv, .inl (X.2 0, 6, .inl (ia vl))), (hi, .inl (X.2 0, 6, .inl (ia iv))), (hV, .inr (0, [.ref wV])), (wV, .inl (X.2 1, 64, .inr (.inl fV)))]) 0 0 := by
  refine metI (by decide) (Nat.le_of_ble_eq_true rfl) ?_
  intro p e s m below meth c A ls hB hl
  obtain ⟨hx, hb, hr, hml, hown, hlk, hin, hg, hA, hD, hP, hE⟩ := hB
  have hS : va_S A s.heap s.heap [] := va_S.rf
  have hl : lv_has ls 5 [(0, .ref h0), (1, .int (nI (fo n 6))), (2, .int (nI b))] := hl
  have hfo := fo_lt n 6 (by omega)
  refine lv_aload_n hx hb d_Sp_isMinimalForbidden_0 rfl (lv_at hl 0 rfl) ?_
  refine lv_iload_n hx hb d_Sp_isMinimalForbidden_1 rfl (lv_at hl 2 rfl) ?_
  refine clVI (n := 1) (As := [.int (nI b)]) (rest := []) (wc := [(h0, .inr (2, [.ref hv, .ref hi, .ref hM, .ref hV, .ref hN, .int (nI P), .int (nI nr)])), (hv, .inl (X.2 0, 6, .inl (ia vl)))]) (wr := [(hi, .inl (X.2 0, 6, .inl (ia iv))), (hV, .inr (0, [.ref wV])), (wV, .inl (X.2 1, 64, .inr (.inl fV)))]) hx hb hml hown hg hE hA hP hD hS (k_Sp_hasAllValues l X h0 hv hi hM hV hN P nr vl iv hvl b (by omega)) (gcons m_378 (gcons m_380 (gcons ms_Sp_hasAllValues (gcons m_2 (gcons m_381 gG))))) (by decide +kernel) [0, 1] [2, 3, 4] rfl rfl (by decide) (by decide) (by decide) 0 rfl rfl rfl hl.1 (Nat.le_of_ble_eq_true rfl) rfl d_Sp_isMinimalForbidden_2 ⟨rfl, rfl, Nat.le_of_ble_eq_true rfl, Nat.le_of_ble_eq_true rfl⟩ (⟨Nat.le_of_ble_eq_true rfl, Nat.le_of_ble_eq_true rfl⟩) (fun r2 u2 H locs hq2 hP hD hS => ?_)
  have hq2 : r2 = bI (all6 vl b 6) := hq2
  subst hq2
  have hP := hP.sub (ws' := [(h0, .inr (2, [.ref hv, .ref hi, .ref hM, .ref hV, .ref hN, .int (nI P), .int (nI nr)])), (hv, .inl (X.2 0, 6, .inl (ia vl))), (hi, .inl (X.2 0, 6, .inl (ia iv))), (hV, .inr (0, [.ref wV])), (wV, .inl (X.2 1, 64, .inr (.inl fV)))]) [3, 4, 0, 1, 2] rfl
  have hD := hD.sub (ws' := [(h0, .inr (2, [.ref hv, .ref hi, .ref hM, .ref hV, .ref hN, .int (nI P), .int (nI nr)])), (hv, .inl (X.2 0, 6, .inl (ia vl))), (hi, .inl (X.2 0, 6, .inl (ia iv))), (hV, .inr (0, [.ref wV])), (wV, .inl (X.2 1, 64, .inr (.inl fV)))]) [3, 4, 0, 1, 2] (by decide) rfl
  refine lv_if_eq (tgt := 29) hx hb d_Sp_isMinimalForbidden_5 (by decide) (fun hc5 => ?_) (fun hc5 => ?_)
  · rw [bI_z] at hc5
    refine lv_iconst (v := nI 0) hx hb d_Sp_isMinimalForbidden_29 (by decide) ?_
    exact retZ (u := ()) hx hb hr hlk (by decide) hP hD hS (by first | exact mf_a hc5 | exact mf_b hc14 | exact mf_c hc26) d_Sp_isMinimalForbidden_30
  · rw [bI_z] at hc5
    refine lv_aload_n hx hb d_Sp_isMinimalForbidden_8 rfl (lv_at hl 0 rfl) ?_
    refine lv_iload_n hx hb d_Sp_isMinimalForbidden_9 rfl (lv_at hl 1 rfl) ?_
    refine lv_iload_n hx hb d_Sp_isMinimalForbidden_10 rfl (lv_at hl 2 rfl) ?_
    refine clVI (n := 2) (As := [.int (nI (fo n 6)), .int (nI b)]) (rest := []) (wc := [(h0, .inr (2, [.ref hv, .ref hi, .ref hM, .ref hV, .ref hN, .int (nI P), .int (nI nr)])), (hi, .inl (X.2 0, 6, .inl (ia iv)))]) (wr := [(hv, .inl (X.2 0, 6, .inl (ia vl))), (hV, .inr (0, [.ref wV])), (wV, .inl (X.2 1, 64, .inr (.inl fV)))]) hx hb hml hown hg hE hA hP hD hS (k_Sp_invalidIn l X h0 hv hi hM hV hN P nr vl iv hiv n b hn hb0) (gcons m_466 (gcons m_335 (gcons m_336 (gcons m_2 (gcons m_337 gG))))) (by decide +kernel) [0, 2] [1, 3, 4] rfl rfl (by decide) (by decide) (by decide) 0 rfl rfl rfl hl.1 (Nat.le_of_ble_eq_true rfl) rfl d_Sp_isMinimalForbidden_11 ⟨rfl, rfl, Nat.le_of_ble_eq_true rfl, Nat.le_of_ble_eq_true rfl⟩ (⟨Nat.le_of_ble_eq_true rfl, Nat.le_of_ble_eq_true rfl⟩) (fun r11 u11 H locs hq11 hP hD hS => ?_)
    have hq11 : r11 = nI (ivs iv n b 6) := hq11
    subst hq11
    have hP := hP.sub (ws' := [(h0, .inr (2, [.ref hv, .ref hi, .ref hM, .ref hV, .ref hN, .int (nI P), .int (nI nr)])), (hv, .inl (X.2 0, 6, .inl (ia vl))), (hi, .inl (X.2 0, 6, .inl (ia iv))), (hV, .inr (0, [.ref wV])), (wV, .inl (X.2 1, 64, .inr (.inl fV)))]) [3, 0, 4, 1, 2] rfl
    have hD := hD.sub (ws' := [(h0, .inr (2, [.ref hv, .ref hi, .ref hM, .ref hV, .ref hN, .int (nI P), .int (nI nr)])), (hv, .inl (X.2 0, 6, .inl (ia vl))), (hi, .inl (X.2 0, 6, .inl (ia iv))), (hV, .inr (0, [.ref wV])), (wV, .inl (X.2 1, 64, .inr (.inl fV)))]) [3, 0, 4, 1, 2] (by decide) rfl
    refine lv_if_ne (tgt := 29) hx hb d_Sp_isMinimalForbidden_14 (by decide) (fun hc14 => ?_) (fun hc14 => ?_)
    · rw [n_z (ivs31 _ _ _)] at hc14
      refine lv_iconst (v := nI 0) hx hb d_Sp_isMinimalForbidden_29 (by decide) ?_
      exact retZ (u := ()) hx hb hr hlk (by decide) hP hD hS (by first | exact mf_a hc5 | exact mf_b hc14 | exact mf_c hc26) d_Sp_isMinimalForbidden_30
    · rw [n_z (ivs31 _ _ _)] at hc14
      refine lv_aload_n hx hb d_Sp_isMinimalForbidden_17 rfl (lv_at hl 0 rfl) ?_
      refine va_get (D := X.1) (ci := 2) (v := .ref hV) (C := R_Sp) (T := F_Sp) (N := 7) hx hb hg in_Sp hown hE.1 hP 0 rfl rfl 3 (by decide) (hg _ m_69) (fun _ h9 => h9) rfl d_Sp_isMinimalForbidden_18 ?_
      refine lv_iload_n hx hb d_Sp_isMinimalForbidden_21 rfl (lv_at hl 1 rfl) ?_
      refine lv_iload_n hx hb d_Sp_isMinimalForbidden_22 rfl (lv_at hl 2 rfl) ?_
      refine clVI (n := 2) (As := [.int (nI (fo n 6)), .int (nI b)]) (rest := []) (wc := [(hV, .inr (0, [.ref wV])), (wV, .inl (X.2 1, 64, .inr (.inl fV)))]) (wr := [(h0, .inr (2, [.ref hv, .ref hi, .ref hM, .ref hV, .ref hN, .int (nI P), .int (nI nr)])), (hv, .inl (X.2 0, 6, .inl (ia vl))), (hi, .inl (X.2 0, 6, .inl (ia iv)))]) hx hb hml hown hg hE hA hP hD hS (k_NS_hasRowWith l X hV wV fV VS hfV n b hn hb0 hbs) (gcons m_467 (gcons m_302 (gcons m_303 (gcons m_3 (gcons m_304 gG))))) (by decide +kernel) [3, 4] [0, 1, 2] rfl rfl (by decide) (by decide) (by decide) 0 rfl rfl rfl hl.1 (Nat.le_of_ble_eq_true rfl) rfl d_Sp_isMinimalForbidden_23 ⟨rfl, rfl, Nat.le_of_ble_eq_true rfl, Nat.le_of_ble_eq_true rfl⟩ (⟨Nat.le_of_ble_eq_true rfl, Nat.le_of_ble_eq_true rfl⟩) (fun r23 u23 H locs hq23 hP hD hS => ?_)
      have hq23 : r23 = bI (anyR VS n b) := hq23
      subst hq23
      have hP : va_P X.1 classes [(h0, .inr (2, [.ref hv, .ref hi, .ref hM, .ref hV, .ref hN, .int (nI P), .int (nI nr)])), (hv, .inl (X.2 0, 6, .inl (ia vl))), (hi, .inl (X.2 0, 6, .inl (ia iv))), (hV, .inr (0, [.ref wV])), (wV, .inl (X.2 1, 64, .inr (.inl fV)))] H := hP
      have hD : va_D A [(h0, .inr (2, [.ref hv, .ref hi, .ref hM, .ref hV, .ref hN, .int (nI P), .int (nI nr)])), (hv, .inl (X.2 0, 6, .inl (ia vl))), (hi, .inl (X.2 0, 6, .inl (ia iv))), (hV, .inr (0, [.ref wV])), (wV, .inl (X.2 1, 64, .inr (.inl fV)))] := hD
      refine lv_if_eq (tgt := 31) hx hb d_Sp_isMinimalForbidden_26 (by decide) (fun hc26 => ?_) (fun hc26 => ?_)
      · rw [bI_z] at hc26
        refine lv_iconst (v := nI 0) hx hb d_Sp_isMinimalForbidden_31 (by decide) ?_
        refine lv_istore_n hx hb d_Sp_isMinimalForbidden_32 rfl hl (by decide) rfl (fun ls hl => ?_)
        have hl : lv_has ls 5 [(3, .int (nI 0)), (0, .ref h0), (1, .int (nI (fo n 6))), (2, .int (nI b))] := hl
        refine wLoop (nL := 5) (σ := (Nat)) (fun i => 6 - i) (fun i => i ≤ 6 ∧ mfL VS n b i = true) (fun i => [(h0, .inr (2, [.ref hv, .ref hi, .ref hM, .ref hV, .ref hN, .int (nI P), .int (nI nr)])), (hv, .inl (X.2 0, 6, .inl (ia vl))), (hi, .inl (X.2 0, 6, .inl (ia iv))), (hV, .inr (0, [.ref wV])), (wV, .inl (X.2 1, 64, .inr (.inl fV)))]) (fun i => [(0, .ref h0), (1, .int (nI (fo n 6))), (2, .int (nI b)), (3, .int (nI i))]) ?_ 0 (⟨by omega, rfl⟩) hP hD hS (lv_sub hl [1, 2, 3, 0] rfl)
        rintro i H locs ls hJ hP hD hS hl ih33
        have hJ : i ≤ 6 ∧ mfL VS n b i = true := hJ
        obtain ⟨hi6, hall⟩ := hJ
        have hP : va_P X.1 classes [(h0, .inr (2, [.ref hv, .ref hi, .ref hM, .ref hV, .ref hN, .int (nI P), .int (nI nr)])), (hv, .inl (X.2 0, 6, .inl (ia vl))), (hi, .inl (X.2 0, 6, .inl (ia iv))), (hV, .inr (0, [.ref wV])), (wV, .inl (X.2 1, 64, .inr (.inl fV)))] H := hP
        have hD : va_D A [(h0, .inr (2, [.ref hv, .ref hi, .ref hM, .ref hV, .ref hN, .int (nI P), .int (nI nr)])), (hv, .inl (X.2 0, 6, .inl (ia vl))), (hi, .inl (X.2 0, 6, .inl (ia iv))), (hV, .inr (0, [.ref wV])), (wV, .inl (X.2 1, 64, .inr (.inl fV)))] := hD
        have hl : lv_has ls 5 [(0, .ref h0), (1, .int (nI (fo n 6))), (2, .int (nI b)), (3, .int (nI i))] := hl
        refine lv_iload_n hx hb d_Sp_isMinimalForbidden_33 rfl (lv_at hl 3 rfl) ?_
        refine lv_bipush (v := nI 6) hx hb d_Sp_isMinimalForbidden_34 (by decide) ?_
        refine lv_icmp_ge (tgt := 80) hx hb d_Sp_isMinimalForbidden_36 (by decide) (fun hc36 => ?_) (fun hc36 => ?_)
        · rw [nI_leI (by omega) (by omega)] at hc36
          obtain rfl : i = 6 := by omega
          refine lv_iconst (v := nI 1) hx hb d_Sp_isMinimalForbidden_80 (by decide) ?_
          exact retZ (u := ()) hx hb hr hlk (by decide) hP hD hS (mf_1 hc5 hc14 hc26 hall) d_Sp_isMinimalForbidden_81
        · rw [nI_leI (by omega) (by omega)] at hc36
          refine lv_iload_n hx hb d_Sp_isMinimalForbidden_39 rfl (lv_at hl 1 rfl) ?_
          refine lv_iconst (v := nI 3) hx hb d_Sp_isMinimalForbidden_40 (by decide) ?_
          refine lv_iconst (v := nI 2) hx hb d_Sp_isMinimalForbidden_41 (by decide) ?_
          refine lv_iload_n hx hb d_Sp_isMinimalForbidden_42 rfl (lv_at hl 3 rfl) ?_
          refine lv_imul hx hb d_Sp_isMinimalForbidden_43 ?_
          refine topI (pk_mul _ _) ?_
          refine lv_ishl hx hb d_Sp_isMinimalForbidden_44 ?_
          refine topI (shlN (by omega) (p3 (by omega))) ?_
          refine lv_iconst (v := (-1)) hx hb d_Sp_isMinimalForbidden_45 (by decide) ?_
          refine lv_ixor hx hb d_Sp_isMinimalForbidden_46 ?_
          refine lv_iand hx hb d_Sp_isMinimalForbidden_47 ?_
          refine topI (y := nI (fo (rmS n i) 6)) (rm_fo n hn i (by omega)) ?_
          have hrm := fo_lt (rmS n i) 6 (by omega)
          refine lv_istore hx hb d_Sp_isMinimalForbidden_48 hl (by decide) rfl (fun ls hl => ?_)
          have hl : lv_has ls 5 [(4, .int (nI (fo (rmS n i) 6))), (0, .ref h0), (1, .int (nI (fo n 6))), (2, .int (nI b)), (3, .int (nI i))] := hl
          refine lv_iload hx hb d_Sp_isMinimalForbidden_50 (lv_at hl 0 rfl) ?_
          refine lv_iload_n hx hb d_Sp_isMinimalForbidden_52 rfl (lv_at hl 2 rfl) ?_
          refine lv_icmp_eq (tgt := 74) hx hb d_Sp_isMinimalForbidden_53 (by decide) (fun hc53 => ?_) (fun hc53 => ?_)
          · rw [rm_eq n hn i (by omega)] at hc53
            refine lv_iinc (k := 4) (v := nI (i + 1)) hx hb d_Sp_isMinimalForbidden_74 hl rfl (nI_1 _) (by decide) rfl (fun ls hl => ?_)
            have hl : lv_has ls 5 [(3, .int (nI (i + 1))), (4, .int (nI (fo (rmS n i) 6))), (0, .ref h0), (1, .int (nI (fo n 6))), (2, .int (nI b))] := hl
            refine lv_goto (tgt := 33) hx hb d_Sp_isMinimalForbidden_77 (by decide) ?_
            exact ih33 (i + 1) H locs ls (by (try dsimp only); omega) (⟨by (try dsimp only); omega, by first | exact mfL_t hall hc69 | exact mfL_f hall hc53⟩) hP hD hS (lv_sub hl [2, 3, 4, 0] rfl)
          · rw [rm_eq n hn i (by omega)] at hc53
            refine lv_aload_n hx hb d_Sp_isMinimalForbidden_56 rfl (lv_at hl 1 rfl) ?_
            refine va_get (D := X.1) (ci := 2) (v := .ref hV) (C := R_Sp) (T := F_Sp) (N := 7) hx hb hg in_Sp hown hE.1 hP 0 rfl rfl 3 (by decide) (hg _ m_69) (fun _ h9 => h9) rfl d_Sp_isMinimalForbidden_57 ?_
            refine lv_iload hx hb d_Sp_isMinimalForbidden_60 (lv_at hl 0 rfl) ?_
            refine lv_iload_n hx hb d_Sp_isMinimalForbidden_62 rfl (lv_at hl 3 rfl) ?_
            refine lv_iload hx hb d_Sp_isMinimalForbidden_63 (lv_at hl 0 rfl) ?_
            refine lv_iand hx hb d_Sp_isMinimalForbidden_65 ?_
            refine topI (nx_and _ _) ?_
            refine clVI (n := 2) (As := [.int (nI (fo (rmS n i) 6)), .int (nI (b &&& (fo (rmS n i) 6)))]) (rest := []) (wc := [(hV, .inr (0, [.ref wV])), (wV, .inl (X.2 1, 64, .inr (.inl fV)))]) (wr := [(h0, .inr (2, [.ref hv, .ref hi, .ref hM, .ref hV, .ref hN, .int (nI P), .int (nI nr)])), (hv, .inl (X.2 0, 6, .inl (ia vl))), (hi, .inl (X.2 0, 6, .inl (ia iv)))]) hx hb hml hown hg hE hA hP hD hS (k_NS_hasRowWith l X hV wV fV VS hfV (rmS n i) (b &&& fo (rmS n i) 6) (rm_lt hn i) (and_lt _ hb0) (and_and _ _)) (gcons m_467 (gcons m_302 (gcons m_303 (gcons m_3 (gcons m_304 gG))))) (by decide +kernel) [3, 4] [0, 1, 2] rfl rfl (by decide) (by decide) (by decide) 0 rfl rfl rfl hl.1 (Nat.le_of_ble_eq_true rfl) rfl d_Sp_isMinimalForbidden_66 ⟨rfl, rfl, Nat.le_of_ble_eq_true rfl, Nat.le_of_ble_eq_true rfl⟩ (⟨Nat.le_of_ble_eq_true rfl, Nat.le_of_ble_eq_true rfl⟩) (fun r66 u66 H locs hq66 hP hD hS => ?_)
            have hq66 : r66 = bI (anyR VS (rmS n i) (b &&& fo (rmS n i) 6)) := hq66
            subst hq66
            have hP : va_P X.1 classes [(h0, .inr (2, [.ref hv, .ref hi, .ref hM, .ref hV, .ref hN, .int (nI P), .int (nI nr)])), (hv, .inl (X.2 0, 6, .inl (ia vl))), (hi, .inl (X.2 0, 6, .inl (ia iv))), (hV, .inr (0, [.ref wV])), (wV, .inl (X.2 1, 64, .inr (.inl fV)))] H := hP
            have hD : va_D A [(h0, .inr (2, [.ref hv, .ref hi, .ref hM, .ref hV, .ref hN, .int (nI P), .int (nI nr)])), (hv, .inl (X.2 0, 6, .inl (ia vl))), (hi, .inl (X.2 0, 6, .inl (ia iv))), (hV, .inr (0, [.ref wV])), (wV, .inl (X.2 1, 64, .inr (.inl fV)))] := hD
            refine lv_if_ne (tgt := 74) hx hb d_Sp_isMinimalForbidden_69 (by decide) (fun hc69 => ?_) (fun hc69 => ?_)
            · rw [bI_z] at hc69
              refine lv_iinc (k := 4) (v := nI (i + 1)) hx hb d_Sp_isMinimalForbidden_74 hl rfl (nI_1 _) (by decide) rfl (fun ls hl => ?_)
              have hl : lv_has ls 5 [(3, .int (nI (i + 1))), (4, .int (nI (fo (rmS n i) 6))), (0, .ref h0), (1, .int (nI (fo n 6))), (2, .int (nI b))] := hl
              refine lv_goto (tgt := 33) hx hb d_Sp_isMinimalForbidden_77 (by decide) ?_
              exact ih33 (i + 1) H locs ls (by (try dsimp only); omega) (⟨by (try dsimp only); omega, by first | exact mfL_t hall hc69 | exact mfL_f hall hc53⟩) hP hD hS (lv_sub hl [2, 3, 4, 0] rfl)
            · rw [bI_z] at hc69
              refine lv_iconst (v := nI 0) hx hb d_Sp_isMinimalForbidden_72 (by decide) ?_
              exact retZ (u := ()) hx hb hr hlk (by decide) hP hD hS (mf_d (by omega) hc53 hc69) d_Sp_isMinimalForbidden_73
      · rw [bI_z] at hc26
        refine lv_iconst (v := nI 0) hx hb d_Sp_isMinimalForbidden_29 (by decide) ?_
        exact retZ (u := ()) hx hb hr hlk (by decide) hP hD hS (by first | exact mf_a hc5 | exact mf_b hc14 | exact mf_c hc26) d_Sp_isMinimalForbidden_30
set_option maxHeartbeats 4000000 in
set_option maxRecDepth 100000 in
theorem k_Sp_minimalForbidden (l : Launch) (X : Cx) (h0 hv hi hM hV hN : Nat) (P nr : Nat) (vl iv : Nat → Nat) (hvl : ∀ p, p < 6 → 1 ≤ vl p ∧ vl p ≤ 4) (hiv : ∀ p, p < 6 → iv p < 16) (wV : Nat) (fV : Nat → Int64) (VS : Nat → Bool) (hfV : RS fV VS) (n : Nat) (hn : n < 64) : CtI l X (TY X) y_Sp_minimalForbidden cw_Sp_minimalForbidden ({ frames := 4, cells := 0, slots := 0, locals := 98 } : Room) [.ref h0, .int (nI (fo n 6))] [(h0, .inr (2, [.ref hv, .ref hi, .ref hM, .ref hV, .ref hN, .int (nI P), .int (nI nr)])), (hv, .inl (X.2 0, 6, .inl (ia vl))), (hi, .inl (X.2 0, 6, .inl (ia iv))), (hV, .inr (0, [.ref wV])), (wV, .inl (X.2 1, 64, .inr (.inl fV)))] (S := Unit) (fun r _ => r = nI (cB (mfF vl iv VS n) (4 ^ cn n 6))) (fun _ => [(h0, .inr (2, [.ref hv, .ref hi, .ref hM, .ref hV, .ref hN, .int (nI P), .int (nI nr)])), (hv, .inl (X.2 0, 6, .inl (ia vl))), (hi, .inl (X.2 0, 6, .inl (ia iv))), (hV, .inr (0, [.ref wV])), (wV, .inl (X.2 1, 64, .inr (.inl fV)))]) 0 0 := by
  refine metI (by decide) (Nat.le_of_ble_eq_true rfl) ?_
  intro p e s m below meth c A ls hB hl
  obtain ⟨hx, hb, hr, hml, hown, hlk, hin, hg, hA, hD, hP, hE⟩ := hB
  have hS : va_S A s.heap s.heap [] := va_S.rf
  have hl : lv_has ls 6 [(0, .ref h0), (1, .int (nI (fo n 6)))] := hl
  have h4 := p4cn n
  refine lv_iconst (v := nI 0) hx hb d_Sp_minimalForbidden_0 (by decide) ?_
  refine lv_istore_n hx hb d_Sp_minimalForbidden_1 rfl hl (by decide) rfl (fun ls hl => ?_)
  have hl : lv_has ls 6 [(2, .int (nI 0)), (0, .ref h0), (1, .int (nI (fo n 6)))] := hl
  refine lv_iconst (v := nI 1) hx hb d_Sp_minimalForbidden_2 (by decide) ?_
  refine lv_iload_n hx hb d_Sp_minimalForbidden_3 rfl (lv_at hl 2 rfl) ?_
  refine clSI (n := 1) (As := [.int (nI (fo n 6))]) (rest := [.int (nI 1)]) (wc := []) (wr := [(h0, .inr (2, [.ref hv, .ref hi, .ref hM, .ref hV, .ref hN, .int (nI P), .int (nI nr)])), (hv, .inl (X.2 0, 6, .inl (ia vl))), (hi, .inl (X.2 0, 6, .inl (ia iv))), (hV, .inr (0, [.ref wV])), (wV, .inl (X.2 1, 64, .inr (.inl fV)))]) hx hb hml hown hg hE hA hP hD hS (k_JI_bitCount l X (nI (fo n 6))) (gcons m_461 (gcons m_219 (gcons m_9 (gcons m_220 gG)))) (by decide +kernel) [] [0, 1, 2, 3, 4] rfl rfl (by decide) (by decide) (by decide) rfl hl.1 (Nat.le_of_ble_eq_true rfl) rfl d_Sp_minimalForbidden_4 ⟨rfl, rfl, Nat.le_of_ble_eq_true rfl, Nat.le_of_ble_eq_true rfl⟩ (⟨Nat.le_of_ble_eq_true rfl, Nat.le_of_ble_eq_true rfl⟩) (fun r4 u4 H locs hq4 hP hD hS => ?_)
  have hq4 : r4 = bcI (nI (fo n 6)) := hq4
  subst hq4
  have hP : va_P X.1 classes [(h0, .inr (2, [.ref hv, .ref hi, .ref hM, .ref hV, .ref hN, .int (nI P), .int (nI nr)])), (hv, .inl (X.2 0, 6, .inl (ia vl))), (hi, .inl (X.2 0, 6, .inl (ia iv))), (hV, .inr (0, [.ref wV])), (wV, .inl (X.2 1, 64, .inr (.inl fV)))] H := hP
  have hD : va_D A [(h0, .inr (2, [.ref hv, .ref hi, .ref hM, .ref hV, .ref hN, .int (nI P), .int (nI nr)])), (hv, .inl (X.2 0, 6, .inl (ia vl))), (hi, .inl (X.2 0, 6, .inl (ia iv))), (hV, .inr (0, [.ref wV])), (wV, .inl (X.2 1, 64, .inr (.inl fV)))] := hD
  refine lv_ishl hx hb d_Sp_minimalForbidden_7 ?_
  refine topI (y := nI (4 ^ cn n 6)) (bcF hn) ?_
  refine lv_istore_n hx hb d_Sp_minimalForbidden_8 rfl hl (by decide) rfl (fun ls hl => ?_)
  have hl : lv_has ls 6 [(3, .int (nI (4 ^ cn n 6))), (2, .int (nI 0)), (0, .ref h0), (1, .int (nI (fo n 6)))] := hl
  refine lv_iconst (v := nI 0) hx hb d_Sp_minimalForbidden_9 (by decide) ?_
  refine topI (y := nI (ux n 0)) (by rw [ux_0]) ?_
  refine lv_istore hx hb d_Sp_minimalForbidden_10 hl (by decide) rfl (fun ls hl => ?_)
  have hl : lv_has ls 6 [(4, .int (nI (ux n 0))), (3, .int (nI (4 ^ cn n 6))), (2, .int (nI 0)), (0, .ref h0), (1, .int (nI (fo n 6)))] := hl
  refine lv_iconst (v := nI 0) hx hb d_Sp_minimalForbidden_12 (by decide) ?_
  refine lv_istore hx hb d_Sp_minimalForbidden_13 hl (by decide) rfl (fun ls hl => ?_)
  have hl : lv_has ls 6 [(5, .int (nI 0)), (4, .int (nI (ux n 0))), (3, .int (nI (4 ^ cn n 6))), (2, .int (nI 0)), (0, .ref h0), (1, .int (nI (fo n 6)))] := hl
  refine wLoop (nL := 6) (σ := (Nat)) (fun j => 4 ^ cn n 6 - j) (fun j => j ≤ 4 ^ cn n 6) (fun j => [(h0, .inr (2, [.ref hv, .ref hi, .ref hM, .ref hV, .ref hN, .int (nI P), .int (nI nr)])), (hv, .inl (X.2 0, 6, .inl (ia vl))), (hi, .inl (X.2 0, 6, .inl (ia iv))), (hV, .inr (0, [.ref wV])), (wV, .inl (X.2 1, 64, .inr (.inl fV)))]) (fun j => [(0, .ref h0), (1, .int (nI (fo n 6))), (2, .int (nI (cB (mfF vl iv VS n) j))), (3, .int (nI (4 ^ cn n 6))), (4, .int (nI (ux n j))), (5, .int (nI j))]) ?_ 0 (Nat.zero_le _) hP hD hS (lv_sub hl [4, 5, 3, 2, 1, 0] rfl)
  rintro j H locs ls hJ hP hD hS hl ih15
  have hJ : j ≤ 4 ^ cn n 6 := hJ
  have hP : va_P X.1 classes [(h0, .inr (2, [.ref hv, .ref hi, .ref hM, .ref hV, .ref hN, .int (nI P), .int (nI nr)])), (hv, .inl (X.2 0, 6, .inl (ia vl))), (hi, .inl (X.2 0, 6, .inl (ia iv))), (hV, .inr (0, [.ref wV])), (wV, .inl (X.2 1, 64, .inr (.inl fV)))] H := hP
  have hD : va_D A [(h0, .inr (2, [.ref hv, .ref hi, .ref hM, .ref hV, .ref hN, .int (nI P), .int (nI nr)])), (hv, .inl (X.2 0, 6, .inl (ia vl))), (hi, .inl (X.2 0, 6, .inl (ia iv))), (hV, .inr (0, [.ref wV])), (wV, .inl (X.2 1, 64, .inr (.inl fV)))] := hD
  have hl : lv_has ls 6 [(0, .ref h0), (1, .int (nI (fo n 6))), (2, .int (nI (cB (mfF vl iv VS n) j))), (3, .int (nI (4 ^ cn n 6))), (4, .int (nI (ux n j))), (5, .int (nI j))] := hl
  refine lv_iload hx hb d_Sp_minimalForbidden_15 (lv_at hl 5 rfl) ?_
  refine lv_iload_n hx hb d_Sp_minimalForbidden_17 rfl (lv_at hl 3 rfl) ?_
  refine lv_icmp_ge (tgt := 48) hx hb d_Sp_minimalForbidden_18 (by decide) (fun hc18 => ?_) (fun hc18 => ?_)
  · rw [nI_leI (by omega) (by omega)] at hc18
    obtain rfl : j = 4 ^ cn n 6 := by omega
    refine lv_iload_n hx hb d_Sp_minimalForbidden_48 rfl (lv_at hl 2 rfl) ?_
    exact retI (u := ()) hx hb hr hlk hP hD hS (rfl) d_Sp_minimalForbidden_49
  · rw [nI_leI (by omega) (by omega)] at hc18
    refine lv_aload_n hx hb d_Sp_minimalForbidden_21 rfl (lv_at hl 0 rfl) ?_
    refine lv_iload_n hx hb d_Sp_minimalForbidden_22 rfl (lv_at hl 1 rfl) ?_
    refine lv_iload hx hb d_Sp_minimalForbidden_23 (lv_at hl 4 rfl) ?_
    refine clVI (n := 2) (As := [.int (nI (fo n 6)), .int (nI (ux n j))]) (rest := []) (wc := [(h0, .inr (2, [.ref hv, .ref hi, .ref hM, .ref hV, .ref hN, .int (nI P), .int (nI nr)])), (hv, .inl (X.2 0, 6, .inl (ia vl))), (hi, .inl (X.2 0, 6, .inl (ia iv))), (hV, .inr (0, [.ref wV])), (wV, .inl (X.2 1, 64, .inr (.inl fV)))]) (wr := []) hx hb hml hown hg hE hA hP hD hS (k_Sp_isMinimalForbidden l X h0 hv hi hM hV hN P nr vl iv hvl hiv wV fV VS hfV n (ux n j) hn (ux_lt n j) (ux_and n j)) (gcons m_462 (gcons m_464 (gcons ms_Sp_isMinimalForbidden (gcons m_2 (gcons m_465 gG))))) (by decide +kernel) [0, 1, 2, 3, 4] [] rfl rfl (by decide) (by decide) (by decide) 0 rfl rfl rfl hl.1 (Nat.le_of_ble_eq_true rfl) rfl d_Sp_minimalForbidden_25 ⟨rfl, rfl, Nat.le_of_ble_eq_true rfl, Nat.le_of_ble_eq_true rfl⟩ (⟨Nat.le_of_ble_eq_true rfl, Nat.le_of_ble_eq_true rfl⟩) (fun r25 u25 H locs hq25 hP hD hS => ?_)
    have hq25 : r25 = bI (mfF vl iv VS n j) := hq25
    subst hq25
    have hP : va_P X.1 classes [(h0, .inr (2, [.ref hv, .ref hi, .ref hM, .ref hV, .ref hN, .int (nI P), .int (nI nr)])), (hv, .inl (X.2 0, 6, .inl (ia vl))), (hi, .inl (X.2 0, 6, .inl (ia iv))), (hV, .inr (0, [.ref wV])), (wV, .inl (X.2 1, 64, .inr (.inl fV)))] H := hP
    have hD : va_D A [(h0, .inr (2, [.ref hv, .ref hi, .ref hM, .ref hV, .ref hN, .int (nI P), .int (nI nr)])), (hv, .inl (X.2 0, 6, .inl (ia vl))), (hi, .inl (X.2 0, 6, .inl (ia iv))), (hV, .inr (0, [.ref wV])), (wV, .inl (X.2 1, 64, .inr (.inl fV)))] := hD
    refine lv_if_eq (tgt := 34) hx hb d_Sp_minimalForbidden_28 (by decide) (fun hc28 => ?_) (fun hc28 => ?_)
    · rw [bI_z] at hc28
      have hl : lv_has ls 6 [(0, .ref h0), (1, .int (nI (fo n 6))), (2, .int (nI (cB (mfF vl iv VS n) (j + 1)))), (3, .int (nI (4 ^ cn n 6))), (4, .int (nI (ux n j))), (5, .int (nI j))] := by rw [cB_f hc28]; exact hl
      refine lv_iload_n hx hb d_Sp_minimalForbidden_34 rfl (lv_at hl 1 rfl) ?_
      refine lv_iload hx hb d_Sp_minimalForbidden_35 (lv_at hl 4 rfl) ?_
      refine clSNI (n := 2) (As := [.int (nI (fo n 6)), .int (nI (ux n j))]) (rest := []) (wc := []) (wr := [(h0, .inr (2, [.ref hv, .ref hi, .ref hM, .ref hV, .ref hN, .int (nI P), .int (nI nr)])), (hv, .inl (X.2 0, 6, .inl (ia vl))), (hi, .inl (X.2 0, 6, .inl (ia iv))), (hV, .inr (0, [.ref wV])), (wV, .inl (X.2 1, 64, .inr (.inl fV)))]) hx hb hml hown hg hE hA hP hD hS (k_CR_nextWithin l X (nI (fo n 6)) (nI (ux n j))) m_311 m_310 m_1 (nw_11 hE.2.1) (by decide +kernel) [] [0, 1, 2, 3, 4] rfl rfl (by decide) (by decide) (by decide) rfl hl.1 (Nat.le_of_ble_eq_true rfl) rfl d_Sp_minimalForbidden_37 ⟨rfl, rfl, Nat.le_of_ble_eq_true rfl, Nat.le_of_ble_eq_true rfl⟩ (⟨Nat.le_of_ble_eq_true rfl, Nat.le_of_ble_eq_true rfl⟩) (fun r37 u37 H locs hq37 hP hD hS => ?_)
      have hq37 : r37 = (nI (ux n j) - nI (fo n 6)) &&& nI (fo n 6) := hq37
      subst hq37
      have hP : va_P X.1 classes [(h0, .inr (2, [.ref hv, .ref hi, .ref hM, .ref hV, .ref hN, .int (nI P), .int (nI nr)])), (hv, .inl (X.2 0, 6, .inl (ia vl))), (hi, .inl (X.2 0, 6, .inl (ia iv))), (hV, .inr (0, [.ref wV])), (wV, .inl (X.2 1, 64, .inr (.inl fV)))] H := hP
      have hD : va_D A [(h0, .inr (2, [.ref hv, .ref hi, .ref hM, .ref hV, .ref hN, .int (nI P), .int (nI nr)])), (hv, .inl (X.2 0, 6, .inl (ia vl))), (hi, .inl (X.2 0, 6, .inl (ia iv))), (hV, .inr (0, [.ref wV])), (wV, .inl (X.2 1, 64, .inr (.inl fV)))] := hD
      refine topI (y := nI (ux n (j + 1))) (ux_next hn (by omega)) ?_
      refine lv_istore hx hb d_Sp_minimalForbidden_40 hl (by decide) rfl (fun ls hl => ?_)
      have hl : lv_has ls 6 [(4, .int (nI (ux n (j + 1)))), (0, .ref h0), (1, .int (nI (fo n 6))), (2, .int (nI (cB (mfF vl iv VS n) (j + 1)))), (3, .int (nI (4 ^ cn n 6))), (5, .int (nI j))] := hl
      refine lv_iinc (k := 5) (v := nI (j + 1)) hx hb d_Sp_minimalForbidden_42 hl rfl (nI_1 _) (by decide) rfl (fun ls hl => ?_)
      have hl : lv_has ls 6 [(5, .int (nI (j + 1))), (4, .int (nI (ux n (j + 1)))), (0, .ref h0), (1, .int (nI (fo n 6))), (2, .int (nI (cB (mfF vl iv VS n) (j + 1)))), (3, .int (nI (4 ^ cn n 6)))] := hl
      refine lv_goto (tgt := 15) hx hb d_Sp_minimalForbidden_45 (by decide) ?_
      exact ih15 (j + 1) H locs ls (by (try dsimp only); omega) (by (try dsimp only); omega) hP hD hS (lv_sub hl [2, 3, 4, 5, 1, 0] rfl)
    · rw [bI_z] at hc28
      refine lv_iinc (k := 2) (v := nI (cB (mfF vl iv VS n) (j + 1))) hx hb d_Sp_minimalForbidden_31 hl rfl (cB_it hc28) (by decide) rfl (fun ls hl => ?_)
      have hl : lv_has ls 6 [(2, .int (nI (cB (mfF vl iv VS n) (j + 1)))), (0, .ref h0), (1, .int (nI (fo n 6))), (3, .int (nI (4 ^ cn n 6))), (4, .int (nI (ux n j))), (5, .int (nI j))] := hl
      refine lv_iload_n hx hb d_Sp_minimalForbidden_34 rfl (lv_at hl 2 rfl) ?_
      refine lv_iload hx hb d_Sp_minimalForbidden_35 (lv_at hl 4 rfl) ?_
      refine clSNI (n := 2) (As := [.int (nI (fo n 6)), .int (nI (ux n j))]) (rest := []) (wc := []) (wr := [(h0, .inr (2, [.ref hv, .ref hi, .ref hM, .ref hV, .ref hN, .int (nI P), .int (nI nr)])), (hv, .inl (X.2 0, 6, .inl (ia vl))), (hi, .inl (X.2 0, 6, .inl (ia iv))), (hV, .inr (0, [.ref wV])), (wV, .inl (X.2 1, 64, .inr (.inl fV)))]) hx hb hml hown hg hE hA hP hD hS (k_CR_nextWithin l X (nI (fo n 6)) (nI (ux n j))) m_311 m_310 m_1 (nw_11 hE.2.1) (by decide +kernel) [] [0, 1, 2, 3, 4] rfl rfl (by decide) (by decide) (by decide) rfl hl.1 (Nat.le_of_ble_eq_true rfl) rfl d_Sp_minimalForbidden_37 ⟨rfl, rfl, Nat.le_of_ble_eq_true rfl, Nat.le_of_ble_eq_true rfl⟩ (⟨Nat.le_of_ble_eq_true rfl, Nat.le_of_ble_eq_true rfl⟩) (fun r37 u37 H locs hq37 hP hD hS => ?_)
      have hq37 : r37 = (nI (ux n j) - nI (fo n 6)) &&& nI (fo n 6) := hq37
      subst hq37
      have hP : va_P X.1 classes [(h0, .inr (2, [.ref hv, .ref hi, .ref hM, .ref hV, .ref hN, .int (nI P), .int (nI nr)])), (hv, .inl (X.2 0, 6, .inl (ia vl))), (hi, .inl (X.2 0, 6, .inl (ia iv))), (hV, .inr (0, [.ref wV])), (wV, .inl (X.2 1, 64, .inr (.inl fV)))] H := hP
      have hD : va_D A [(h0, .inr (2, [.ref hv, .ref hi, .ref hM, .ref hV, .ref hN, .int (nI P), .int (nI nr)])), (hv, .inl (X.2 0, 6, .inl (ia vl))), (hi, .inl (X.2 0, 6, .inl (ia iv))), (hV, .inr (0, [.ref wV])), (wV, .inl (X.2 1, 64, .inr (.inl fV)))] := hD
      refine topI (y := nI (ux n (j + 1))) (ux_next hn (by omega)) ?_
      refine lv_istore hx hb d_Sp_minimalForbidden_40 hl (by decide) rfl (fun ls hl => ?_)
      have hl : lv_has ls 6 [(4, .int (nI (ux n (j + 1)))), (2, .int (nI (cB (mfF vl iv VS n) (j + 1)))), (0, .ref h0), (1, .int (nI (fo n 6))), (3, .int (nI (4 ^ cn n 6))), (5, .int (nI j))] := hl
      refine lv_iinc (k := 5) (v := nI (j + 1)) hx hb d_Sp_minimalForbidden_42 hl rfl (nI_1 _) (by decide) rfl (fun ls hl => ?_)
      have hl : lv_has ls 6 [(5, .int (nI (j + 1))), (4, .int (nI (ux n (j + 1)))), (2, .int (nI (cB (mfF vl iv VS n) (j + 1)))), (0, .ref h0), (1, .int (nI (fo n 6))), (3, .int (nI (4 ^ cn n 6)))] := hl
      refine lv_goto (tgt := 15) hx hb d_Sp_minimalForbidden_45 (by decide) ?_
      exact ih15 (j + 1) H locs ls (by (try dsimp only); omega) (by (try dsimp only); omega) hP hD hS (lv_sub hl [3, 4, 2, 5, 1, 0] rfl)
set_option maxHeartbeats 4000000 in
set_option maxRecDepth 100000 in
theorem k_Ge_isFull (l : Launch) (X : Cx) (h0 : Nat) (g0 hR gc gg gn gt tk : Nat) (gl : Int32) (htk : tk ≤ 520) : CtI l X (TY X) y_Ge_isFull cw_Ge_isFull ({ frames := 0, cells := 0, slots := 0, locals := 0 } : Room) [.ref g0] [(g0, .inr (4, [.ref h0, .ref hR, .ref gc, .ref gg, .ref gn, .ref gt, .int (nI tk), .int gl]))] (S := Unit) (fun r _ => r = bI (tk == 520)) (fun _ => [(g0, .inr (4, [.ref h0, .ref hR, .ref gc, .ref gg, .ref gn, .ref gt, .int (nI tk), .int gl]))]) 0 0 := by
  refine metI (by decide) (Nat.le_of_ble_eq_true rfl) ?_
  intro p e s m below meth c A ls hB hl
  obtain ⟨hx, hb, hr, hml, hown, hlk, hin, hg, hA, hD, hP, hE⟩ := hB
  have hS : va_S A s.heap s.heap [] := va_S.rf
  have hl : lv_has ls 1 [(0, .ref g0)] := hl
  refine lv_aload_n hx hb d_Ge_isFull_0 rfl (lv_at hl 0 rfl) ?_
  refine va_get (D := X.1) (ci := 4) (v := .int (nI tk)) (C := R_Ge) (T := F_Ge) (N := 8) hx hb hg in_Ge hown hE.1 hP 0 rfl rfl 6 (by decide) (hg _ m_143) (fun _ h9 => h9) rfl d_Ge_isFull_1 ?_
  refine lv_sipush (v := nI 520) hx hb d_Ge_isFull_4 (by decide) ?_
  refine lv_icmp_ne (tgt := 14) hx hb d_Ge_isFull_7 (by decide) (fun hc7 => ?_) (fun hc7 => ?_)
  · rw [nI_eq (by omega) (by omega)] at hc7
    refine lv_iconst (v := nI 0) hx hb d_Ge_isFull_14 (by decide) ?_
    exact retZ (u := ()) hx hb hr hlk (by decide) hP hD hS (by rw [beq_false_of_ne hc7]; rfl) d_Ge_isFull_15
  · rw [nI_eq (by omega) (by omega)] at hc7
    refine lv_iconst (v := nI 1) hx hb d_Ge_isFull_10 (by decide) ?_
    refine lv_goto (tgt := 15) hx hb d_Ge_isFull_11 (by decide) ?_
    exact retZ (u := ()) hx hb hr hlk (by decide) hP hD hS (by rw [hc7]; rfl) d_Ge_isFull_15
set_option maxHeartbeats 4000000 in
set_option maxRecDepth 100000 in
theorem k_Ge_pack (l : Launch) (X : Cx) (n rr : Nat) (hn : n < 64) (hr4 : rr < 4096) : CtI l X (TY X) y_Ge_pack cw_Ge_pack ({ frames := 1, cells := 0, slots := 0, locals := 21 } : Room) [.int (nI n), .int (nI rr)] [] (S := Unit) (fun r _ => r = nI (pc6 n rr 6)) (fun _ => []) 0 0 := by
  refine metI (by decide) (Nat.le_of_ble_eq_true rfl) ?_
  intro p e s m below meth c A ls hB hl
  obtain ⟨hx, hb, hr, hml, hown, hlk, hin, hg, hA, hD, hP, hE⟩ := hB
  have hS : va_S A s.heap s.heap [] := va_S.rf
  have hl : lv_has ls 4 [(0, .int (nI n)), (1, .int (nI rr))] := hl
  refine lv_iconst (v := nI 0) hx hb d_Ge_pack_0 (by decide) ?_
  refine lv_istore_n hx hb d_Ge_pack_1 rfl hl (by decide) rfl (fun ls hl => ?_)
  have hl : lv_has ls 4 [(2, .int (nI 0)), (0, .int (nI n)), (1, .int (nI rr))] := hl
  refine lv_iconst (v := nI 0) hx hb d_Ge_pack_2 (by decide) ?_
  refine lv_istore_n hx hb d_Ge_pack_3 rfl hl (by decide) rfl (fun ls hl => ?_)
  have hl : lv_has ls 4 [(3, .int (nI 0)), (2, .int (nI 0)), (0, .int (nI n)), (1, .int (nI rr))] := hl
  refine wLoop (nL := 4) (σ := (Nat)) (fun i => 6 - i) (fun i => i ≤ 6) (fun i => []) (fun i => [(0, .int (nI n)), (1, .int (nI rr)), (2, .int (nI (pc6 n rr i))), (3, .int (nI i))]) ?_ 0 (by omega) hP hD hS (lv_sub hl [2, 3, 1, 0] rfl)
  rintro i H locs ls hJ hP hD hS hl ih4
  have hJ : i ≤ 6 := hJ
  have hpc := pc6_4096 n rr hJ
  have hP : va_P X.1 classes [] H := hP
  have hD : va_D A [] := hD
  have hl : lv_has ls 4 [(0, .int (nI n)), (1, .int (nI rr)), (2, .int (nI (pc6 n rr i))), (3, .int (nI i))] := hl
  refine lv_iload_n hx hb d_Ge_pack_4 rfl (lv_at hl 3 rfl) ?_
  refine lv_bipush (v := nI 6) hx hb d_Ge_pack_5 (by decide) ?_
  refine lv_icmp_ge (tgt := 34) hx hb d_Ge_pack_7 (by decide) (fun hc7 => ?_) (fun hc7 => ?_)
  · rw [nI_leI (by omega) (by omega)] at hc7
    obtain rfl : i = 6 := by omega
    refine lv_iload_n hx hb d_Ge_pack_34 rfl (lv_at hl 2 rfl) ?_
    exact retI (u := ()) hx hb hr hlk hP hD hS (rfl) d_Ge_pack_35
  · rw [nI_leI (by omega) (by omega)] at hc7
    refine lv_iload_n hx hb d_Ge_pack_10 rfl (lv_at hl 0 rfl) ?_
    refine lv_iload_n hx hb d_Ge_pack_11 rfl (lv_at hl 3 rfl) ?_
    refine lv_ishr hx hb d_Ge_pack_12 ?_
    refine topI (shrN (by omega) (by omega)) ?_
    refine lv_iconst (v := nI 1) hx hb d_Ge_pack_13 (by decide) ?_
    refine lv_iand hx hb d_Ge_pack_14 ?_
    refine topI (nx_and _ _) ?_
    refine lv_if_eq (tgt := 28) hx hb d_Ge_pack_15 (by decide) (fun hc15 => ?_) (fun hc15 => ?_)
    · rw [tb_z] at hc15
      have hl : lv_has ls 4 [(0, .int (nI n)), (1, .int (nI rr)), (2, .int (nI (pc6 n rr (i + 1)))), (3, .int (nI i))] := by rw [pc6_f hc15]; exact hl
      refine lv_iinc (k := 3) (v := nI (i + 1)) hx hb d_Ge_pack_28 hl rfl (nI_1 _) (by decide) rfl (fun ls hl => ?_)
      have hl : lv_has ls 4 [(3, .int (nI (i + 1))), (0, .int (nI n)), (1, .int (nI rr)), (2, .int (nI (pc6 n rr (i + 1))))] := hl
      refine lv_goto (tgt := 4) hx hb d_Ge_pack_31 (by decide) ?_
      exact ih4 (i + 1) H locs ls (by (try dsimp only); omega) (by (try dsimp only); omega) hP hD hS (lv_sub hl [1, 2, 3, 0] rfl)
    · rw [tb_z] at hc15
      refine lv_iload_n hx hb d_Ge_pack_18 rfl (lv_at hl 2 rfl) ?_
      refine lv_iconst (v := nI 2) hx hb d_Ge_pack_19 (by decide) ?_
      refine lv_ishl hx hb d_Ge_pack_20 ?_
      refine topI (shlN (by omega) (by omega)) ?_
      refine lv_iload_n hx hb d_Ge_pack_21 rfl (lv_at hl 3 rfl) ?_
      refine lv_iload_n hx hb d_Ge_pack_22 rfl (lv_at hl 1 rfl) ?_
      refine clSNI (n := 2) (As := [.int (nI i), .int (nI rr)]) (rest := [.int (nI ((pc6 n rr i) * 2 ^ 2))]) (wc := []) (wr := []) hx hb hml hown hg hE hA hP hD hS (k_CR_valueOf l X i rr (by omega) (by omega)) m_65 m_64 m_1 (nw_10 hE.2.1) (by decide +kernel) [] [] rfl rfl (by decide) (by decide) (by decide) rfl hl.1 (Nat.le_of_ble_eq_true rfl) rfl d_Ge_pack_23 ⟨rfl, rfl, Nat.le_of_ble_eq_true rfl, Nat.le_of_ble_eq_true rfl⟩ (⟨Nat.le_of_ble_eq_true rfl, Nat.le_of_ble_eq_true rfl⟩) (fun r23 u23 H locs hq23 hP hD hS => ?_)
      have hq23 : r23 = nI (dg rr i) := hq23
      subst hq23
      have hP : va_P X.1 classes [] H := hP
      have hD : va_D A [] := hD
      refine lv_ior hx hb d_Ge_pack_26 ?_
      refine topI (y := nI (pc6 n rr (i + 1))) (pc6_or hc15) ?_
      refine lv_istore_n hx hb d_Ge_pack_27 rfl hl (by decide) rfl (fun ls hl => ?_)
      have hl : lv_has ls 4 [(2, .int (nI (pc6 n rr (i + 1)))), (0, .int (nI n)), (1, .int (nI rr)), (3, .int (nI i))] := hl
      refine lv_iinc (k := 3) (v := nI (i + 1)) hx hb d_Ge_pack_28 hl rfl (nI_1 _) (by decide) rfl (fun ls hl => ?_)
      have hl : lv_has ls 4 [(3, .int (nI (i + 1))), (2, .int (nI (pc6 n rr (i + 1)))), (0, .int (nI n)), (1, .int (nI rr))] := hl
      refine lv_goto (tgt := 4) hx hb d_Ge_pack_31 (by decide) ?_
      exact ih4 (i + 1) H locs ls (by (try dsimp only); omega) (by (try dsimp only); omega) hP hD hS (lv_sub hl [2, 3, 1, 0] rfl)
set_option maxHeartbeats 4000000 in
set_option maxRecDepth 100000 in
theorem k_Ge_cover (l : Launch) (X : Cx) (h0 : Nat) (g0 hR gc gg gn gt tk : Nat) (gl : Int32) (cv : Nat → Int64) (n rr : Nat) (hn : n < 64) (hr4 : rr < 4096) (hcn : cn n 6 ≤ 3) : CtI l X (TY X) y_Ge_cover cw_Ge_cover ({ frames := 2, cells := 0, slots := 0, locals := 44 } : Room) [.ref g0, .int (nI n), .int (nI rr)] [(g0, .inr (4, [.ref h0, .ref hR, .ref gc, .ref gg, .ref gn, .ref gt, .int (nI tk), .int gl])), (gc, .inl (X.2 1, 64, .inr (.inl cv)))] (S := Nat → Int64) (fun r d => r = bI (!(bL (cv n) (pc6 n rr 6))) ∧ ∀ a, ∀ t, t < 64 → bL (d a) t = (bL (cv a) t || (a == n && t == pc6 n rr 6))) (fun d => [(g0, .inr (4, [.ref h0, .ref hR, .ref gc, .ref gg, .ref gn, .ref gt, .int (nI tk), .int gl])), (gc, .inl (X.2 1, 64, .inr (.inl d)))]) 0 0 := by
  refine metI (by decide) (Nat.le_of_ble_eq_true rfl) ?_
  intro p e s m below meth c A ls hB hl
  obtain ⟨hx, hb, hr, hml, hown, hlk, hin, hg, hA, hD, hP, hE⟩ := hB
  have hS : va_S A s.heap s.heap [] := va_S.rf
  have hl : lv_has ls 6 [(0, .ref g0), (1, .int (nI n)), (2, .int (nI rr))] := hl
  have h64 := pc6_64 rr hcn
  refine lv_lconst (v := 1) hx hb d_Ge_cover_0 (by decide) ?_
  refine lv_iload_n hx hb d_Ge_cover_1 rfl (lv_at hl 1 rfl) ?_
  refine lv_iload_n hx hb d_Ge_cover_2 rfl (lv_at hl 2 rfl) ?_
  refine clSI (n := 2) (As := [.int (nI n), .int (nI rr)]) (rest := [.long 1]) (wc := []) (wr := [(g0, .inr (4, [.ref h0, .ref hR, .ref gc, .ref gg, .ref gn, .ref gt, .int (nI tk), .int gl])), (gc, .inl (X.2 1, 64, .inr (.inl cv)))]) hx hb hml hown hg hE hA hP hD hS (k_Ge_pack l X n rr hn hr4) (gcons m_391 (gcons m_392 (gcons m_7 (gcons m_393 gG)))) (by decide +kernel) [] [0, 1] rfl rfl (by decide) (by decide) (by decide) rfl hl.1 (Nat.le_of_ble_eq_true rfl) rfl d_Ge_cover_3 ⟨rfl, rfl, Nat.le_of_ble_eq_true rfl, Nat.le_of_ble_eq_true rfl⟩ (⟨Nat.le_of_ble_eq_true rfl, Nat.le_of_ble_eq_true rfl⟩) (fun r3 u3 H locs hq3 hP hD hS => ?_)
  have hq3 : r3 = nI (pc6 n rr 6) := hq3
  subst hq3
  have hP : va_P X.1 classes [(g0, .inr (4, [.ref h0, .ref hR, .ref gc, .ref gg, .ref gn, .ref gt, .int (nI tk), .int gl])), (gc, .inl (X.2 1, 64, .inr (.inl cv)))] H := hP
  have hD : va_D A [(g0, .inr (4, [.ref h0, .ref hR, .ref gc, .ref gg, .ref gn, .ref gt, .int (nI tk), .int gl])), (gc, .inl (X.2 1, 64, .inr (.inl cv)))] := hD
  refine lv_lshl hx hb d_Ge_cover_6 rfl ?_
  refine lv_lstore_n hx hb d_Ge_cover_7 rfl hl (by decide) rfl (fun ls hl => ?_)
  have hl : lv_has ls 6 [(3, .long (1 <<< ((nI (pc6 n rr 6)).toInt64 &&& 63))), (0, .ref g0), (1, .int (nI n)), (2, .int (nI rr))] := hl
  refine lv_aload_n hx hb d_Ge_cover_8 rfl (lv_at hl 1 rfl) ?_
  refine va_get (D := X.1) (ci := 4) (v := .ref gc) (C := R_Ge) (T := F_Ge) (N := 8) hx hb hg in_Ge hown hE.1 hP 0 rfl rfl 2 (by decide) (hg _ m_136) (fun _ h9 => h9) rfl d_Ge_cover_9 ?_
  refine lv_iload_n hx hb d_Ge_cover_12 rfl (lv_at hl 2 rfl) ?_
  refine va_lald hx hb hE.1 hP 1 1 rfl rfl (vp_in_nI (by omega) (by decide)) d_Ge_cover_13 ?_
  refine topL (y := cv n) (by rw [nI_clamp (by omega)]) ?_
  refine lv_lload_n hx hb d_Ge_cover_14 rfl (lv_at hl 0 rfl) ?_
  refine lv_land hx hb d_Ge_cover_15 ?_
  refine lv_lconst (v := 0) hx hb d_Ge_cover_16 (by decide) ?_
  refine W.lcmp hx hb d_Ge_cover_17 ?_
  refine lv_if_ne (tgt := 25) hx hb d_Ge_cover_18 (by decide) (fun hc18 => ?_) (fun hc18 => ?_)
  · rw [(lcz.trans (cv_bit h64))] at hc18
    refine lv_iconst (v := nI 0) hx hb d_Ge_cover_25 (by decide) ?_
    refine lv_istore hx hb d_Ge_cover_26 hl (by decide) rfl (fun ls hl => ?_)
    have hl : lv_has ls 6 [(5, .int (nI 0)), (3, .long (1 <<< ((nI (pc6 n rr 6)).toInt64 &&& 63))), (0, .ref g0), (1, .int (nI n)), (2, .int (nI rr))] := hl
    refine lv_aload_n hx hb d_Ge_cover_28 rfl (lv_at hl 2 rfl) ?_
    refine va_get (D := X.1) (ci := 4) (v := .ref gc) (C := R_Ge) (T := F_Ge) (N := 8) hx hb hg in_Ge hown hE.1 hP 0 rfl rfl 2 (by decide) (hg _ m_136) (fun _ h9 => h9) rfl d_Ge_cover_29 ?_
    refine lv_iload_n hx hb d_Ge_cover_32 rfl (lv_at hl 3 rfl) ?_
    refine lv_dup2_11 hx hb d_Ge_cover_33 rfl rfl ?_
    refine va_lald hx hb hE.1 hP 1 1 rfl rfl (vp_in_nI (by omega) (by decide)) d_Ge_cover_34 ?_
    refine topL (y := cv n) (by rw [nI_clamp (by omega)]) ?_
    refine lv_lload_n hx hb d_Ge_cover_35 rfl (lv_at hl 1 rfl) ?_
    refine lv_lor hx hb d_Ge_cover_36 ?_
    refine va_last hx hb hE.1 hP hD hS 1 1 rfl rfl (vp_in_nI (by omega) (by decide)) d_Ge_cover_37 (fun H locs hP hD hS => ?_)
    have hP : va_P X.1 classes [(g0, .inr (4, [.ref h0, .ref hR, .ref gc, .ref gg, .ref gn, .ref gt, .int (nI tk), .int gl])), (gc, .inl (X.2 1, 64, .inr (.inl (vp_updL cv (nI n).toNatClampNeg ((cv n) ||| (1 <<< ((nI (pc6 n rr 6)).toInt64 &&& 63)))))))] H := hP
    have hD : va_D A [(g0, .inr (4, [.ref h0, .ref hR, .ref gc, .ref gg, .ref gn, .ref gt, .int (nI tk), .int gl])), (gc, .inl (X.2 1, 64, .inr (.inl (vp_updL cv (nI n).toNatClampNeg ((cv n) ||| (1 <<< ((nI (pc6 n rr 6)).toInt64 &&& 63)))))))] := hD
    rw [nI_clamp (show n < 2 ^ 31 by omega)] at hP hD
    generalize hd : vp_updL cv n ((cv n) ||| (1 <<< ((nI (pc6 n rr 6)).toInt64 &&& 63))) = d at hP hD
    refine lv_iload hx hb d_Ge_cover_38 (lv_at hl 0 rfl) ?_
    exact retZ (u := d) hx hb hr hlk (by decide) hP hD hS (⟨by rw [ts_nf hc18]; rfl, cv_set h64 hd⟩) d_Ge_cover_40
  · rw [(lcz.trans (cv_bit h64))] at hc18
    refine lv_iconst (v := nI 1) hx hb d_Ge_cover_21 (by decide) ?_
    refine lv_goto (tgt := 26) hx hb d_Ge_cover_22 (by decide) ?_
    refine lv_istore hx hb d_Ge_cover_26 hl (by decide) rfl (fun ls hl => ?_)
    have hl : lv_has ls 6 [(5, .int (nI 1)), (3, .long (1 <<< ((nI (pc6 n rr 6)).toInt64 &&& 63))), (0, .ref g0), (1, .int (nI n)), (2, .int (nI rr))] := hl
    refine lv_aload_n hx hb d_Ge_cover_28 rfl (lv_at hl 2 rfl) ?_
    refine va_get (D := X.1) (ci := 4) (v := .ref gc) (C := R_Ge) (T := F_Ge) (N := 8) hx hb hg in_Ge hown hE.1 hP 0 rfl rfl 2 (by decide) (hg _ m_136) (fun _ h9 => h9) rfl d_Ge_cover_29 ?_
    refine lv_iload_n hx hb d_Ge_cover_32 rfl (lv_at hl 3 rfl) ?_
    refine lv_dup2_11 hx hb d_Ge_cover_33 rfl rfl ?_
    refine va_lald hx hb hE.1 hP 1 1 rfl rfl (vp_in_nI (by omega) (by decide)) d_Ge_cover_34 ?_
    refine topL (y := cv n) (by rw [nI_clamp (by omega)]) ?_
    refine lv_lload_n hx hb d_Ge_cover_35 rfl (lv_at hl 1 rfl) ?_
    refine lv_lor hx hb d_Ge_cover_36 ?_
    refine va_last hx hb hE.1 hP hD hS 1 1 rfl rfl (vp_in_nI (by omega) (by decide)) d_Ge_cover_37 (fun H locs hP hD hS => ?_)
    have hP : va_P X.1 classes [(g0, .inr (4, [.ref h0, .ref hR, .ref gc, .ref gg, .ref gn, .ref gt, .int (nI tk), .int gl])), (gc, .inl (X.2 1, 64, .inr (.inl (vp_updL cv (nI n).toNatClampNeg ((cv n) ||| (1 <<< ((nI (pc6 n rr 6)).toInt64 &&& 63)))))))] H := hP
    have hD : va_D A [(g0, .inr (4, [.ref h0, .ref hR, .ref gc, .ref gg, .ref gn, .ref gt, .int (nI tk), .int gl])), (gc, .inl (X.2 1, 64, .inr (.inl (vp_updL cv (nI n).toNatClampNeg ((cv n) ||| (1 <<< ((nI (pc6 n rr 6)).toInt64 &&& 63)))))))] := hD
    rw [nI_clamp (show n < 2 ^ 31 by omega)] at hP hD
    generalize hd : vp_updL cv n ((cv n) ||| (1 <<< ((nI (pc6 n rr 6)).toInt64 &&& 63))) = d at hP hD
    refine lv_iload hx hb d_Ge_cover_38 (lv_at hl 0 rfl) ?_
    exact retZ (u := d) hx hb hr hlk (by decide) hP hD hS (⟨by rw [hc18]; rfl, cv_set h64 hd⟩) d_Ge_cover_40
set_option maxHeartbeats 4000000 in
set_option maxRecDepth 100000 in
theorem k_Ge_lowerGains (l : Launch) (X : Cx) (h0 hv hi hM hV hN : Nat) (P nr : Nat) (vl iv : Nat → Nat) (hP6 : P ≤ 6) (g0 hR gc gg gn gt tk : Nat) (gl : Int32) (gs : Nat → Nat) (hgs : ∀ s, gs s < 2 ^ 31) (hk wk : Nat) (fk : Nat → Int64) (K : Nat → Bool) (hfK : RS fk K) (n rr mm : Nat) (hn : n < 2 ^ P) (hrP : rr < 4 ^ P) (hmm : mm = 2 ^ P - 1 - n) (hg1 : ∀ s, s < 4 ^ P → tp n s = tp n rr → K s = true → 1 ≤ gs s) : CtV l X (TY X) y_Ge_lowerGains cw_Ge_lowerGains ({ frames := 2, cells := 0, slots := 0, locals := 40 } : Room) [.ref g0, .int (nI (fo n 6)), .int (nI rr), .ref hk] [(g0, .inr (4, [.ref h0, .ref hR, .ref gc, .ref gg, .ref gn, .ref gt, .int (nI tk), .int gl])), (h0, .inr (2, [.ref hv, .ref hi, .ref hM, .ref hV, .ref hN, .int (nI P), .int (nI nr)])), (gg, .inl (X.2 0, 4096, .inl (ia gs))), (hk, .inr (0, [.ref wk])), (wk, .inl (X.2 1, 64, .inr (.inl fk)))] (S := Nat → Nat) (fun d => (∀ s, s < 4 ^ P → d s = if tp n s = tp n rr ∧ K s = true then gs s - 1 else gs s) ∧ ∀ s, d s < 2 ^ 31) (fun d => [(g0, .inr (4, [.ref h0, .ref hR, .ref gc, .ref gg, .ref gn, .ref gt, .int (nI tk), .int gl])), (h0, .inr (2, [.ref hv, .ref hi, .ref hM, .ref hV, .ref hN, .int (nI P), .int (nI nr)])), (gg, .inl (X.2 0, 4096, .inl (ia d))), (hk, .inr (0, [.ref wk])), (wk, .inl (X.2 1, 64, .inr (.inl fk)))]) 0 0 := by
  refine metV (by decide) (Nat.le_of_ble_eq_true rfl) ?_
  intro p e s m below meth c A ls hB hl
  obtain ⟨hx, hb, hr, hml, hown, hlk, hin, hg, hA, hD, hP, hE⟩ := hB
  have hS : va_S A s.heap s.heap [] := va_S.rf
  have hl : lv_has ls 9 [(0, .ref g0), (1, .int (nI (fo n 6))), (2, .int (nI rr)), (3, .ref hk)] := hl
  have hm64 := cm64 (show P < 7 by omega) hmm
  have h4 := p4cn mm
  have h4P := pw4le hP6
  have hfo := fo_lt n 6 (by omega)
  refine lv_aload_n hx hb d_Ge_lowerGains_0 rfl (lv_at hl 0 rfl) ?_
  refine va_get (D := X.1) (ci := 4) (v := .ref h0) (C := R_Ge) (T := F_Ge) (N := 8) hx hb hg in_Ge hown hE.1 hP 0 rfl rfl 0 (by decide) (hg _ m_134) (fun _ h9 => h9) rfl d_Ge_lowerGains_1 ?_
  refine clVI (n := 0) (As := []) (rest := []) (wc := [(h0, .inr (2, [.ref hv, .ref hi, .ref hM, .ref hV, .ref hN, .int (nI P), .int (nI nr)]))]) (wr := [(g0, .inr (4, [.ref h0, .ref hR, .ref gc, .ref gg, .ref gn, .ref gt, .int (nI tk), .int gl])), (gg, .inl (X.2 0, 4096, .inl (ia gs))), (hk, .inr (0, [.ref wk])), (wk, .inl (X.2 1, 64, .inr (.inl fk)))]) hx hb hml hown hg hE hA hP hD hS (k_Sp_allFields l X h0 hv hi hM hV hN P nr vl iv hP6) (gcons m_359 (gcons m_360 (gcons m_361 (gcons m_2 (gcons m_362 gG))))) (by decide +kernel) [1] [0, 2, 3, 4] rfl rfl (by decide) (by decide) (by decide) 0 rfl rfl rfl hl.1 (Nat.le_of_ble_eq_true rfl) rfl d_Ge_lowerGains_4 ⟨rfl, rfl, Nat.le_of_ble_eq_true rfl, Nat.le_of_ble_eq_true rfl⟩ (⟨Nat.le_of_ble_eq_true rfl, Nat.le_of_ble_eq_true rfl⟩) (fun r4 u4 H locs hq4 hP hD hS => ?_)
  have hq4 : r4 = nI (4 ^ P - 1) := hq4
  subst hq4
  have hP := hP.sub (ws' := [(g0, .inr (4, [.ref h0, .ref hR, .ref gc, .ref gg, .ref gn, .ref gt, .int (nI tk), .int gl])), (h0, .inr (2, [.ref hv, .ref hi, .ref hM, .ref hV, .ref hN, .int (nI P), .int (nI nr)])), (gg, .inl (X.2 0, 4096, .inl (ia gs))), (hk, .inr (0, [.ref wk])), (wk, .inl (X.2 1, 64, .inr (.inl fk)))]) [0, 4, 1, 2, 3] rfl
  have hD := hD.sub (ws' := [(g0, .inr (4, [.ref h0, .ref hR, .ref gc, .ref gg, .ref gn, .ref gt, .int (nI tk), .int gl])), (h0, .inr (2, [.ref hv, .ref hi, .ref hM, .ref hV, .ref hN, .int (nI P), .int (nI nr)])), (gg, .inl (X.2 0, 4096, .inl (ia gs))), (hk, .inr (0, [.ref wk])), (wk, .inl (X.2 1, 64, .inr (.inl fk)))]) [0, 4, 1, 2, 3] (by decide) rfl
  refine lv_iload_n hx hb d_Ge_lowerGains_7 rfl (lv_at hl 1 rfl) ?_
  refine lv_iconst (v := (-1)) hx hb d_Ge_lowerGains_8 (by decide) ?_
  refine lv_ixor hx hb d_Ge_lowerGains_9 ?_
  refine lv_iand hx hb d_Ge_lowerGains_10 ?_
  refine topI (y := nI (fo mm 6)) (by rw [hmm]; exact cm_fr P (by omega) n hn) ?_
  refine lv_istore hx hb d_Ge_lowerGains_11 hl (by decide) rfl (fun ls hl => ?_)
  have hl : lv_has ls 9 [(4, .int (nI (fo mm 6))), (0, .ref g0), (1, .int (nI (fo n 6))), (2, .int (nI rr)), (3, .ref hk)] := hl
  refine lv_iconst (v := nI 1) hx hb d_Ge_lowerGains_13 (by decide) ?_
  refine lv_iload hx hb d_Ge_lowerGains_14 (lv_at hl 0 rfl) ?_
  refine clSI (n := 1) (As := [.int (nI (fo mm 6))]) (rest := [.int (nI 1)]) (wc := []) (wr := [(g0, .inr (4, [.ref h0, .ref hR, .ref gc, .ref gg, .ref gn, .ref gt, .int (nI tk), .int gl])), (h0, .inr (2, [.ref hv, .ref hi, .ref hM, .ref hV, .ref hN, .int (nI P), .int (nI nr)])), (gg, .inl (X.2 0, 4096, .inl (ia gs))), (hk, .inr (0, [.ref wk])), (wk, .inl (X.2 1, 64, .inr (.inl fk)))]) hx hb hml hown hg hE hA hP hD hS (k_JI_bitCount l X (nI (fo mm 6))) (gcons m_329 (gcons m_219 (gcons m_9 (gcons m_220 gG)))) (by decide +kernel) [] [0, 1, 2, 3, 4] rfl rfl (by decide) (by decide) (by decide) rfl hl.1 (Nat.le_of_ble_eq_true rfl) rfl d_Ge_lowerGains_16 ⟨rfl, rfl, Nat.le_of_ble_eq_true rfl, Nat.le_of_ble_eq_true rfl⟩ (⟨Nat.le_of_ble_eq_true rfl, Nat.le_of_ble_eq_true rfl⟩) (fun r16 u16 H locs hq16 hP hD hS => ?_)
  have hq16 : r16 = bcI (nI (fo mm 6)) := hq16
  subst hq16
  have hP : va_P X.1 classes [(g0, .inr (4, [.ref h0, .ref hR, .ref gc, .ref gg, .ref gn, .ref gt, .int (nI tk), .int gl])), (h0, .inr (2, [.ref hv, .ref hi, .ref hM, .ref hV, .ref hN, .int (nI P), .int (nI nr)])), (gg, .inl (X.2 0, 4096, .inl (ia gs))), (hk, .inr (0, [.ref wk])), (wk, .inl (X.2 1, 64, .inr (.inl fk)))] H := hP
  have hD : va_D A [(g0, .inr (4, [.ref h0, .ref hR, .ref gc, .ref gg, .ref gn, .ref gt, .int (nI tk), .int gl])), (h0, .inr (2, [.ref hv, .ref hi, .ref hM, .ref hV, .ref hN, .int (nI P), .int (nI nr)])), (gg, .inl (X.2 0, 4096, .inl (ia gs))), (hk, .inr (0, [.ref wk])), (wk, .inl (X.2 1, 64, .inr (.inl fk)))] := hD
  refine lv_ishl hx hb d_Ge_lowerGains_19 ?_
  refine topI (y := nI (4 ^ cn mm 6)) (bcF hm64) ?_
  refine lv_istore hx hb d_Ge_lowerGains_20 hl (by decide) rfl (fun ls hl => ?_)
  have hl : lv_has ls 9 [(5, .int (nI (4 ^ cn mm 6))), (4, .int (nI (fo mm 6))), (0, .ref g0), (1, .int (nI (fo n 6))), (2, .int (nI rr)), (3, .ref hk)] := hl
  refine lv_iconst (v := nI 0) hx hb d_Ge_lowerGains_22 (by decide) ?_
  refine topI (y := nI (ux mm 0)) (by rw [ux_0]) ?_
  refine lv_istore hx hb d_Ge_lowerGains_23 hl (by decide) rfl (fun ls hl => ?_)
  have hl : lv_has ls 9 [(6, .int (nI (ux mm 0))), (5, .int (nI (4 ^ cn mm 6))), (4, .int (nI (fo mm 6))), (0, .ref g0), (1, .int (nI (fo n 6))), (2, .int (nI rr)), (3, .ref hk)] := hl
  refine lv_iconst (v := nI 0) hx hb d_Ge_lowerGains_25 (by decide) ?_
  refine lv_istore hx hb d_Ge_lowerGains_26 hl (by decide) rfl (fun ls hl => ?_)
  have hl : lv_has ls 9 [(7, .int (nI 0)), (6, .int (nI (ux mm 0))), (5, .int (nI (4 ^ cn mm 6))), (4, .int (nI (fo mm 6))), (0, .ref g0), (1, .int (nI (fo n 6))), (2, .int (nI rr)), (3, .ref hk)] := hl
  refine wLoop (nL := 9) (σ := (Nat) × (Nat → Nat)) (fun x9 => (fun (j : Nat) (d : Nat → Nat) => 4 ^ cn mm 6 - j) x9.1 x9.2) (fun x9 => (fun (j : Nat) (d : Nat → Nat) => j ≤ 4 ^ cn mm 6 ∧ lgP gs K P n rr mm j d ∧ ∀ s, d s < 2 ^ 31) x9.1 x9.2) (fun x9 => (fun (j : Nat) (d : Nat → Nat) => [(g0, .inr (4, [.ref h0, .ref hR, .ref gc, .ref gg, .ref gn, .ref gt, .int (nI tk), .int gl])), (h0, .inr (2, [.ref hv, .ref hi, .ref hM, .ref hV, .ref hN, .int (nI P), .int (nI nr)])), (gg, .inl (X.2 0, 4096, .inl (ia d))), (hk, .inr (0, [.ref wk])), (wk, .inl (X.2 1, 64, .inr (.inl fk)))]) x9.1 x9.2) (fun x9 => (fun (j : Nat) (d : Nat → Nat) => [(0, .ref g0), (1, .int (nI (fo n 6))), (2, .int (nI rr)), (3, .ref hk), (4, .int (nI (fo mm 6))), (5, .int (nI (4 ^ cn mm 6))), (6, .int (nI (ux mm j))), (7, .int (nI j))]) x9.1 x9.2) ?_ (0, gs) (⟨Nat.zero_le _, lg_0, hgs⟩) hP hD hS (lv_sub hl [4, 5, 6, 7, 3, 2, 1, 0] rfl)
  rintro ⟨j, d⟩ H locs ls hJ hP hD hS hl ih28
  have hJ : j ≤ 4 ^ cn mm 6 ∧ lgP gs K P n rr mm j d ∧ ∀ s, d s < 2 ^ 31 := hJ
  obtain ⟨hj, hlg, hds⟩ := hJ
  have hP : va_P X.1 classes [(g0, .inr (4, [.ref h0, .ref hR, .ref gc, .ref gg, .ref gn, .ref gt, .int (nI tk), .int gl])), (h0, .inr (2, [.ref hv, .ref hi, .ref hM, .ref hV, .ref hN, .int (nI P), .int (nI nr)])), (gg, .inl (X.2 0, 4096, .inl (ia d))), (hk, .inr (0, [.ref wk])), (wk, .inl (X.2 1, 64, .inr (.inl fk)))] H := hP
  have hD : va_D A [(g0, .inr (4, [.ref h0, .ref hR, .ref gc, .ref gg, .ref gn, .ref gt, .int (nI tk), .int gl])), (h0, .inr (2, [.ref hv, .ref hi, .ref hM, .ref hV, .ref hN, .int (nI P), .int (nI nr)])), (gg, .inl (X.2 0, 4096, .inl (ia d))), (hk, .inr (0, [.ref wk])), (wk, .inl (X.2 1, 64, .inr (.inl fk)))] := hD
  have hl : lv_has ls 9 [(0, .ref g0), (1, .int (nI (fo n 6))), (2, .int (nI rr)), (3, .ref hk), (4, .int (nI (fo mm 6))), (5, .int (nI (4 ^ cn mm 6))), (6, .int (nI (ux mm j))), (7, .int (nI j))] := hl
  refine lv_iload hx hb d_Ge_lowerGains_28 (lv_at hl 7 rfl) ?_
  refine lv_iload hx hb d_Ge_lowerGains_30 (lv_at hl 5 rfl) ?_
  refine lv_icmp_ge (tgt := 78) hx hb d_Ge_lowerGains_32 (by decide) (fun hc32 => ?_) (fun hc32 => ?_)
  · rw [nI_leI (by omega) (by omega)] at hc32
    exact retV (u := d) hx hb hr hlk hP hD hS (⟨lg_end (by omega) hlg, hds⟩) d_Ge_lowerGains_78
  · rw [nI_leI (by omega) (by omega)] at hc32
    refine lv_iload_n hx hb d_Ge_lowerGains_35 rfl (lv_at hl 2 rfl) ?_
    refine lv_iload_n hx hb d_Ge_lowerGains_36 rfl (lv_at hl 1 rfl) ?_
    refine lv_iand hx hb d_Ge_lowerGains_37 ?_
    refine topI (nx_and _ _) ?_
    refine lv_iload hx hb d_Ge_lowerGains_38 (lv_at hl 6 rfl) ?_
    refine lv_ior hx hb d_Ge_lowerGains_40 ?_
    refine topI (y := nI (ot rr n mm j)) (nx_or _ _) ?_
    have hot : ot rr n mm j < 4 ^ P := hmm ▸ ot_P (by omega) hn hrP
    have hat := lg_at (by omega) hn hrP hmm (by omega) hlg
    refine lv_istore hx hb d_Ge_lowerGains_41 hl (by decide) rfl (fun ls hl => ?_)
    have hl : lv_has ls 9 [(8, .int (nI (ot rr n mm j))), (0, .ref g0), (1, .int (nI (fo n 6))), (2, .int (nI rr)), (3, .ref hk), (4, .int (nI (fo mm 6))), (5, .int (nI (4 ^ cn mm 6))), (6, .int (nI (ux mm j))), (7, .int (nI j))] := hl
    refine lv_aload_n hx hb d_Ge_lowerGains_43 rfl (lv_at hl 4 rfl) ?_
    refine lv_iload hx hb d_Ge_lowerGains_44 (lv_at hl 0 rfl) ?_
    refine clVI (n := 1) (As := [.int (nI (ot rr n mm j))]) (rest := []) (wc := [(hk, .inr (0, [.ref wk])), (wk, .inl (X.2 1, 64, .inr (.inl fk)))]) (wr := [(g0, .inr (4, [.ref h0, .ref hR, .ref gc, .ref gg, .ref gn, .ref gt, .int (nI tk), .int gl])), (h0, .inr (2, [.ref hv, .ref hi, .ref hM, .ref hV, .ref hN, .int (nI P), .int (nI nr)])), (gg, .inl (X.2 0, 4096, .inl (ia d)))]) hx hb hml hown hg hE hA hP hD hS (k_NS_has l X hk wk fk K hfK (ot rr n mm j) (by omega)) (gcons m_355 (gcons m_356 (gcons m_357 (gcons m_3 (gcons m_358 gG))))) (by decide +kernel) [3, 4] [0, 1, 2] rfl rfl (by decide) (by decide) (by decide) 0 rfl rfl rfl hl.1 (Nat.le_of_ble_eq_true rfl) rfl d_Ge_lowerGains_46 ⟨rfl, rfl, Nat.le_of_ble_eq_true rfl, Nat.le_of_ble_eq_true rfl⟩ (⟨Nat.le_of_ble_eq_true rfl, Nat.le_of_ble_eq_true rfl⟩) (fun r46 u46 H locs hq46 hP hD hS => ?_)
    have hq46 : r46 = bI (K (ot rr n mm j)) := hq46
    subst hq46
    have hP : va_P X.1 classes [(g0, .inr (4, [.ref h0, .ref hR, .ref gc, .ref gg, .ref gn, .ref gt, .int (nI tk), .int gl])), (h0, .inr (2, [.ref hv, .ref hi, .ref hM, .ref hV, .ref hN, .int (nI P), .int (nI nr)])), (gg, .inl (X.2 0, 4096, .inl (ia d))), (hk, .inr (0, [.ref wk])), (wk, .inl (X.2 1, 64, .inr (.inl fk)))] H := hP
    have hD : va_D A [(g0, .inr (4, [.ref h0, .ref hR, .ref gc, .ref gg, .ref gn, .ref gt, .int (nI tk), .int gl])), (h0, .inr (2, [.ref hv, .ref hi, .ref hM, .ref hV, .ref hN, .int (nI P), .int (nI nr)])), (gg, .inl (X.2 0, 4096, .inl (ia d))), (hk, .inr (0, [.ref wk])), (wk, .inl (X.2 1, 64, .inr (.inl fk)))] := hD
    refine lv_if_eq (tgt := 63) hx hb d_Ge_lowerGains_49 (by decide) (fun hc49 => ?_) (fun hc49 => ?_)
    · rw [bI_z] at hc49
      refine lv_iload hx hb d_Ge_lowerGains_63 (lv_at hl 5 rfl) ?_
      refine lv_iload hx hb d_Ge_lowerGains_65 (lv_at hl 7 rfl) ?_
      refine clSNI (n := 2) (As := [.int (nI (fo mm 6)), .int (nI (ux mm j))]) (rest := []) (wc := []) (wr := [(g0, .inr (4, [.ref h0, .ref hR, .ref gc, .ref gg, .ref gn, .ref gt, .int (nI tk), .int gl])), (h0, .inr (2, [.ref hv, .ref hi, .ref hM, .ref hV, .ref hN, .int (nI P), .int (nI nr)])), (gg, .inl (X.2 0, 4096, .inl (ia d))), (hk, .inr (0, [.ref wk])), (wk, .inl (X.2 1, 64, .inr (.inl fk)))]) hx hb hml hown hg hE hA hP hD hS (k_CR_nextWithin l X (nI (fo mm 6)) (nI (ux mm j))) m_311 m_310 m_1 (nw_9 hE.2.1) (by decide +kernel) [] [0, 1, 2, 3, 4] rfl rfl (by decide) (by decide) (by decide) rfl hl.1 (Nat.le_of_ble_eq_true rfl) rfl d_Ge_lowerGains_67 ⟨rfl, rfl, Nat.le_of_ble_eq_true rfl, Nat.le_of_ble_eq_true rfl⟩ (⟨Nat.le_of_ble_eq_true rfl, Nat.le_of_ble_eq_true rfl⟩) (fun r67 u67 H locs hq67 hP hD hS => ?_)
      have hq67 : r67 = (nI (ux mm j) - nI (fo mm 6)) &&& nI (fo mm 6) := hq67
      subst hq67
      have hP : va_P X.1 classes [(g0, .inr (4, [.ref h0, .ref hR, .ref gc, .ref gg, .ref gn, .ref gt, .int (nI tk), .int gl])), (h0, .inr (2, [.ref hv, .ref hi, .ref hM, .ref hV, .ref hN, .int (nI P), .int (nI nr)])), (gg, .inl (X.2 0, 4096, .inl (ia d))), (hk, .inr (0, [.ref wk])), (wk, .inl (X.2 1, 64, .inr (.inl fk)))] H := hP
      have hD : va_D A [(g0, .inr (4, [.ref h0, .ref hR, .ref gc, .ref gg, .ref gn, .ref gt, .int (nI tk), .int gl])), (h0, .inr (2, [.ref hv, .ref hi, .ref hM, .ref hV, .ref hN, .int (nI P), .int (nI nr)])), (gg, .inl (X.2 0, 4096, .inl (ia d))), (hk, .inr (0, [.ref wk])), (wk, .inl (X.2 1, 64, .inr (.inl fk)))] := hD
      refine topI (y := nI (ux mm (j + 1))) (ux_next hm64 (by omega)) ?_
      refine lv_istore hx hb d_Ge_lowerGains_70 hl (by decide) rfl (fun ls hl => ?_)
      have hl : lv_has ls 9 [(6, .int (nI (ux mm (j + 1)))), (8, .int (nI (ot rr n mm j))), (0, .ref g0), (1, .int (nI (fo n 6))), (2, .int (nI rr)), (3, .ref hk), (4, .int (nI (fo mm 6))), (5, .int (nI (4 ^ cn mm 6))), (7, .int (nI j))] := hl
      refine lv_iinc (k := 8) (v := nI (j + 1)) hx hb d_Ge_lowerGains_72 hl rfl (nI_1 _) (by decide) rfl (fun ls hl => ?_)
      have hl : lv_has ls 9 [(7, .int (nI (j + 1))), (6, .int (nI (ux mm (j + 1)))), (8, .int (nI (ot rr n mm j))), (0, .ref g0), (1, .int (nI (fo n 6))), (2, .int (nI rr)), (3, .ref hk), (4, .int (nI (fo mm 6))), (5, .int (nI (4 ^ cn mm 6)))] := hl
      refine lv_goto (tgt := 28) hx hb d_Ge_lowerGains_75 (by decide) ?_
      exact ih28 (j + 1, d) H locs ls (by (try dsimp only); omega) (by first | exact ⟨by (try dsimp only); omega, lg_T (by omega) hn hrP hmm (by omega) hlg hc49, up31 hds (by have := hds (ot rr n mm j); omega)⟩ | exact ⟨by (try dsimp only); omega, lg_F (by omega) hn hrP hmm (by omega) hlg hc49, hds⟩) hP hD hS (lv_sub hl [3, 4, 5, 6, 7, 8, 1, 0] rfl)
    · rw [bI_z] at hc49
      refine lv_aload_n hx hb d_Ge_lowerGains_52 rfl (lv_at hl 1 rfl) ?_
      refine va_get (D := X.1) (ci := 4) (v := .ref gg) (C := R_Ge) (T := F_Ge) (N := 8) hx hb hg in_Ge hown hE.1 hP 0 rfl rfl 3 (by decide) (hg _ m_137) (fun _ h9 => h9) rfl d_Ge_lowerGains_53 ?_
      refine lv_iload hx hb d_Ge_lowerGains_56 (lv_at hl 0 rfl) ?_
      refine lv_dup2_11 hx hb d_Ge_lowerGains_58 rfl rfl ?_
      refine va_iald hx hb hE.1 hP 2 0 rfl rfl (vp_in_nI (by omega) (by decide)) d_Ge_lowerGains_59 ?_
      refine topI (y := (ia d) (ot rr n mm j)) (by rw [nI_clamp (by omega)]) ?_
      refine topI (y := nI (d (ot rr n mm j))) (rfl) ?_
      refine lv_iconst (v := nI 1) hx hb d_Ge_lowerGains_60 (by decide) ?_
      refine lv_isub hx hb d_Ge_lowerGains_61 ?_
      refine topI (pk_sub (by rw [hat]; exact hg1 _ hot (ot_tp (by omega) hn hrP hmm (by omega)) (ts_nf hc49))) ?_
      refine va_iast hx hb hE.1 hP hD hS 2 0 rfl rfl (vp_in_nI (by omega) (by decide)) d_Ge_lowerGains_62 (fun H locs hP hD hS => ?_)
      have hP : va_P X.1 classes [(g0, .inr (4, [.ref h0, .ref hR, .ref gc, .ref gg, .ref gn, .ref gt, .int (nI tk), .int gl])), (h0, .inr (2, [.ref hv, .ref hi, .ref hM, .ref hV, .ref hN, .int (nI P), .int (nI nr)])), (gg, .inl (X.2 0, 4096, .inl (upd (ia d) (nI (ot rr n mm j)).toNatClampNeg (nI ((d (ot rr n mm j)) - 1))))), (hk, .inr (0, [.ref wk])), (wk, .inl (X.2 1, 64, .inr (.inl fk)))] H := hP
      have hD : va_D A [(g0, .inr (4, [.ref h0, .ref hR, .ref gc, .ref gg, .ref gn, .ref gt, .int (nI tk), .int gl])), (h0, .inr (2, [.ref hv, .ref hi, .ref hM, .ref hV, .ref hN, .int (nI P), .int (nI nr)])), (gg, .inl (X.2 0, 4096, .inl (upd (ia d) (nI (ot rr n mm j)).toNatClampNeg (nI ((d (ot rr n mm j)) - 1))))), (hk, .inr (0, [.ref wk])), (wk, .inl (X.2 1, 64, .inr (.inl fk)))] := hD
      rw [nI_clamp (show ot rr n mm j < 2 ^ 31 by omega)] at hP hD
      have e9 : upd (ia d) (ot rr n mm j) (nI ((d (ot rr n mm j)) - 1)) = ia (upN d (ot rr n mm j) (d (ot rr n mm j) - 1)) := upd_ia _ _ _
      rw [e9] at hP hD
      clear e9
      refine lv_iload hx hb d_Ge_lowerGains_63 (lv_at hl 5 rfl) ?_
      refine lv_iload hx hb d_Ge_lowerGains_65 (lv_at hl 7 rfl) ?_
      refine clSNI (n := 2) (As := [.int (nI (fo mm 6)), .int (nI (ux mm j))]) (rest := []) (wc := []) (wr := [(g0, .inr (4, [.ref h0, .ref hR, .ref gc, .ref gg, .ref gn, .ref gt, .int (nI tk), .int gl])), (h0, .inr (2, [.ref hv, .ref hi, .ref hM, .ref hV, .ref hN, .int (nI P), .int (nI nr)])), (gg, .inl (X.2 0, 4096, .inl (ia (upN d (ot rr n mm j) (d (ot rr n mm j) - 1))))), (hk, .inr (0, [.ref wk])), (wk, .inl (X.2 1, 64, .inr (.inl fk)))]) hx hb hml hown hg hE hA hP hD hS (k_CR_nextWithin l X (nI (fo mm 6)) (nI (ux mm j))) m_311 m_310 m_1 (nw_9 hE.2.1) (by decide +kernel) [] [0, 1, 2, 3, 4] rfl rfl (by decide) (by decide) (by decide) rfl hl.1 (Nat.le_of_ble_eq_true rfl) rfl d_Ge_lowerGains_67 ⟨rfl, rfl, Nat.le_of_ble_eq_true rfl, Nat.le_of_ble_eq_true rfl⟩ (⟨Nat.le_of_ble_eq_true rfl, Nat.le_of_ble_eq_true rfl⟩) (fun r67 u67 H locs hq67 hP hD hS => ?_)
      have hq67 : r67 = (nI (ux mm j) - nI (fo mm 6)) &&& nI (fo mm 6) := hq67
      subst hq67
      have hP : va_P X.1 classes [(g0, .inr (4, [.ref h0, .ref hR, .ref gc, .ref gg, .ref gn, .ref gt, .int (nI tk), .int gl])), (h0, .inr (2, [.ref hv, .ref hi, .ref hM, .ref hV, .ref hN, .int (nI P), .int (nI nr)])), (gg, .inl (X.2 0, 4096, .inl (ia (upN d (ot rr n mm j) (d (ot rr n mm j) - 1))))), (hk, .inr (0, [.ref wk])), (wk, .inl (X.2 1, 64, .inr (.inl fk)))] H := hP
      have hD : va_D A [(g0, .inr (4, [.ref h0, .ref hR, .ref gc, .ref gg, .ref gn, .ref gt, .int (nI tk), .int gl])), (h0, .inr (2, [.ref hv, .ref hi, .ref hM, .ref hV, .ref hN, .int (nI P), .int (nI nr)])), (gg, .inl (X.2 0, 4096, .inl (ia (upN d (ot rr n mm j) (d (ot rr n mm j) - 1))))), (hk, .inr (0, [.ref wk])), (wk, .inl (X.2 1, 64, .inr (.inl fk)))] := hD
      refine topI (y := nI (ux mm (j + 1))) (ux_next hm64 (by omega)) ?_
      refine lv_istore hx hb d_Ge_lowerGains_70 hl (by decide) rfl (fun ls hl => ?_)
      have hl : lv_has ls 9 [(6, .int (nI (ux mm (j + 1)))), (8, .int (nI (ot rr n mm j))), (0, .ref g0), (1, .int (nI (fo n 6))), (2, .int (nI rr)), (3, .ref hk), (4, .int (nI (fo mm 6))), (5, .int (nI (4 ^ cn mm 6))), (7, .int (nI j))] := hl
      refine lv_iinc (k := 8) (v := nI (j + 1)) hx hb d_Ge_lowerGains_72 hl rfl (nI_1 _) (by decide) rfl (fun ls hl => ?_)
      have hl : lv_has ls 9 [(7, .int (nI (j + 1))), (6, .int (nI (ux mm (j + 1)))), (8, .int (nI (ot rr n mm j))), (0, .ref g0), (1, .int (nI (fo n 6))), (2, .int (nI rr)), (3, .ref hk), (4, .int (nI (fo mm 6))), (5, .int (nI (4 ^ cn mm 6)))] := hl
      refine lv_goto (tgt := 28) hx hb d_Ge_lowerGains_75 (by decide) ?_
      exact ih28 (j + 1, ((upN d (ot rr n mm j) (d (ot rr n mm j) - 1)))) H locs ls (by (try dsimp only); omega) (by first | exact ⟨by (try dsimp only); omega, lg_T (by omega) hn hrP hmm (by omega) hlg hc49, up31 hds (by have := hds (ot rr n mm j); omega)⟩ | exact ⟨by (try dsimp only); omega, lg_F (by omega) hn hrP hmm (by omega) hlg hc49, hds⟩) hP hD hS (lv_sub hl [3, 4, 5, 6, 7, 8, 1, 0] rfl)
set_option maxHeartbeats 4000000 in
set_option maxRecDepth 100000 in
theorem k_Ge_bestOf (l : Launch) (X : Cx) (h0 hv hi hM hV hN : Nat) (P nr : Nat) (vl iv : Nat → Nat) (hP6 : P ≤ 6) (g0 hR gc gg gn gt tk : Nat) (gl : Int32) (gs : Nat → Nat) (hgs : ∀ s, gs s < 2 ^ 31) (hk wk : Nat) (fk : Nat → Int64) (K : Nat → Bool) (hfK : RS fk K) : CtI l X (TY X) y_Ge_bestOf cw_Ge_bestOf ({ frames := 1, cells := 0, slots := 0, locals := 21 } : Room) [.ref g0, .ref hk] [(g0, .inr (4, [.ref h0, .ref hR, .ref gc, .ref gg, .ref gn, .ref gt, .int (nI tk), .int gl])), (h0, .inr (2, [.ref hv, .ref hi, .ref hM, .ref hV, .ref hN, .int (nI P), .int (nI nr)])), (gg, .inl (X.2 0, 4096, .inl (ia gs))), (hk, .inr (0, [.ref wk])), (wk, .inl (X.2 1, 64, .inr (.inl fk)))] (S := Option Nat) (fun r b => r = oI b ∧ bsP K gs (4 ^ P) b) (fun _ => [(g0, .inr (4, [.ref h0, .ref hR, .ref gc, .ref gg, .ref gn, .ref gt, .int (nI tk), .int gl])), (h0, .inr (2, [.ref hv, .ref hi, .ref hM, .ref hV, .ref hN, .int (nI P), .int (nI nr)])), (gg, .inl (X.2 0, 4096, .inl (ia gs))), (hk, .inr (0, [.ref wk])), (wk, .inl (X.2 1, 64, .inr (.inl fk)))]) 0 0 := by
  refine metI (by decide) (Nat.le_of_ble_eq_true rfl) ?_
  intro p e s m below meth c A ls hB hl
  obtain ⟨hx, hb, hr, hml, hown, hlk, hin, hg, hA, hD, hP, hE⟩ := hB
  have hS : va_S A s.heap s.heap [] := va_S.rf
  have hl : lv_has ls 6 [(0, .ref g0), (1, .ref hk)] := hl
  have h4P := pw4le hP6
  refine lv_iconst (v := (-1)) hx hb d_Ge_bestOf_0 (by decide) ?_
  refine topI (y := oI none) (rfl) ?_
  refine lv_istore_n hx hb d_Ge_bestOf_1 rfl hl (by decide) rfl (fun ls hl => ?_)
  have hl : lv_has ls 6 [(2, .int (oI none)), (0, .ref g0), (1, .ref hk)] := hl
  refine lv_iconst (v := nI 0) hx hb d_Ge_bestOf_2 (by decide) ?_
  refine lv_istore_n hx hb d_Ge_bestOf_3 rfl hl (by decide) rfl (fun ls hl => ?_)
  have hl : lv_has ls 6 [(3, .int (nI 0)), (2, .int (oI none)), (0, .ref g0), (1, .ref hk)] := hl
  refine lv_aload_n hx hb d_Ge_bestOf_4 rfl (lv_at hl 2 rfl) ?_
  refine va_get (D := X.1) (ci := 4) (v := .ref h0) (C := R_Ge) (T := F_Ge) (N := 8) hx hb hg in_Ge hown hE.1 hP 0 rfl rfl 0 (by decide) (hg _ m_134) (fun _ h9 => h9) rfl d_Ge_bestOf_5 ?_
  refine clVI (n := 0) (As := []) (rest := []) (wc := [(h0, .inr (2, [.ref hv, .ref hi, .ref hM, .ref hV, .ref hN, .int (nI P), .int (nI nr)]))]) (wr := [(g0, .inr (4, [.ref h0, .ref hR, .ref gc, .ref gg, .ref gn, .ref gt, .int (nI tk), .int gl])), (gg, .inl (X.2 0, 4096, .inl (ia gs))), (hk, .inr (0, [.ref wk])), (wk, .inl (X.2 1, 64, .inr (.inl fk)))]) hx hb hml hown hg hE hA hP hD hS (k_Sp_numberLimit l X h0 hv hi hM hV hN P nr vl iv hP6) (gcons m_347 (gcons m_348 (gcons m_349 (gcons m_2 (gcons m_350 gG))))) (by decide +kernel) [1] [0, 2, 3, 4] rfl rfl (by decide) (by decide) (by decide) 0 rfl rfl rfl hl.1 (Nat.le_of_ble_eq_true rfl) rfl d_Ge_bestOf_8 ⟨rfl, rfl, Nat.le_of_ble_eq_true rfl, Nat.le_of_ble_eq_true rfl⟩ (⟨Nat.le_of_ble_eq_true rfl, Nat.le_of_ble_eq_true rfl⟩) (fun r8 u8 H locs hq8 hP hD hS => ?_)
  have hq8 : r8 = nI (4 ^ P) := hq8
  subst hq8
  have hP := hP.sub (ws' := [(g0, .inr (4, [.ref h0, .ref hR, .ref gc, .ref gg, .ref gn, .ref gt, .int (nI tk), .int gl])), (h0, .inr (2, [.ref hv, .ref hi, .ref hM, .ref hV, .ref hN, .int (nI P), .int (nI nr)])), (gg, .inl (X.2 0, 4096, .inl (ia gs))), (hk, .inr (0, [.ref wk])), (wk, .inl (X.2 1, 64, .inr (.inl fk)))]) [0, 4, 1, 2, 3] rfl
  have hD := hD.sub (ws' := [(g0, .inr (4, [.ref h0, .ref hR, .ref gc, .ref gg, .ref gn, .ref gt, .int (nI tk), .int gl])), (h0, .inr (2, [.ref hv, .ref hi, .ref hM, .ref hV, .ref hN, .int (nI P), .int (nI nr)])), (gg, .inl (X.2 0, 4096, .inl (ia gs))), (hk, .inr (0, [.ref wk])), (wk, .inl (X.2 1, 64, .inr (.inl fk)))]) [0, 4, 1, 2, 3] (by decide) rfl
  refine lv_istore hx hb d_Ge_bestOf_11 hl (by decide) rfl (fun ls hl => ?_)
  have hl : lv_has ls 6 [(4, .int (nI (4 ^ P))), (3, .int (nI 0)), (2, .int (oI none)), (0, .ref g0), (1, .ref hk)] := hl
  refine lv_iconst (v := nI 0) hx hb d_Ge_bestOf_13 (by decide) ?_
  refine lv_istore hx hb d_Ge_bestOf_14 hl (by decide) rfl (fun ls hl => ?_)
  have hl : lv_has ls 6 [(5, .int (nI 0)), (4, .int (nI (4 ^ P))), (3, .int (nI 0)), (2, .int (oI none)), (0, .ref g0), (1, .ref hk)] := hl
  refine wLoop (nL := 6) (σ := (Nat) × (Option Nat)) (fun x9 => (fun (k : Nat) (b : Option Nat) => 4 ^ P - k) x9.1 x9.2) (fun x9 => (fun (k : Nat) (b : Option Nat) => k ≤ 4 ^ P ∧ bsP K gs k b) x9.1 x9.2) (fun x9 => (fun (k : Nat) (b : Option Nat) => [(g0, .inr (4, [.ref h0, .ref hR, .ref gc, .ref gg, .ref gn, .ref gt, .int (nI tk), .int gl])), (h0, .inr (2, [.ref hv, .ref hi, .ref hM, .ref hV, .ref hN, .int (nI P), .int (nI nr)])), (gg, .inl (X.2 0, 4096, .inl (ia gs))), (hk, .inr (0, [.ref wk])), (wk, .inl (X.2 1, 64, .inr (.inl fk)))]) x9.1 x9.2) (fun x9 => (fun (k : Nat) (b : Option Nat) => [(0, .ref g0), (1, .ref hk), (2, .int (oI b)), (3, .int (nI (mst gs b))), (4, .int (nI (4 ^ P))), (5, .int (nI k))]) x9.1 x9.2) ?_ (0, none) (⟨Nat.zero_le _, bs_0⟩) hP hD hS (lv_sub hl [4, 5, 3, 2, 1, 0] rfl)
  rintro ⟨k, b⟩ H locs ls hJ hP hD hS hl ih16
  have hJ : k ≤ 4 ^ P ∧ bsP K gs k b := hJ
  obtain ⟨hk4, hbs⟩ := hJ
  have hgk := hgs k
  have hmb := mst_lt (by decide) hgs b
  have hP : va_P X.1 classes [(g0, .inr (4, [.ref h0, .ref hR, .ref gc, .ref gg, .ref gn, .ref gt, .int (nI tk), .int gl])), (h0, .inr (2, [.ref hv, .ref hi, .ref hM, .ref hV, .ref hN, .int (nI P), .int (nI nr)])), (gg, .inl (X.2 0, 4096, .inl (ia gs))), (hk, .inr (0, [.ref wk])), (wk, .inl (X.2 1, 64, .inr (.inl fk)))] H := hP
  have hD : va_D A [(g0, .inr (4, [.ref h0, .ref hR, .ref gc, .ref gg, .ref gn, .ref gt, .int (nI tk), .int gl])), (h0, .inr (2, [.ref hv, .ref hi, .ref hM, .ref hV, .ref hN, .int (nI P), .int (nI nr)])), (gg, .inl (X.2 0, 4096, .inl (ia gs))), (hk, .inr (0, [.ref wk])), (wk, .inl (X.2 1, 64, .inr (.inl fk)))] := hD
  have hl : lv_has ls 6 [(0, .ref g0), (1, .ref hk), (2, .int (oI b)), (3, .int (nI (mst gs b))), (4, .int (nI (4 ^ P))), (5, .int (nI k))] := hl
  refine lv_iload hx hb d_Ge_bestOf_16 (lv_at hl 5 rfl) ?_
  refine lv_iload hx hb d_Ge_bestOf_18 (lv_at hl 4 rfl) ?_
  refine lv_icmp_ge (tgt := 60) hx hb d_Ge_bestOf_20 (by decide) (fun hc20 => ?_) (fun hc20 => ?_)
  · rw [nI_leI (by omega) (by omega)] at hc20
    refine lv_iload_n hx hb d_Ge_bestOf_60 rfl (lv_at hl 2 rfl) ?_
    obtain rfl : k = 4 ^ P := by omega
    exact retI (u := b) hx hb hr hlk hP hD hS (⟨rfl, hbs⟩) d_Ge_bestOf_61
  · rw [nI_leI (by omega) (by omega)] at hc20
    refine lv_aload_n hx hb d_Ge_bestOf_23 rfl (lv_at hl 0 rfl) ?_
    refine va_get (D := X.1) (ci := 4) (v := .ref gg) (C := R_Ge) (T := F_Ge) (N := 8) hx hb hg in_Ge hown hE.1 hP 0 rfl rfl 3 (by decide) (hg _ m_137) (fun _ h9 => h9) rfl d_Ge_bestOf_24 ?_
    refine lv_iload hx hb d_Ge_bestOf_27 (lv_at hl 5 rfl) ?_
    refine va_iald hx hb hE.1 hP 2 0 rfl rfl (vp_in_nI (by omega) (by decide)) d_Ge_bestOf_29 ?_
    refine topI (y := (ia gs) k) (by rw [nI_clamp (by omega)]) ?_
    refine topI (y := nI (gs k)) (rfl) ?_
    refine lv_iload_n hx hb d_Ge_bestOf_30 rfl (lv_at hl 3 rfl) ?_
    refine lv_icmp_le (tgt := 54) hx hb d_Ge_bestOf_31 (by decide) (fun hc31 => ?_) (fun hc31 => ?_)
    · rw [nI_leI (by omega) (by omega)] at hc31
      refine lv_iinc (k := 5) (v := nI (k + 1)) hx hb d_Ge_bestOf_54 hl rfl (nI_1 _) (by decide) rfl (fun ls hl => ?_)
      have hl : lv_has ls 6 [(5, .int (nI (k + 1))), (0, .ref g0), (1, .ref hk), (2, .int (oI b)), (3, .int (nI (mst gs b))), (4, .int (nI (4 ^ P)))] := hl
      refine lv_goto (tgt := 16) hx hb d_Ge_bestOf_57 (by decide) ?_
      exact ih16 (k + 1, b) H locs ls (by (try dsimp only); omega) (by first | exact ⟨by (try dsimp only); omega, bs_no hbs (fun _ => hc31)⟩ | exact ⟨by (try dsimp only); omega, bs_no hbs (fun hR9 => by rw [hc40] at hR9; cases hR9)⟩ | exact ⟨by (try dsimp only); omega, bs_new hbs (ts_nf hc40) (by omega)⟩) hP hD hS (lv_sub hl [1, 2, 3, 4, 5, 0] rfl)
    · rw [nI_leI (by omega) (by omega)] at hc31
      refine lv_aload_n hx hb d_Ge_bestOf_34 rfl (lv_at hl 1 rfl) ?_
      refine lv_iload hx hb d_Ge_bestOf_35 (lv_at hl 5 rfl) ?_
      refine clVI (n := 1) (As := [.int (nI k)]) (rest := []) (wc := [(hk, .inr (0, [.ref wk])), (wk, .inl (X.2 1, 64, .inr (.inl fk)))]) (wr := [(g0, .inr (4, [.ref h0, .ref hR, .ref gc, .ref gg, .ref gn, .ref gt, .int (nI tk), .int gl])), (h0, .inr (2, [.ref hv, .ref hi, .ref hM, .ref hV, .ref hN, .int (nI P), .int (nI nr)])), (gg, .inl (X.2 0, 4096, .inl (ia gs)))]) hx hb hml hown hg hE hA hP hD hS (k_NS_has l X hk wk fk K hfK k (by omega)) (gcons m_355 (gcons m_356 (gcons m_357 (gcons m_3 (gcons m_358 gG))))) (by decide +kernel) [3, 4] [0, 1, 2] rfl rfl (by decide) (by decide) (by decide) 0 rfl rfl rfl hl.1 (Nat.le_of_ble_eq_true rfl) rfl d_Ge_bestOf_37 ⟨rfl, rfl, Nat.le_of_ble_eq_true rfl, Nat.le_of_ble_eq_true rfl⟩ (⟨Nat.le_of_ble_eq_true rfl, Nat.le_of_ble_eq_true rfl⟩) (fun r37 u37 H locs hq37 hP hD hS => ?_)
      have hq37 : r37 = bI (K k) := hq37
      subst hq37
      have hP : va_P X.1 classes [(g0, .inr (4, [.ref h0, .ref hR, .ref gc, .ref gg, .ref gn, .ref gt, .int (nI tk), .int gl])), (h0, .inr (2, [.ref hv, .ref hi, .ref hM, .ref hV, .ref hN, .int (nI P), .int (nI nr)])), (gg, .inl (X.2 0, 4096, .inl (ia gs))), (hk, .inr (0, [.ref wk])), (wk, .inl (X.2 1, 64, .inr (.inl fk)))] H := hP
      have hD : va_D A [(g0, .inr (4, [.ref h0, .ref hR, .ref gc, .ref gg, .ref gn, .ref gt, .int (nI tk), .int gl])), (h0, .inr (2, [.ref hv, .ref hi, .ref hM, .ref hV, .ref hN, .int (nI P), .int (nI nr)])), (gg, .inl (X.2 0, 4096, .inl (ia gs))), (hk, .inr (0, [.ref wk])), (wk, .inl (X.2 1, 64, .inr (.inl fk)))] := hD
      refine lv_if_eq (tgt := 54) hx hb d_Ge_bestOf_40 (by decide) (fun hc40 => ?_) (fun hc40 => ?_)
      · rw [bI_z] at hc40
        refine lv_iinc (k := 5) (v := nI (k + 1)) hx hb d_Ge_bestOf_54 hl rfl (nI_1 _) (by decide) rfl (fun ls hl => ?_)
        have hl : lv_has ls 6 [(5, .int (nI (k + 1))), (0, .ref g0), (1, .ref hk), (2, .int (oI b)), (3, .int (nI (mst gs b))), (4, .int (nI (4 ^ P)))] := hl
        refine lv_goto (tgt := 16) hx hb d_Ge_bestOf_57 (by decide) ?_
        exact ih16 (k + 1, b) H locs ls (by (try dsimp only); omega) (by first | exact ⟨by (try dsimp only); omega, bs_no hbs (fun _ => hc31)⟩ | exact ⟨by (try dsimp only); omega, bs_no hbs (fun hR9 => by rw [hc40] at hR9; cases hR9)⟩ | exact ⟨by (try dsimp only); omega, bs_new hbs (ts_nf hc40) (by omega)⟩) hP hD hS (lv_sub hl [1, 2, 3, 4, 5, 0] rfl)
      · rw [bI_z] at hc40
        refine lv_aload_n hx hb d_Ge_bestOf_43 rfl (lv_at hl 0 rfl) ?_
        refine va_get (D := X.1) (ci := 4) (v := .ref gg) (C := R_Ge) (T := F_Ge) (N := 8) hx hb hg in_Ge hown hE.1 hP 0 rfl rfl 3 (by decide) (hg _ m_137) (fun _ h9 => h9) rfl d_Ge_bestOf_44 ?_
        refine lv_iload hx hb d_Ge_bestOf_47 (lv_at hl 5 rfl) ?_
        refine va_iald hx hb hE.1 hP 2 0 rfl rfl (vp_in_nI (by omega) (by decide)) d_Ge_bestOf_49 ?_
        refine topI (y := (ia gs) k) (by rw [nI_clamp (by omega)]) ?_
        refine topI (y := nI (gs k)) (rfl) ?_
        refine lv_istore_n hx hb d_Ge_bestOf_50 rfl hl (by decide) rfl (fun ls hl => ?_)
        have hl : lv_has ls 6 [(3, .int (nI (gs k))), (0, .ref g0), (1, .ref hk), (2, .int (oI b)), (4, .int (nI (4 ^ P))), (5, .int (nI k))] := hl
        refine lv_iload hx hb d_Ge_bestOf_51 (lv_at hl 5 rfl) ?_
        refine lv_istore_n hx hb d_Ge_bestOf_53 rfl hl (by decide) rfl (fun ls hl => ?_)
        have hl : lv_has ls 6 [(2, .int (nI k)), (3, .int (nI (gs k))), (0, .ref g0), (1, .ref hk), (4, .int (nI (4 ^ P))), (5, .int (nI k))] := hl
        refine lv_iinc (k := 5) (v := nI (k + 1)) hx hb d_Ge_bestOf_54 hl rfl (nI_1 _) (by decide) rfl (fun ls hl => ?_)
        have hl : lv_has ls 6 [(5, .int (nI (k + 1))), (2, .int (nI k)), (3, .int (nI (gs k))), (0, .ref g0), (1, .ref hk), (4, .int (nI (4 ^ P)))] := hl
        refine lv_goto (tgt := 16) hx hb d_Ge_bestOf_57 (by decide) ?_
        exact ih16 (k + 1, some k) H locs ls (by (try dsimp only); omega) (by first | exact ⟨by (try dsimp only); omega, bs_no hbs (fun _ => hc31)⟩ | exact ⟨by (try dsimp only); omega, bs_no hbs (fun hR9 => by rw [hc40] at hR9; cases hR9)⟩ | exact ⟨by (try dsimp only); omega, bs_new hbs (ts_nf hc40) (by omega)⟩) hP hD hS (lv_sub hl [3, 4, 1, 2, 5, 0] rfl)
set_option maxHeartbeats 4000000 in
set_option maxRecDepth 100000 in
theorem k_Ge_best (l : Launch) (X : Cx) (h0 hv hi hM hV hN : Nat) (P nr : Nat) (vl iv : Nat → Nat) (hP6 : P ≤ 6) (g0 hR gc gg gn gt tk : Nat) (gl : Int32) (gs : Nat → Nat) (hgs : ∀ s, gs s < 2 ^ 31) (wV wN : Nat) (fV fN : Nat → Int64) (VS NSs : Nat → Bool) (hfV : RS fV VS) (hfN : RS fN NSs) : CtI l X (TY X) y_Ge_best cw_Ge_best ({ frames := 2, cells := 0, slots := 0, locals := 46 } : Room) [.ref g0] [(g0, .inr (4, [.ref h0, .ref hR, .ref gc, .ref gg, .ref gn, .ref gt, .int (nI tk), .int gl])), (h0, .inr (2, [.ref hv, .ref hi, .ref hM, .ref hV, .ref hN, .int (nI P), .int (nI nr)])), (gg, .inl (X.2 0, 4096, .inl (ia gs))), (hV, .inr (0, [.ref wV])), (wV, .inl (X.2 1, 64, .inr (.inl fV))), (hN, .inr (0, [.ref wN])), (wN, .inl (X.2 1, 64, .inr (.inl fN)))] (S := Option Nat) (fun r b => r = oI b ∧ bst2 VS NSs gs (4 ^ P) b) (fun _ => [(g0, .inr (4, [.ref h0, .ref hR, .ref gc, .ref gg, .ref gn, .ref gt, .int (nI tk), .int gl])), (h0, .inr (2, [.ref hv, .ref hi, .ref hM, .ref hV, .ref hN, .int (nI P), .int (nI nr)])), (gg, .inl (X.2 0, 4096, .inl (ia gs))), (hV, .inr (0, [.ref wV])), (wV, .inl (X.2 1, 64, .inr (.inl fV))), (hN, .inr (0, [.ref wN])), (wN, .inl (X.2 1, 64, .inr (.inl fN)))]) 0 0 := by
  refine metI (by decide) (Nat.le_of_ble_eq_true rfl) ?_
  intro p e s m below meth c A ls hB hl
  obtain ⟨hx, hb, hr, hml, hown, hlk, hin, hg, hA, hD, hP, hE⟩ := hB
  have hS : va_S A s.heap s.heap [] := va_S.rf
  have hl : lv_has ls 2 [(0, .ref g0)] := hl
  have h4P := pw4le hP6
  refine lv_aload_n hx hb d_Ge_best_0 rfl (lv_at hl 0 rfl) ?_
  refine lv_aload_n hx hb d_Ge_best_1 rfl (lv_at hl 0 rfl) ?_
  refine va_get (D := X.1) (ci := 4) (v := .ref h0) (C := R_Ge) (T := F_Ge) (N := 8) hx hb hg in_Ge hown hE.1 hP 0 rfl rfl 0 (by decide) (hg _ m_134) (fun _ h9 => h9) rfl d_Ge_best_2 ?_
  refine va_get (D := X.1) (ci := 2) (v := .ref hV) (C := R_Sp) (T := F_Sp) (N := 7) hx hb hg in_Sp hown hE.1 hP 1 rfl rfl 3 (by decide) (hg _ m_70) (fun _ h9 => h9) rfl d_Ge_best_5 ?_
  refine clVI (n := 1) (As := [.ref hV]) (rest := []) (wc := [(g0, .inr (4, [.ref h0, .ref hR, .ref gc, .ref gg, .ref gn, .ref gt, .int (nI tk), .int gl])), (h0, .inr (2, [.ref hv, .ref hi, .ref hM, .ref hV, .ref hN, .int (nI P), .int (nI nr)])), (gg, .inl (X.2 0, 4096, .inl (ia gs))), (hV, .inr (0, [.ref wV])), (wV, .inl (X.2 1, 64, .inr (.inl fV)))]) (wr := [(hN, .inr (0, [.ref wN])), (wN, .inl (X.2 1, 64, .inr (.inl fN)))]) hx hb hml hown hg hE hA hP hD hS (k_Ge_bestOf l X h0 hv hi hM hV hN P nr vl iv hP6 g0 hR gc gg gn gt tk gl gs hgs hV wV fV VS hfV) (gcons m_407 (gcons m_409 (gcons ms_Ge_bestOf (gcons m_7 (gcons m_410 gG))))) (by decide +kernel) [0, 1, 2, 3, 4] [5, 6] rfl rfl (by decide) (by decide) (by decide) 0 rfl rfl rfl hl.1 (Nat.le_of_ble_eq_true rfl) rfl d_Ge_best_8 ⟨rfl, rfl, Nat.le_of_ble_eq_true rfl, Nat.le_of_ble_eq_true rfl⟩ (⟨Nat.le_of_ble_eq_true rfl, Nat.le_of_ble_eq_true rfl⟩) (fun r8 b1 H locs hq8 hP hD hS => ?_)
  obtain ⟨rfl, hb1⟩ := hq8
  have hP := hP.sub (ws' := [(g0, .inr (4, [.ref h0, .ref hR, .ref gc, .ref gg, .ref gn, .ref gt, .int (nI tk), .int gl])), (h0, .inr (2, [.ref hv, .ref hi, .ref hM, .ref hV, .ref hN, .int (nI P), .int (nI nr)])), (gg, .inl (X.2 0, 4096, .inl (ia gs))), (hV, .inr (0, [.ref wV])), (wV, .inl (X.2 1, 64, .inr (.inl fV))), (hN, .inr (0, [.ref wN])), (wN, .inl (X.2 1, 64, .inr (.inl fN)))]) [2, 3, 4, 5, 6, 0, 1] rfl
  have hD := hD.sub (ws' := [(g0, .inr (4, [.ref h0, .ref hR, .ref gc, .ref gg, .ref gn, .ref gt, .int (nI tk), .int gl])), (h0, .inr (2, [.ref hv, .ref hi, .ref hM, .ref hV, .ref hN, .int (nI P), .int (nI nr)])), (gg, .inl (X.2 0, 4096, .inl (ia gs))), (hV, .inr (0, [.ref wV])), (wV, .inl (X.2 1, 64, .inr (.inl fV))), (hN, .inr (0, [.ref wN])), (wN, .inl (X.2 1, 64, .inr (.inl fN)))]) [2, 3, 4, 5, 6, 0, 1] (by decide) rfl
  refine lv_istore_n hx hb d_Ge_best_11 rfl hl (by decide) rfl (fun ls hl => ?_)
  have hl : lv_has ls 2 [(1, .int (oI b1)), (0, .ref g0)] := hl
  refine lv_iload_n hx hb d_Ge_best_12 rfl (lv_at hl 0 rfl) ?_
  refine lv_iconst (v := (-1)) hx hb d_Ge_best_13 (by decide) ?_
  refine lv_icmp_ne (tgt := 31) hx hb d_Ge_best_14 (by decide) (fun hc14 => ?_) (fun hc14 => ?_)
  · rw [oI_m1 (fun x9 hx9 => by have := bs_lt hb1 x9 hx9; omega)] at hc14
    refine lv_iload_n hx hb d_Ge_best_31 rfl (lv_at hl 0 rfl) ?_
    exact retI (u := b1) hx hb hr hlk hP hD hS (⟨rfl, Or.inl ⟨hb1, hc14⟩⟩) d_Ge_best_32
  · rw [oI_m1 (fun x9 hx9 => by have := bs_lt hb1 x9 hx9; omega)] at hc14
    refine lv_aload_n hx hb d_Ge_best_17 rfl (lv_at hl 1 rfl) ?_
    refine lv_aload_n hx hb d_Ge_best_18 rfl (lv_at hl 1 rfl) ?_
    refine va_get (D := X.1) (ci := 4) (v := .ref h0) (C := R_Ge) (T := F_Ge) (N := 8) hx hb hg in_Ge hown hE.1 hP 0 rfl rfl 0 (by decide) (hg _ m_134) (fun _ h9 => h9) rfl d_Ge_best_19 ?_
    refine va_get (D := X.1) (ci := 2) (v := .ref hN) (C := R_Sp) (T := F_Sp) (N := 7) hx hb hg in_Sp hown hE.1 hP 1 rfl rfl 4 (by decide) (hg _ m_73) (fun _ h9 => h9) rfl d_Ge_best_22 ?_
    refine clVI (n := 1) (As := [.ref hN]) (rest := []) (wc := [(g0, .inr (4, [.ref h0, .ref hR, .ref gc, .ref gg, .ref gn, .ref gt, .int (nI tk), .int gl])), (h0, .inr (2, [.ref hv, .ref hi, .ref hM, .ref hV, .ref hN, .int (nI P), .int (nI nr)])), (gg, .inl (X.2 0, 4096, .inl (ia gs))), (hN, .inr (0, [.ref wN])), (wN, .inl (X.2 1, 64, .inr (.inl fN)))]) (wr := [(hV, .inr (0, [.ref wV])), (wV, .inl (X.2 1, 64, .inr (.inl fV)))]) hx hb hml hown hg hE hA hP hD hS (k_Ge_bestOf l X h0 hv hi hM hV hN P nr vl iv hP6 g0 hR gc gg gn gt tk gl gs hgs hN wN fN NSs hfN) (gcons m_407 (gcons m_409 (gcons ms_Ge_bestOf (gcons m_7 (gcons m_410 gG))))) (by decide +kernel) [0, 1, 2, 5, 6] [3, 4] rfl rfl (by decide) (by decide) (by decide) 0 rfl rfl rfl hl.1 (Nat.le_of_ble_eq_true rfl) rfl d_Ge_best_25 ⟨rfl, rfl, Nat.le_of_ble_eq_true rfl, Nat.le_of_ble_eq_true rfl⟩ (⟨Nat.le_of_ble_eq_true rfl, Nat.le_of_ble_eq_true rfl⟩) (fun r25 b2 H locs hq25 hP hD hS => ?_)
    obtain ⟨rfl, hb2⟩ := hq25
    have hP := hP.sub (ws' := [(g0, .inr (4, [.ref h0, .ref hR, .ref gc, .ref gg, .ref gn, .ref gt, .int (nI tk), .int gl])), (h0, .inr (2, [.ref hv, .ref hi, .ref hM, .ref hV, .ref hN, .int (nI P), .int (nI nr)])), (gg, .inl (X.2 0, 4096, .inl (ia gs))), (hV, .inr (0, [.ref wV])), (wV, .inl (X.2 1, 64, .inr (.inl fV))), (hN, .inr (0, [.ref wN])), (wN, .inl (X.2 1, 64, .inr (.inl fN)))]) [2, 3, 4, 0, 1, 5, 6] rfl
    have hD := hD.sub (ws' := [(g0, .inr (4, [.ref h0, .ref hR, .ref gc, .ref gg, .ref gn, .ref gt, .int (nI tk), .int gl])), (h0, .inr (2, [.ref hv, .ref hi, .ref hM, .ref hV, .ref hN, .int (nI P), .int (nI nr)])), (gg, .inl (X.2 0, 4096, .inl (ia gs))), (hV, .inr (0, [.ref wV])), (wV, .inl (X.2 1, 64, .inr (.inl fV))), (hN, .inr (0, [.ref wN])), (wN, .inl (X.2 1, 64, .inr (.inl fN)))]) [2, 3, 4, 0, 1, 5, 6] (by decide) rfl
    refine lv_goto (tgt := 32) hx hb d_Ge_best_28 (by decide) ?_
    exact retI (u := b2) hx hb hr hlk hP hD hS (⟨rfl, Or.inr ⟨hc14 ▸ hb1, hb2⟩⟩) d_Ge_best_32
set_option maxHeartbeats 4000000 in
set_option maxRecDepth 100000 in
theorem k_Ge_setsCoveredBy (l : Launch) (X : Cx) (h0 hv hi hM hV hN : Nat) (P nr : Nat) (vl iv : Nat → Nat) (hP6 : P ≤ 6) (hiv : ∀ p, p < 6 → iv p < 16) (g0 hR gc gg gn gt tk : Nat) (gl : Int32) (wV wN : Nat) (fV fN : Nat → Int64) (VS NSs : Nat → Bool) (hfV : RS fV VS) (hfN : RS fN NSs) (hi0 : ∀ p, P ≤ p → p < 6 → iv p = 0) (hVN : VN iv VS NSs) (ak : Int64) (nk rr : Nat) (hr4 : rr < 4096) : CtL l X (TY X) y_Ge_setsCoveredBy cw_Ge_setsCoveredBy ({ frames := 2, cells := 0, slots := 0, locals := 46 } : Room) [.ref g0, .int (nI rr)] [(g0, .inr (4, [.ref h0, .ref hR, .ref gc, .ref gg, .ref gn, .ref gt, .int (nI tk), .int gl])), (h0, .inr (2, [.ref hv, .ref hi, .ref hM, .ref hV, .ref hN, .int (nI P), .int (nI nr)])), (hi, .inl (X.2 0, 6, .inl (ia iv))), (hV, .inr (0, [.ref wV])), (wV, .inl (X.2 1, 64, .inr (.inl fV))), (hN, .inr (0, [.ref wN])), (wN, .inl (X.2 1, 64, .inr (.inl fN))), (hR, .inr (1, [.long ak, .int (nI nk)]))] (S := Unit) (fun r _ => ∀ s, s < 64 → bL r s = csB iv VS NSs (bL ak) rr s) (fun _ => [(g0, .inr (4, [.ref h0, .ref hR, .ref gc, .ref gg, .ref gn, .ref gt, .int (nI tk), .int gl])), (h0, .inr (2, [.ref hv, .ref hi, .ref hM, .ref hV, .ref hN, .int (nI P), .int (nI nr)])), (hi, .inl (X.2 0, 6, .inl (ia iv))), (hV, .inr (0, [.ref wV])), (wV, .inl (X.2 1, 64, .inr (.inl fV))), (hN, .inr (0, [.ref wN])), (wN, .inl (X.2 1, 64, .inr (.inl fN))), (hR, .inr (1, [.long ak, .int (nI nk)]))]) 0 0 := by
  refine metL (by decide) (Nat.le_of_ble_eq_true rfl) ?_
  intro p e s m below meth c A ls hB hl
  obtain ⟨hx, hb, hr, hml, hown, hlk, hin, hg, hA, hD, hP, hE⟩ := hB
  have hS : va_S A s.heap s.heap [] := va_S.rf
  have hl : lv_has ls 2 [(0, .ref g0), (1, .int (nI rr))] := hl
  have h64 := pw2le hP6
  refine lv_aload_n hx hb d_Ge_setsCoveredBy_0 rfl (lv_at hl 0 rfl) ?_
  refine va_get (D := X.1) (ci := 4) (v := .ref h0) (C := R_Ge) (T := F_Ge) (N := 8) hx hb hg in_Ge hown hE.1 hP 0 rfl rfl 0 (by decide) (hg _ m_134) (fun _ h9 => h9) rfl d_Ge_setsCoveredBy_1 ?_
  refine va_get (D := X.1) (ci := 2) (v := .ref hV) (C := R_Sp) (T := F_Sp) (N := 7) hx hb hg in_Sp hown hE.1 hP 1 rfl rfl 3 (by decide) (hg _ m_70) (fun _ h9 => h9) rfl d_Ge_setsCoveredBy_4 ?_
  refine lv_iload_n hx hb d_Ge_setsCoveredBy_7 rfl (lv_at hl 1 rfl) ?_
  refine clVI (n := 1) (As := [.int (nI rr)]) (rest := []) (wc := [(hV, .inr (0, [.ref wV])), (wV, .inl (X.2 1, 64, .inr (.inl fV)))]) (wr := [(g0, .inr (4, [.ref h0, .ref hR, .ref gc, .ref gg, .ref gn, .ref gt, .int (nI tk), .int gl])), (h0, .inr (2, [.ref hv, .ref hi, .ref hM, .ref hV, .ref hN, .int (nI P), .int (nI nr)])), (hi, .inl (X.2 0, 6, .inl (ia iv))), (hN, .inr (0, [.ref wN])), (wN, .inl (X.2 1, 64, .inr (.inl fN))), (hR, .inr (1, [.long ak, .int (nI nk)]))]) hx hb hml hown hg hE hA hP hD hS (k_NS_has l X hV wV fV VS hfV rr hr4) (gcons m_355 (gcons m_356 (gcons m_357 (gcons m_3 (gcons m_358 gG))))) (by decide +kernel) [3, 4] [0, 1, 2, 5, 6, 7] rfl rfl (by decide) (by decide) (by decide) 0 rfl rfl rfl hl.1 (Nat.le_of_ble_eq_true rfl) rfl d_Ge_setsCoveredBy_8 ⟨rfl, rfl, Nat.le_of_ble_eq_true rfl, Nat.le_of_ble_eq_true rfl⟩ (⟨Nat.le_of_ble_eq_true rfl, Nat.le_of_ble_eq_true rfl⟩) (fun r8 u8 H locs hq8 hP hD hS => ?_)
  have hq8 : r8 = bI (VS rr) := hq8
  subst hq8
  have hP := hP.sub (ws' := [(g0, .inr (4, [.ref h0, .ref hR, .ref gc, .ref gg, .ref gn, .ref gt, .int (nI tk), .int gl])), (h0, .inr (2, [.ref hv, .ref hi, .ref hM, .ref hV, .ref hN, .int (nI P), .int (nI nr)])), (hi, .inl (X.2 0, 6, .inl (ia iv))), (hV, .inr (0, [.ref wV])), (wV, .inl (X.2 1, 64, .inr (.inl fV))), (hN, .inr (0, [.ref wN])), (wN, .inl (X.2 1, 64, .inr (.inl fN))), (hR, .inr (1, [.long ak, .int (nI nk)]))]) [0, 1, 2, 6, 7, 3, 4, 5] rfl
  have hD := hD.sub (ws' := [(g0, .inr (4, [.ref h0, .ref hR, .ref gc, .ref gg, .ref gn, .ref gt, .int (nI tk), .int gl])), (h0, .inr (2, [.ref hv, .ref hi, .ref hM, .ref hV, .ref hN, .int (nI P), .int (nI nr)])), (hi, .inl (X.2 0, 6, .inl (ia iv))), (hV, .inr (0, [.ref wV])), (wV, .inl (X.2 1, 64, .inr (.inl fV))), (hN, .inr (0, [.ref wN])), (wN, .inl (X.2 1, 64, .inr (.inl fN))), (hR, .inr (1, [.long ak, .int (nI nk)]))]) [0, 1, 2, 6, 7, 3, 4, 5] (by decide) rfl
  refine lv_if_eq (tgt := 23) hx hb d_Ge_setsCoveredBy_11 (by decide) (fun hc11 => ?_) (fun hc11 => ?_)
  · rw [bI_z] at hc11
    refine lv_aload_n hx hb d_Ge_setsCoveredBy_23 rfl (lv_at hl 0 rfl) ?_
    refine va_get (D := X.1) (ci := 4) (v := .ref h0) (C := R_Ge) (T := F_Ge) (N := 8) hx hb hg in_Ge hown hE.1 hP 0 rfl rfl 0 (by decide) (hg _ m_134) (fun _ h9 => h9) rfl d_Ge_setsCoveredBy_24 ?_
    refine va_get (D := X.1) (ci := 2) (v := .ref hN) (C := R_Sp) (T := F_Sp) (N := 7) hx hb hg in_Sp hown hE.1 hP 1 rfl rfl 4 (by decide) (hg _ m_73) (fun _ h9 => h9) rfl d_Ge_setsCoveredBy_27 ?_
    refine lv_iload_n hx hb d_Ge_setsCoveredBy_30 rfl (lv_at hl 1 rfl) ?_
    refine clVI (n := 1) (As := [.int (nI rr)]) (rest := []) (wc := [(hN, .inr (0, [.ref wN])), (wN, .inl (X.2 1, 64, .inr (.inl fN)))]) (wr := [(g0, .inr (4, [.ref h0, .ref hR, .ref gc, .ref gg, .ref gn, .ref gt, .int (nI tk), .int gl])), (h0, .inr (2, [.ref hv, .ref hi, .ref hM, .ref hV, .ref hN, .int (nI P), .int (nI nr)])), (hi, .inl (X.2 0, 6, .inl (ia iv))), (hV, .inr (0, [.ref wV])), (wV, .inl (X.2 1, 64, .inr (.inl fV))), (hR, .inr (1, [.long ak, .int (nI nk)]))]) hx hb hml hown hg hE hA hP hD hS (k_NS_has l X hN wN fN NSs hfN rr hr4) (gcons m_355 (gcons m_356 (gcons m_357 (gcons m_3 (gcons m_358 gG))))) (by decide +kernel) [5, 6] [0, 1, 2, 3, 4, 7] rfl rfl (by decide) (by decide) (by decide) 0 rfl rfl rfl hl.1 (Nat.le_of_ble_eq_true rfl) rfl d_Ge_setsCoveredBy_31 ⟨rfl, rfl, Nat.le_of_ble_eq_true rfl, Nat.le_of_ble_eq_true rfl⟩ (⟨Nat.le_of_ble_eq_true rfl, Nat.le_of_ble_eq_true rfl⟩) (fun r31 u31 H locs hq31 hP hD hS => ?_)
    have hq31 : r31 = bI (NSs rr) := hq31
    subst hq31
    have hP := hP.sub (ws' := [(g0, .inr (4, [.ref h0, .ref hR, .ref gc, .ref gg, .ref gn, .ref gt, .int (nI tk), .int gl])), (h0, .inr (2, [.ref hv, .ref hi, .ref hM, .ref hV, .ref hN, .int (nI P), .int (nI nr)])), (hi, .inl (X.2 0, 6, .inl (ia iv))), (hV, .inr (0, [.ref wV])), (wV, .inl (X.2 1, 64, .inr (.inl fV))), (hN, .inr (0, [.ref wN])), (wN, .inl (X.2 1, 64, .inr (.inl fN))), (hR, .inr (1, [.long ak, .int (nI nk)]))]) [0, 1, 2, 3, 4, 6, 7, 5] rfl
    have hD := hD.sub (ws' := [(g0, .inr (4, [.ref h0, .ref hR, .ref gc, .ref gg, .ref gn, .ref gt, .int (nI tk), .int gl])), (h0, .inr (2, [.ref hv, .ref hi, .ref hM, .ref hV, .ref hN, .int (nI P), .int (nI nr)])), (hi, .inl (X.2 0, 6, .inl (ia iv))), (hV, .inr (0, [.ref wV])), (wV, .inl (X.2 1, 64, .inr (.inl fV))), (hN, .inr (0, [.ref wN])), (wN, .inl (X.2 1, 64, .inr (.inl fN))), (hR, .inr (1, [.long ak, .int (nI nk)]))]) [0, 1, 2, 3, 4, 6, 7, 5] (by decide) rfl
    refine lv_if_eq (tgt := 60) hx hb d_Ge_setsCoveredBy_34 (by decide) (fun hc34 => ?_) (fun hc34 => ?_)
    · rw [bI_z] at hc34
      refine lv_lconst (v := 0) hx hb d_Ge_setsCoveredBy_60 (by decide) ?_
      exact retL (u := ()) hx hb hr hlk hP hD hS (fun s9 h9 => (bL_0 s9).trans (sc_0 hc11 hc34 s9)) d_Ge_setsCoveredBy_61
    · rw [bI_z] at hc34
      refine lv_aload_n hx hb d_Ge_setsCoveredBy_37 rfl (lv_at hl 0 rfl) ?_
      refine va_get (D := X.1) (ci := 4) (v := .ref hR) (C := R_Ge) (T := F_Ge) (N := 8) hx hb hg in_Ge hown hE.1 hP 0 rfl rfl 1 (by decide) (hg _ m_135) (fun _ h9 => h9) rfl d_Ge_setsCoveredBy_38 ?_
      refine lv_aload_n hx hb d_Ge_setsCoveredBy_41 rfl (lv_at hl 0 rfl) ?_
      refine va_get (D := X.1) (ci := 4) (v := .ref h0) (C := R_Ge) (T := F_Ge) (N := 8) hx hb hg in_Ge hown hE.1 hP 0 rfl rfl 0 (by decide) (hg _ m_134) (fun _ h9 => h9) rfl d_Ge_setsCoveredBy_42 ?_
      refine lv_aload_n hx hb d_Ge_setsCoveredBy_45 rfl (lv_at hl 0 rfl) ?_
      refine va_get (D := X.1) (ci := 4) (v := .ref h0) (C := R_Ge) (T := F_Ge) (N := 8) hx hb hg in_Ge hown hE.1 hP 0 rfl rfl 0 (by decide) (hg _ m_134) (fun _ h9 => h9) rfl d_Ge_setsCoveredBy_46 ?_
      refine clVI (n := 0) (As := []) (rest := [.ref h0, .ref hR]) (wc := [(h0, .inr (2, [.ref hv, .ref hi, .ref hM, .ref hV, .ref hN, .int (nI P), .int (nI nr)]))]) (wr := [(g0, .inr (4, [.ref h0, .ref hR, .ref gc, .ref gg, .ref gn, .ref gt, .int (nI tk), .int gl])), (hi, .inl (X.2 0, 6, .inl (ia iv))), (hV, .inr (0, [.ref wV])), (wV, .inl (X.2 1, 64, .inr (.inl fV))), (hN, .inr (0, [.ref wN])), (wN, .inl (X.2 1, 64, .inr (.inl fN))), (hR, .inr (1, [.long ak, .int (nI nk)]))]) hx hb hml hown hg hE hA hP hD hS (k_Sp_allFields l X h0 hv hi hM hV hN P nr vl iv hP6) (gcons m_359 (gcons m_360 (gcons m_361 (gcons m_2 (gcons m_362 gG))))) (by decide +kernel) [1] [0, 2, 3, 4, 5, 6, 7] rfl rfl (by decide) (by decide) (by decide) 0 rfl rfl rfl hl.1 (Nat.le_of_ble_eq_true rfl) rfl d_Ge_setsCoveredBy_49 ⟨rfl, rfl, Nat.le_of_ble_eq_true rfl, Nat.le_of_ble_eq_true rfl⟩ (⟨Nat.le_of_ble_eq_true rfl, Nat.le_of_ble_eq_true rfl⟩) (fun r49 u49 H locs hq49 hP hD hS => ?_)
      have hq49 : r49 = nI (4 ^ P - 1) := hq49
      subst hq49
      have hP := hP.sub (ws' := [(g0, .inr (4, [.ref h0, .ref hR, .ref gc, .ref gg, .ref gn, .ref gt, .int (nI tk), .int gl])), (h0, .inr (2, [.ref hv, .ref hi, .ref hM, .ref hV, .ref hN, .int (nI P), .int (nI nr)])), (hi, .inl (X.2 0, 6, .inl (ia iv))), (hV, .inr (0, [.ref wV])), (wV, .inl (X.2 1, 64, .inr (.inl fV))), (hN, .inr (0, [.ref wN])), (wN, .inl (X.2 1, 64, .inr (.inl fN))), (hR, .inr (1, [.long ak, .int (nI nk)]))]) [0, 7, 1, 2, 3, 4, 5, 6] rfl
      have hD := hD.sub (ws' := [(g0, .inr (4, [.ref h0, .ref hR, .ref gc, .ref gg, .ref gn, .ref gt, .int (nI tk), .int gl])), (h0, .inr (2, [.ref hv, .ref hi, .ref hM, .ref hV, .ref hN, .int (nI P), .int (nI nr)])), (hi, .inl (X.2 0, 6, .inl (ia iv))), (hV, .inr (0, [.ref wV])), (wV, .inl (X.2 1, 64, .inr (.inl fV))), (hN, .inr (0, [.ref wN])), (wN, .inl (X.2 1, 64, .inr (.inl fN))), (hR, .inr (1, [.long ak, .int (nI nk)]))]) [0, 7, 1, 2, 3, 4, 5, 6] (by decide) rfl
      refine topI (y := nI (fo (2 ^ P - 1) 6)) (by rw [al_fo P (by omega)]) ?_
      refine lv_iload_n hx hb d_Ge_setsCoveredBy_52 rfl (lv_at hl 1 rfl) ?_
      refine clVI (n := 2) (As := [.int (nI (fo (2 ^ P - 1) 6)), .int (nI rr)]) (rest := [.ref hR]) (wc := [(h0, .inr (2, [.ref hv, .ref hi, .ref hM, .ref hV, .ref hN, .int (nI P), .int (nI nr)])), (hi, .inl (X.2 0, 6, .inl (ia iv)))]) (wr := [(g0, .inr (4, [.ref h0, .ref hR, .ref gc, .ref gg, .ref gn, .ref gt, .int (nI tk), .int gl])), (hV, .inr (0, [.ref wV])), (wV, .inl (X.2 1, 64, .inr (.inl fV))), (hN, .inr (0, [.ref wN])), (wN, .inl (X.2 1, 64, .inr (.inl fN))), (hR, .inr (1, [.long ak, .int (nI nk)]))]) hx hb hml hown hg hE hA hP hD hS (k_Sp_invalidIn l X h0 hv hi hM hV hN P nr vl iv hiv (2 ^ P - 1) rr (by omega) hr4) (gcons m_334 (gcons m_335 (gcons m_336 (gcons m_2 (gcons m_337 gG))))) (by decide +kernel) [1, 2] [0, 3, 4, 5, 6, 7] rfl rfl (by decide) (by decide) (by decide) 0 rfl rfl rfl hl.1 (Nat.le_of_ble_eq_true rfl) rfl d_Ge_setsCoveredBy_53 ⟨rfl, rfl, Nat.le_of_ble_eq_true rfl, Nat.le_of_ble_eq_true rfl⟩ (⟨Nat.le_of_ble_eq_true rfl, Nat.le_of_ble_eq_true rfl⟩) (fun r53 u53 H locs hq53 hP hD hS => ?_)
      have hq53 : r53 = nI (ivs iv (2 ^ P - 1) rr 6) := hq53
      subst hq53
      have hP := hP.sub (ws' := [(g0, .inr (4, [.ref h0, .ref hR, .ref gc, .ref gg, .ref gn, .ref gt, .int (nI tk), .int gl])), (h0, .inr (2, [.ref hv, .ref hi, .ref hM, .ref hV, .ref hN, .int (nI P), .int (nI nr)])), (hi, .inl (X.2 0, 6, .inl (ia iv))), (hV, .inr (0, [.ref wV])), (wV, .inl (X.2 1, 64, .inr (.inl fV))), (hN, .inr (0, [.ref wN])), (wN, .inl (X.2 1, 64, .inr (.inl fN))), (hR, .inr (1, [.long ak, .int (nI nk)]))]) [0, 6, 7, 1, 2, 3, 4, 5] rfl
      have hD := hD.sub (ws' := [(g0, .inr (4, [.ref h0, .ref hR, .ref gc, .ref gg, .ref gn, .ref gt, .int (nI tk), .int gl])), (h0, .inr (2, [.ref hv, .ref hi, .ref hM, .ref hV, .ref hN, .int (nI P), .int (nI nr)])), (hi, .inl (X.2 0, 6, .inl (ia iv))), (hV, .inr (0, [.ref wV])), (wV, .inl (X.2 1, 64, .inr (.inl fV))), (hN, .inr (0, [.ref wN])), (wN, .inl (X.2 1, 64, .inr (.inl fN))), (hR, .inr (1, [.long ak, .int (nI nk)]))]) [0, 6, 7, 1, 2, 3, 4, 5] (by decide) rfl
      refine clVL (n := 1) (As := [.int (nI (ivs iv (2 ^ P - 1) rr 6))]) (rest := []) (wc := [(hR, .inr (1, [.long ak, .int (nI nk)]))]) (wr := [(g0, .inr (4, [.ref h0, .ref hR, .ref gc, .ref gg, .ref gn, .ref gt, .int (nI tk), .int gl])), (h0, .inr (2, [.ref hv, .ref hi, .ref hM, .ref hV, .ref hN, .int (nI P), .int (nI nr)])), (hi, .inl (X.2 0, 6, .inl (ia iv))), (hV, .inr (0, [.ref wV])), (wV, .inl (X.2 1, 64, .inr (.inl fV))), (hN, .inr (0, [.ref wN])), (wN, .inl (X.2 1, 64, .inr (.inl fN)))]) hx hb hml hown hg hE hA hP hD hS (k_Re_askedWith l X hR ak nk (ivs iv (2 ^ P - 1) rr 6) (ivs_64 iv _ _ 6 (by decide))) (gcons m_316 (gcons m_317 (gcons m_318 (gcons m_5 (gcons m_319 gG))))) (by decide +kernel) [7] [0, 1, 2, 3, 4, 5, 6] rfl rfl (by decide) (by decide) (by decide) 0 rfl rfl rfl hl.1 (Nat.le_of_ble_eq_true rfl) rfl d_Ge_setsCoveredBy_56 ⟨rfl, rfl, Nat.le_of_ble_eq_true rfl, Nat.le_of_ble_eq_true rfl⟩ (⟨Nat.le_of_ble_eq_true rfl, Nat.le_of_ble_eq_true rfl⟩) (fun r56 u56 H locs hq56 hP hD hS => ?_)
      have hP : va_P X.1 classes [(g0, .inr (4, [.ref h0, .ref hR, .ref gc, .ref gg, .ref gn, .ref gt, .int (nI tk), .int gl])), (h0, .inr (2, [.ref hv, .ref hi, .ref hM, .ref hV, .ref hN, .int (nI P), .int (nI nr)])), (hi, .inl (X.2 0, 6, .inl (ia iv))), (hV, .inr (0, [.ref wV])), (wV, .inl (X.2 1, 64, .inr (.inl fV))), (hN, .inr (0, [.ref wN])), (wN, .inl (X.2 1, 64, .inr (.inl fN))), (hR, .inr (1, [.long ak, .int (nI nk)]))] H := hP
      have hD : va_D A [(g0, .inr (4, [.ref h0, .ref hR, .ref gc, .ref gg, .ref gn, .ref gt, .int (nI tk), .int gl])), (h0, .inr (2, [.ref hv, .ref hi, .ref hM, .ref hV, .ref hN, .int (nI P), .int (nI nr)])), (hi, .inl (X.2 0, 6, .inl (ia iv))), (hV, .inr (0, [.ref wV])), (wV, .inl (X.2 1, 64, .inr (.inl fV))), (hN, .inr (0, [.ref wN])), (wN, .inl (X.2 1, 64, .inr (.inl fN))), (hR, .inr (1, [.long ak, .int (nI nk)]))] := hD
      exact retL (u := ()) hx hb hr hlk hP hD hS (fun s9 h9 => (hq56 s9 h9).trans (sc_N hi0 hc34 s9)) d_Ge_setsCoveredBy_59
  · rw [bI_z] at hc11
    refine lv_aload_n hx hb d_Ge_setsCoveredBy_14 rfl (lv_at hl 0 rfl) ?_
    refine va_get (D := X.1) (ci := 4) (v := .ref hR) (C := R_Ge) (T := F_Ge) (N := 8) hx hb hg in_Ge hown hE.1 hP 0 rfl rfl 1 (by decide) (hg _ m_135) (fun _ h9 => h9) rfl d_Ge_setsCoveredBy_15 ?_
    refine lv_iconst (v := nI 0) hx hb d_Ge_setsCoveredBy_18 (by decide) ?_
    refine clVL (n := 1) (As := [.int (nI 0)]) (rest := []) (wc := [(hR, .inr (1, [.long ak, .int (nI nk)]))]) (wr := [(g0, .inr (4, [.ref h0, .ref hR, .ref gc, .ref gg, .ref gn, .ref gt, .int (nI tk), .int gl])), (h0, .inr (2, [.ref hv, .ref hi, .ref hM, .ref hV, .ref hN, .int (nI P), .int (nI nr)])), (hi, .inl (X.2 0, 6, .inl (ia iv))), (hV, .inr (0, [.ref wV])), (wV, .inl (X.2 1, 64, .inr (.inl fV))), (hN, .inr (0, [.ref wN])), (wN, .inl (X.2 1, 64, .inr (.inl fN)))]) hx hb hml hown hg hE hA hP hD hS (k_Re_askedWith l X hR ak nk 0 (by decide)) (gcons m_316 (gcons m_317 (gcons m_318 (gcons m_5 (gcons m_319 gG))))) (by decide +kernel) [7] [0, 1, 2, 3, 4, 5, 6] rfl rfl (by decide) (by decide) (by decide) 0 rfl rfl rfl hl.1 (Nat.le_of_ble_eq_true rfl) rfl d_Ge_setsCoveredBy_19 ⟨rfl, rfl, Nat.le_of_ble_eq_true rfl, Nat.le_of_ble_eq_true rfl⟩ (⟨Nat.le_of_ble_eq_true rfl, Nat.le_of_ble_eq_true rfl⟩) (fun r19 u19 H locs hq19 hP hD hS => ?_)
    have hP : va_P X.1 classes [(g0, .inr (4, [.ref h0, .ref hR, .ref gc, .ref gg, .ref gn, .ref gt, .int (nI tk), .int gl])), (h0, .inr (2, [.ref hv, .ref hi, .ref hM, .ref hV, .ref hN, .int (nI P), .int (nI nr)])), (hi, .inl (X.2 0, 6, .inl (ia iv))), (hV, .inr (0, [.ref wV])), (wV, .inl (X.2 1, 64, .inr (.inl fV))), (hN, .inr (0, [.ref wN])), (wN, .inl (X.2 1, 64, .inr (.inl fN))), (hR, .inr (1, [.long ak, .int (nI nk)]))] H := hP
    have hD : va_D A [(g0, .inr (4, [.ref h0, .ref hR, .ref gc, .ref gg, .ref gn, .ref gt, .int (nI tk), .int gl])), (h0, .inr (2, [.ref hv, .ref hi, .ref hM, .ref hV, .ref hN, .int (nI P), .int (nI nr)])), (hi, .inl (X.2 0, 6, .inl (ia iv))), (hV, .inr (0, [.ref wV])), (wV, .inl (X.2 1, 64, .inr (.inl fV))), (hN, .inr (0, [.ref wN])), (wN, .inl (X.2 1, 64, .inr (.inl fN))), (hR, .inr (1, [.long ak, .int (nI nk)]))] := hD
    exact retL (u := ()) hx hb hr hlk hP hD hS (fun s9 h9 => (hq19 s9 h9).trans (sc_V hVN hc11 s9)) d_Ge_setsCoveredBy_22
set_option maxHeartbeats 4000000 in
set_option maxRecDepth 100000 in
theorem k_Ge_start (l : Launch) (X : Cx) (h0 hv hi hM hV hN : Nat) (P nr : Nat) (vl iv : Nat → Nat) (hP6 : P ≤ 6) (hiv : ∀ p, p < 6 → iv p < 16) (g0 hR gc gg gn gt tk : Nat) (gl : Int32) (wV wN : Nat) (fV fN : Nat → Int64) (VS NSs : Nat → Bool) (hfV : RS fV VS) (hfN : RS fN NSs) (hi0 : ∀ p, P ≤ p → p < 6 → iv p = 0) (hVN : VN iv VS NSs) (ak : Int64) (nk : Nat) (cv : Nat → Int64) (gs : Nat → Nat) (hgs : ∀ s, gs s < 2 ^ 31) (go : Int32) : CtV l X (TY X) y_Ge_start cw_Ge_start ({ frames := 3, cells := 0, slots := 0, locals := 67 } : Room) [.ref g0, .int go] [(g0, .inr (4, [.ref h0, .ref hR, .ref gc, .ref gg, .ref gn, .ref gt, .int (nI tk), .int gl])), (h0, .inr (2, [.ref hv, .ref hi, .ref hM, .ref hV, .ref hN, .int (nI P), .int (nI nr)])), (hi, .inl (X.2 0, 6, .inl (ia iv))), (hV, .inr (0, [.ref wV])), (wV, .inl (X.2 1, 64, .inr (.inl fV))), (hN, .inr (0, [.ref wN])), (wN, .inl (X.2 1, 64, .inr (.inl fN))), (hR, .inr (1, [.long ak, .int (nI nk)])), (gc, .inl (X.2 1, 64, .inr (.inl cv))), (gg, .inl (X.2 0, 4096, .inl (ia gs)))] (S := (Nat → Int64) × (Nat → Nat)) (fun d => (∀ j, j < 64 → d.1 j = 0) ∧ (∀ s, s < 4 ^ P → d.2 s = cB (csB iv VS NSs (bL ak) s) 64) ∧ ∀ s, d.2 s < 2 ^ 31) (fun d => [(g0, .inr (4, [.ref h0, .ref hR, .ref gc, .ref gg, .ref gn, .ref gt, .int (nI 0), .int go])), (h0, .inr (2, [.ref hv, .ref hi, .ref hM, .ref hV, .ref hN, .int (nI P), .int (nI nr)])), (hi, .inl (X.2 0, 6, .inl (ia iv))), (hV, .inr (0, [.ref wV])), (wV, .inl (X.2 1, 64, .inr (.inl fV))), (hN, .inr (0, [.ref wN])), (wN, .inl (X.2 1, 64, .inr (.inl fN))), (hR, .inr (1, [.long ak, .int (nI nk)])), (gc, .inl (X.2 1, 64, .inr (.inl d.1))), (gg, .inl (X.2 0, 4096, .inl (ia d.2)))]) 0 0 := by
  refine metV (by decide) (Nat.le_of_ble_eq_true rfl) ?_
  intro p e s m below meth c A ls hB hl
  obtain ⟨hx, hb, hr, hml, hown, hlk, hin, hg, hA, hD, hP, hE⟩ := hB
  have hS : va_S A s.heap s.heap [] := va_S.rf
  have hl : lv_has ls 4 [(0, .ref g0), (1, .int go)] := hl
  have h4P := pw4le hP6
  refine lv_aload_n hx hb d_Ge_start_0 rfl (lv_at hl 0 rfl) ?_
  refine va_get (D := X.1) (ci := 4) (v := .ref gc) (C := R_Ge) (T := F_Ge) (N := 8) hx hb hg in_Ge hown hE.1 hP 0 rfl rfl 2 (by decide) (hg _ m_136) (fun _ h9 => h9) rfl d_Ge_start_1 ?_
  refine lv_lconst (v := 0) hx hb d_Ge_start_4 (by decide) ?_
  refine clSV (n := 2) (As := [.ref gc, .long 0]) (rest := []) (wc := [(gc, .inl (X.2 1, 64, .inr (.inl cv)))]) (wr := [(g0, .inr (4, [.ref h0, .ref hR, .ref gc, .ref gg, .ref gn, .ref gt, .int (nI tk), .int gl])), (h0, .inr (2, [.ref hv, .ref hi, .ref hM, .ref hV, .ref hN, .int (nI P), .int (nI nr)])), (hi, .inl (X.2 0, 6, .inl (ia iv))), (hV, .inr (0, [.ref wV])), (wV, .inl (X.2 1, 64, .inr (.inl fV))), (hN, .inr (0, [.ref wN])), (wN, .inl (X.2 1, 64, .inr (.inl fN))), (hR, .inr (1, [.long ak, .int (nI nk)])), (gg, .inl (X.2 0, 4096, .inl (ia gs)))]) hx hb hml hown hg hE hA hP hD hS (k_JA_fillL l X gc 64 (by decide) cv 0) (gcons m_346 (gcons m_48 (gcons m_4 (gcons m_49 gG)))) (by decide +kernel) [8] [0, 1, 2, 3, 4, 5, 6, 7, 9] rfl rfl (by decide) (by decide) (by decide) rfl hl.1 (Nat.le_of_ble_eq_true rfl) rfl d_Ge_start_5 ⟨rfl, rfl, Nat.le_of_ble_eq_true rfl, Nat.le_of_ble_eq_true rfl⟩ (⟨Nat.le_of_ble_eq_true rfl, Nat.le_of_ble_eq_true rfl⟩) (fun c1 H locs hc1 hP hD hS => ?_)
  have hP := hP.sub (ws' := [(g0, .inr (4, [.ref h0, .ref hR, .ref gc, .ref gg, .ref gn, .ref gt, .int (nI tk), .int gl])), (h0, .inr (2, [.ref hv, .ref hi, .ref hM, .ref hV, .ref hN, .int (nI P), .int (nI nr)])), (hi, .inl (X.2 0, 6, .inl (ia iv))), (hV, .inr (0, [.ref wV])), (wV, .inl (X.2 1, 64, .inr (.inl fV))), (hN, .inr (0, [.ref wN])), (wN, .inl (X.2 1, 64, .inr (.inl fN))), (hR, .inr (1, [.long ak, .int (nI nk)])), (gc, .inl (X.2 1, 64, .inr (.inl c1))), (gg, .inl (X.2 0, 4096, .inl (ia gs)))]) [0, 1, 2, 3, 4, 5, 6, 7, 9, 8] rfl
  have hD := hD.sub (ws' := [(g0, .inr (4, [.ref h0, .ref hR, .ref gc, .ref gg, .ref gn, .ref gt, .int (nI tk), .int gl])), (h0, .inr (2, [.ref hv, .ref hi, .ref hM, .ref hV, .ref hN, .int (nI P), .int (nI nr)])), (hi, .inl (X.2 0, 6, .inl (ia iv))), (hV, .inr (0, [.ref wV])), (wV, .inl (X.2 1, 64, .inr (.inl fV))), (hN, .inr (0, [.ref wN])), (wN, .inl (X.2 1, 64, .inr (.inl fN))), (hR, .inr (1, [.long ak, .int (nI nk)])), (gc, .inl (X.2 1, 64, .inr (.inl c1))), (gg, .inl (X.2 0, 4096, .inl (ia gs)))]) [0, 1, 2, 3, 4, 5, 6, 7, 9, 8] (by decide) rfl
  refine lv_aload_n hx hb d_Ge_start_8 rfl (lv_at hl 0 rfl) ?_
  refine lv_iconst (v := nI 0) hx hb d_Ge_start_9 (by decide) ?_
  refine va_put (D := X.1) (ci := 4) (v := .int (nI 0)) (ty := .int) (C := R_Ge) (T := F_Ge) (N := 8) hx hb hg in_Ge t_Ge t_Ge_ok n_Ge hown hE.1 hP hD hS 0 rfl rfl 6 (by decide) (hg _ m_143) (fun _ h9 => h9) rfl (by decide +kernel) rfl rfl (Nat.le_of_ble_eq_true rfl) d_Ge_start_10 (fun H locs hP hD hS => ?_)
  have hP : va_P X.1 classes [(g0, .inr (4, [.ref h0, .ref hR, .ref gc, .ref gg, .ref gn, .ref gt, .int (nI 0), .int gl])), (h0, .inr (2, [.ref hv, .ref hi, .ref hM, .ref hV, .ref hN, .int (nI P), .int (nI nr)])), (hi, .inl (X.2 0, 6, .inl (ia iv))), (hV, .inr (0, [.ref wV])), (wV, .inl (X.2 1, 64, .inr (.inl fV))), (hN, .inr (0, [.ref wN])), (wN, .inl (X.2 1, 64, .inr (.inl fN))), (hR, .inr (1, [.long ak, .int (nI nk)])), (gc, .inl (X.2 1, 64, .inr (.inl c1))), (gg, .inl (X.2 0, 4096, .inl (ia gs)))] H := hP
  have hD : va_D A [(g0, .inr (4, [.ref h0, .ref hR, .ref gc, .ref gg, .ref gn, .ref gt, .int (nI 0), .int gl])), (h0, .inr (2, [.ref hv, .ref hi, .ref hM, .ref hV, .ref hN, .int (nI P), .int (nI nr)])), (hi, .inl (X.2 0, 6, .inl (ia iv))), (hV, .inr (0, [.ref wV])), (wV, .inl (X.2 1, 64, .inr (.inl fV))), (hN, .inr (0, [.ref wN])), (wN, .inl (X.2 1, 64, .inr (.inl fN))), (hR, .inr (1, [.long ak, .int (nI nk)])), (gc, .inl (X.2 1, 64, .inr (.inl c1))), (gg, .inl (X.2 0, 4096, .inl (ia gs)))] := hD
  refine lv_aload_n hx hb d_Ge_start_13 rfl (lv_at hl 0 rfl) ?_
  refine lv_iload_n hx hb d_Ge_start_14 rfl (lv_at hl 1 rfl) ?_
  refine va_put (D := X.1) (ci := 4) (v := .int go) (ty := .int) (C := R_Ge) (T := F_Ge) (N := 8) hx hb hg in_Ge t_Ge t_Ge_ok n_Ge hown hE.1 hP hD hS 0 rfl rfl 7 (by decide) (hg _ m_145) (fun _ h9 => h9) rfl (by decide +kernel) rfl rfl (Nat.le_of_ble_eq_true rfl) d_Ge_start_15 (fun H locs hP hD hS => ?_)
  have hP : va_P X.1 classes [(g0, .inr (4, [.ref h0, .ref hR, .ref gc, .ref gg, .ref gn, .ref gt, .int (nI 0), .int go])), (h0, .inr (2, [.ref hv, .ref hi, .ref hM, .ref hV, .ref hN, .int (nI P), .int (nI nr)])), (hi, .inl (X.2 0, 6, .inl (ia iv))), (hV, .inr (0, [.ref wV])), (wV, .inl (X.2 1, 64, .inr (.inl fV))), (hN, .inr (0, [.ref wN])), (wN, .inl (X.2 1, 64, .inr (.inl fN))), (hR, .inr (1, [.long ak, .int (nI nk)])), (gc, .inl (X.2 1, 64, .inr (.inl c1))), (gg, .inl (X.2 0, 4096, .inl (ia gs)))] H := hP
  have hD : va_D A [(g0, .inr (4, [.ref h0, .ref hR, .ref gc, .ref gg, .ref gn, .ref gt, .int (nI 0), .int go])), (h0, .inr (2, [.ref hv, .ref hi, .ref hM, .ref hV, .ref hN, .int (nI P), .int (nI nr)])), (hi, .inl (X.2 0, 6, .inl (ia iv))), (hV, .inr (0, [.ref wV])), (wV, .inl (X.2 1, 64, .inr (.inl fV))), (hN, .inr (0, [.ref wN])), (wN, .inl (X.2 1, 64, .inr (.inl fN))), (hR, .inr (1, [.long ak, .int (nI nk)])), (gc, .inl (X.2 1, 64, .inr (.inl c1))), (gg, .inl (X.2 0, 4096, .inl (ia gs)))] := hD
  refine lv_aload_n hx hb d_Ge_start_18 rfl (lv_at hl 0 rfl) ?_
  refine va_get (D := X.1) (ci := 4) (v := .ref h0) (C := R_Ge) (T := F_Ge) (N := 8) hx hb hg in_Ge hown hE.1 hP 0 rfl rfl 0 (by decide) (hg _ m_134) (fun _ h9 => h9) rfl d_Ge_start_19 ?_
  refine clVI (n := 0) (As := []) (rest := []) (wc := [(h0, .inr (2, [.ref hv, .ref hi, .ref hM, .ref hV, .ref hN, .int (nI P), .int (nI nr)]))]) (wr := [(g0, .inr (4, [.ref h0, .ref hR, .ref gc, .ref gg, .ref gn, .ref gt, .int (nI 0), .int go])), (hi, .inl (X.2 0, 6, .inl (ia iv))), (hV, .inr (0, [.ref wV])), (wV, .inl (X.2 1, 64, .inr (.inl fV))), (hN, .inr (0, [.ref wN])), (wN, .inl (X.2 1, 64, .inr (.inl fN))), (hR, .inr (1, [.long ak, .int (nI nk)])), (gc, .inl (X.2 1, 64, .inr (.inl c1))), (gg, .inl (X.2 0, 4096, .inl (ia gs)))]) hx hb hml hown hg hE hA hP hD hS (k_Sp_numberLimit l X h0 hv hi hM hV hN P nr vl iv hP6) (gcons m_347 (gcons m_348 (gcons m_349 (gcons m_2 (gcons m_350 gG))))) (by decide +kernel) [1] [0, 2, 3, 4, 5, 6, 7, 8, 9] rfl rfl (by decide) (by decide) (by decide) 0 rfl rfl rfl hl.1 (Nat.le_of_ble_eq_true rfl) rfl d_Ge_start_22 ⟨rfl, rfl, Nat.le_of_ble_eq_true rfl, Nat.le_of_ble_eq_true rfl⟩ (⟨Nat.le_of_ble_eq_true rfl, Nat.le_of_ble_eq_true rfl⟩) (fun r22 u22 H locs hq22 hP hD hS => ?_)
  have hq22 : r22 = nI (4 ^ P) := hq22
  subst hq22
  have hP := hP.sub (ws' := [(g0, .inr (4, [.ref h0, .ref hR, .ref gc, .ref gg, .ref gn, .ref gt, .int (nI 0), .int go])), (h0, .inr (2, [.ref hv, .ref hi, .ref hM, .ref hV, .ref hN, .int (nI P), .int (nI nr)])), (hi, .inl (X.2 0, 6, .inl (ia iv))), (hV, .inr (0, [.ref wV])), (wV, .inl (X.2 1, 64, .inr (.inl fV))), (hN, .inr (0, [.ref wN])), (wN, .inl (X.2 1, 64, .inr (.inl fN))), (hR, .inr (1, [.long ak, .int (nI nk)])), (gc, .inl (X.2 1, 64, .inr (.inl c1))), (gg, .inl (X.2 0, 4096, .inl (ia gs)))]) [0, 9, 1, 2, 3, 4, 5, 6, 7, 8] rfl
  have hD := hD.sub (ws' := [(g0, .inr (4, [.ref h0, .ref hR, .ref gc, .ref gg, .ref gn, .ref gt, .int (nI 0), .int go])), (h0, .inr (2, [.ref hv, .ref hi, .ref hM, .ref hV, .ref hN, .int (nI P), .int (nI nr)])), (hi, .inl (X.2 0, 6, .inl (ia iv))), (hV, .inr (0, [.ref wV])), (wV, .inl (X.2 1, 64, .inr (.inl fV))), (hN, .inr (0, [.ref wN])), (wN, .inl (X.2 1, 64, .inr (.inl fN))), (hR, .inr (1, [.long ak, .int (nI nk)])), (gc, .inl (X.2 1, 64, .inr (.inl c1))), (gg, .inl (X.2 0, 4096, .inl (ia gs)))]) [0, 9, 1, 2, 3, 4, 5, 6, 7, 8] (by decide) rfl
  refine lv_istore_n hx hb d_Ge_start_25 rfl hl (by decide) rfl (fun ls hl => ?_)
  have hl : lv_has ls 4 [(2, .int (nI (4 ^ P))), (0, .ref g0), (1, .int go)] := hl
  refine lv_iconst (v := nI 0) hx hb d_Ge_start_26 (by decide) ?_
  refine lv_istore_n hx hb d_Ge_start_27 rfl hl (by decide) rfl (fun ls hl => ?_)
  have hl : lv_has ls 4 [(3, .int (nI 0)), (2, .int (nI (4 ^ P))), (0, .ref g0), (1, .int go)] := hl
  refine wLoop (nL := 4) (σ := (Nat) × (Nat → Nat)) (fun x9 => (fun (k : Nat) (d : Nat → Nat) => 4 ^ P - k) x9.1 x9.2) (fun x9 => (fun (k : Nat) (d : Nat → Nat) => k ≤ 4 ^ P ∧ (∀ s, s < k → d s = cB (csB iv VS NSs (bL ak) s) 64) ∧ ∀ s, d s < 2 ^ 31) x9.1 x9.2) (fun x9 => (fun (k : Nat) (d : Nat → Nat) => [(g0, .inr (4, [.ref h0, .ref hR, .ref gc, .ref gg, .ref gn, .ref gt, .int (nI 0), .int go])), (h0, .inr (2, [.ref hv, .ref hi, .ref hM, .ref hV, .ref hN, .int (nI P), .int (nI nr)])), (hi, .inl (X.2 0, 6, .inl (ia iv))), (hV, .inr (0, [.ref wV])), (wV, .inl (X.2 1, 64, .inr (.inl fV))), (hN, .inr (0, [.ref wN])), (wN, .inl (X.2 1, 64, .inr (.inl fN))), (hR, .inr (1, [.long ak, .int (nI nk)])), (gc, .inl (X.2 1, 64, .inr (.inl c1))), (gg, .inl (X.2 0, 4096, .inl (ia d)))]) x9.1 x9.2) (fun x9 => (fun (k : Nat) (d : Nat → Nat) => [(0, .ref g0), (1, .int go), (2, .int (nI (4 ^ P))), (3, .int (nI k))]) x9.1 x9.2) ?_ (0, gs) (⟨Nat.zero_le _, fun s9 h9 => absurd h9 (by (try dsimp only); omega), hgs⟩) hP hD hS (lv_sub hl [2, 3, 1, 0] rfl)
  rintro ⟨k, d⟩ H locs ls hJ hP hD hS hl ih28
  have hJ : k ≤ 4 ^ P ∧ (∀ s, s < k → d s = cB (csB iv VS NSs (bL ak) s) 64) ∧ ∀ s, d s < 2 ^ 31 := hJ
  obtain ⟨hk4, hdk, hds⟩ := hJ
  have hP : va_P X.1 classes [(g0, .inr (4, [.ref h0, .ref hR, .ref gc, .ref gg, .ref gn, .ref gt, .int (nI 0), .int go])), (h0, .inr (2, [.ref hv, .ref hi, .ref hM, .ref hV, .ref hN, .int (nI P), .int (nI nr)])), (hi, .inl (X.2 0, 6, .inl (ia iv))), (hV, .inr (0, [.ref wV])), (wV, .inl (X.2 1, 64, .inr (.inl fV))), (hN, .inr (0, [.ref wN])), (wN, .inl (X.2 1, 64, .inr (.inl fN))), (hR, .inr (1, [.long ak, .int (nI nk)])), (gc, .inl (X.2 1, 64, .inr (.inl c1))), (gg, .inl (X.2 0, 4096, .inl (ia d)))] H := hP
  have hD : va_D A [(g0, .inr (4, [.ref h0, .ref hR, .ref gc, .ref gg, .ref gn, .ref gt, .int (nI 0), .int go])), (h0, .inr (2, [.ref hv, .ref hi, .ref hM, .ref hV, .ref hN, .int (nI P), .int (nI nr)])), (hi, .inl (X.2 0, 6, .inl (ia iv))), (hV, .inr (0, [.ref wV])), (wV, .inl (X.2 1, 64, .inr (.inl fV))), (hN, .inr (0, [.ref wN])), (wN, .inl (X.2 1, 64, .inr (.inl fN))), (hR, .inr (1, [.long ak, .int (nI nk)])), (gc, .inl (X.2 1, 64, .inr (.inl c1))), (gg, .inl (X.2 0, 4096, .inl (ia d)))] := hD
  have hl : lv_has ls 4 [(0, .ref g0), (1, .int go), (2, .int (nI (4 ^ P))), (3, .int (nI k))] := hl
  refine lv_iload_n hx hb d_Ge_start_28 rfl (lv_at hl 3 rfl) ?_
  refine lv_iload_n hx hb d_Ge_start_29 rfl (lv_at hl 2 rfl) ?_
  refine lv_icmp_ge (tgt := 53) hx hb d_Ge_start_30 (by decide) (fun hc30 => ?_) (fun hc30 => ?_)
  · rw [nI_leI (by omega) (by omega)] at hc30
    exact retV (u := (c1, d)) hx hb hr hlk hP hD hS (⟨hc1, fun s9 h9 => hdk s9 (by omega), hds⟩) d_Ge_start_53
  · rw [nI_leI (by omega) (by omega)] at hc30
    refine lv_aload_n hx hb d_Ge_start_33 rfl (lv_at hl 0 rfl) ?_
    refine va_get (D := X.1) (ci := 4) (v := .ref gg) (C := R_Ge) (T := F_Ge) (N := 8) hx hb hg in_Ge hown hE.1 hP 0 rfl rfl 3 (by decide) (hg _ m_137) (fun _ h9 => h9) rfl d_Ge_start_34 ?_
    refine lv_iload_n hx hb d_Ge_start_37 rfl (lv_at hl 3 rfl) ?_
    refine lv_aload_n hx hb d_Ge_start_38 rfl (lv_at hl 0 rfl) ?_
    refine lv_iload_n hx hb d_Ge_start_39 rfl (lv_at hl 3 rfl) ?_
    refine clVL (n := 1) (As := [.int (nI k)]) (rest := [.int (nI k), .ref gg]) (wc := [(g0, .inr (4, [.ref h0, .ref hR, .ref gc, .ref gg, .ref gn, .ref gt, .int (nI 0), .int go])), (h0, .inr (2, [.ref hv, .ref hi, .ref hM, .ref hV, .ref hN, .int (nI P), .int (nI nr)])), (hi, .inl (X.2 0, 6, .inl (ia iv))), (hV, .inr (0, [.ref wV])), (wV, .inl (X.2 1, 64, .inr (.inl fV))), (hN, .inr (0, [.ref wN])), (wN, .inl (X.2 1, 64, .inr (.inl fN))), (hR, .inr (1, [.long ak, .int (nI nk)]))]) (wr := [(gc, .inl (X.2 1, 64, .inr (.inl c1))), (gg, .inl (X.2 0, 4096, .inl (ia d)))]) hx hb hml hown hg hE hA hP hD hS (k_Ge_setsCoveredBy l X h0 hv hi hM hV hN P nr vl iv hP6 hiv g0 hR gc gg gn gt (0) go wV wN fV fN VS NSs hfV hfN hi0 hVN ak nk k (by omega)) (gcons m_351 (gcons m_353 (gcons ms_Ge_setsCoveredBy (gcons m_7 (gcons m_354 gG))))) (by decide +kernel) [0, 1, 2, 3, 4, 5, 6, 7] [8, 9] rfl rfl (by decide) (by decide) (by decide) 0 rfl rfl rfl hl.1 (Nat.le_of_ble_eq_true rfl) rfl d_Ge_start_40 ⟨rfl, rfl, Nat.le_of_ble_eq_true rfl, Nat.le_of_ble_eq_true rfl⟩ (⟨Nat.le_of_ble_eq_true rfl, Nat.le_of_ble_eq_true rfl⟩) (fun r40 u40 H locs hq40 hP hD hS => ?_)
    have hP := hP.sub (ws' := [(g0, .inr (4, [.ref h0, .ref hR, .ref gc, .ref gg, .ref gn, .ref gt, .int (nI 0), .int go])), (h0, .inr (2, [.ref hv, .ref hi, .ref hM, .ref hV, .ref hN, .int (nI P), .int (nI nr)])), (hi, .inl (X.2 0, 6, .inl (ia iv))), (hV, .inr (0, [.ref wV])), (wV, .inl (X.2 1, 64, .inr (.inl fV))), (hN, .inr (0, [.ref wN])), (wN, .inl (X.2 1, 64, .inr (.inl fN))), (hR, .inr (1, [.long ak, .int (nI nk)])), (gc, .inl (X.2 1, 64, .inr (.inl c1))), (gg, .inl (X.2 0, 4096, .inl (ia d)))]) [2, 3, 4, 5, 6, 7, 8, 9, 0, 1] rfl
    have hD := hD.sub (ws' := [(g0, .inr (4, [.ref h0, .ref hR, .ref gc, .ref gg, .ref gn, .ref gt, .int (nI 0), .int go])), (h0, .inr (2, [.ref hv, .ref hi, .ref hM, .ref hV, .ref hN, .int (nI P), .int (nI nr)])), (hi, .inl (X.2 0, 6, .inl (ia iv))), (hV, .inr (0, [.ref wV])), (wV, .inl (X.2 1, 64, .inr (.inl fV))), (hN, .inr (0, [.ref wN])), (wN, .inl (X.2 1, 64, .inr (.inl fN))), (hR, .inr (1, [.long ak, .int (nI nk)])), (gc, .inl (X.2 1, 64, .inr (.inl c1))), (gg, .inl (X.2 0, 4096, .inl (ia d)))]) [2, 3, 4, 5, 6, 7, 8, 9, 0, 1] (by decide) rfl
    refine clSI (n := 1) (As := [.long r40]) (rest := [.int (nI k), .ref gg]) (wc := []) (wr := [(g0, .inr (4, [.ref h0, .ref hR, .ref gc, .ref gg, .ref gn, .ref gt, .int (nI 0), .int go])), (h0, .inr (2, [.ref hv, .ref hi, .ref hM, .ref hV, .ref hN, .int (nI P), .int (nI nr)])), (hi, .inl (X.2 0, 6, .inl (ia iv))), (hV, .inr (0, [.ref wV])), (wV, .inl (X.2 1, 64, .inr (.inl fV))), (hN, .inr (0, [.ref wN])), (wN, .inl (X.2 1, 64, .inr (.inl fN))), (hR, .inr (1, [.long ak, .int (nI nk)])), (gc, .inl (X.2 1, 64, .inr (.inl c1))), (gg, .inl (X.2 0, 4096, .inl (ia d)))]) hx hb hml hown hg hE hA hP hD hS (k_JL_bitCount l X r40) (gcons m_364 (gcons m_365 (gcons m_11 (gcons m_366 gG)))) (by decide +kernel) [] [0, 1, 2, 3, 4, 5, 6, 7, 8, 9] rfl rfl (by decide) (by decide) (by decide) rfl hl.1 (Nat.le_of_ble_eq_true rfl) rfl d_Ge_start_43 ⟨rfl, rfl, Nat.le_of_ble_eq_true rfl, Nat.le_of_ble_eq_true rfl⟩ (⟨Nat.le_of_ble_eq_true rfl, Nat.le_of_ble_eq_true rfl⟩) (fun r43 u43 H locs hq43 hP hD hS => ?_)
    have hq43 : r43 = bcL r40 := hq43
    subst hq43
    have hP : va_P X.1 classes [(g0, .inr (4, [.ref h0, .ref hR, .ref gc, .ref gg, .ref gn, .ref gt, .int (nI 0), .int go])), (h0, .inr (2, [.ref hv, .ref hi, .ref hM, .ref hV, .ref hN, .int (nI P), .int (nI nr)])), (hi, .inl (X.2 0, 6, .inl (ia iv))), (hV, .inr (0, [.ref wV])), (wV, .inl (X.2 1, 64, .inr (.inl fV))), (hN, .inr (0, [.ref wN])), (wN, .inl (X.2 1, 64, .inr (.inl fN))), (hR, .inr (1, [.long ak, .int (nI nk)])), (gc, .inl (X.2 1, 64, .inr (.inl c1))), (gg, .inl (X.2 0, 4096, .inl (ia d)))] H := hP
    have hD : va_D A [(g0, .inr (4, [.ref h0, .ref hR, .ref gc, .ref gg, .ref gn, .ref gt, .int (nI 0), .int go])), (h0, .inr (2, [.ref hv, .ref hi, .ref hM, .ref hV, .ref hN, .int (nI P), .int (nI nr)])), (hi, .inl (X.2 0, 6, .inl (ia iv))), (hV, .inr (0, [.ref wV])), (wV, .inl (X.2 1, 64, .inr (.inl fV))), (hN, .inr (0, [.ref wN])), (wN, .inl (X.2 1, 64, .inr (.inl fN))), (hR, .inr (1, [.long ak, .int (nI nk)])), (gc, .inl (X.2 1, 64, .inr (.inl c1))), (gg, .inl (X.2 0, 4096, .inl (ia d)))] := hD
    refine topI (y := nI (cB (csB iv VS NSs (bL ak) k) 64)) (by rw [bcL_eq, cB_congr hq40]) ?_
    refine va_iast hx hb hE.1 hP hD hS 9 0 rfl rfl (vp_in_nI (by omega) (by decide)) d_Ge_start_46 (fun H locs hP hD hS => ?_)
    have hP : va_P X.1 classes [(g0, .inr (4, [.ref h0, .ref hR, .ref gc, .ref gg, .ref gn, .ref gt, .int (nI 0), .int go])), (h0, .inr (2, [.ref hv, .ref hi, .ref hM, .ref hV, .ref hN, .int (nI P), .int (nI nr)])), (hi, .inl (X.2 0, 6, .inl (ia iv))), (hV, .inr (0, [.ref wV])), (wV, .inl (X.2 1, 64, .inr (.inl fV))), (hN, .inr (0, [.ref wN])), (wN, .inl (X.2 1, 64, .inr (.inl fN))), (hR, .inr (1, [.long ak, .int (nI nk)])), (gc, .inl (X.2 1, 64, .inr (.inl c1))), (gg, .inl (X.2 0, 4096, .inl (upd (ia d) (nI k).toNatClampNeg (nI (cB (csB iv VS NSs (bL ak) k) 64)))))] H := hP
    have hD : va_D A [(g0, .inr (4, [.ref h0, .ref hR, .ref gc, .ref gg, .ref gn, .ref gt, .int (nI 0), .int go])), (h0, .inr (2, [.ref hv, .ref hi, .ref hM, .ref hV, .ref hN, .int (nI P), .int (nI nr)])), (hi, .inl (X.2 0, 6, .inl (ia iv))), (hV, .inr (0, [.ref wV])), (wV, .inl (X.2 1, 64, .inr (.inl fV))), (hN, .inr (0, [.ref wN])), (wN, .inl (X.2 1, 64, .inr (.inl fN))), (hR, .inr (1, [.long ak, .int (nI nk)])), (gc, .inl (X.2 1, 64, .inr (.inl c1))), (gg, .inl (X.2 0, 4096, .inl (upd (ia d) (nI k).toNatClampNeg (nI (cB (csB iv VS NSs (bL ak) k) 64)))))] := hD
    rw [nI_clamp (show k < 2 ^ 31 by omega)] at hP hD
    have e9 : upd (ia d) k (nI (cB (csB iv VS NSs (bL ak) k) 64)) = ia (upN d k (cB (csB iv VS NSs (bL ak) k) 64)) := upd_ia _ _ _
    rw [e9] at hP hD
    clear e9
    refine lv_iinc (k := 3) (v := nI (k + 1)) hx hb d_Ge_start_47 hl rfl (nI_1 _) (by decide) rfl (fun ls hl => ?_)
    have hl : lv_has ls 4 [(3, .int (nI (k + 1))), (0, .ref g0), (1, .int go), (2, .int (nI (4 ^ P)))] := hl
    refine lv_goto (tgt := 28) hx hb d_Ge_start_50 (by decide) ?_
    exact ih28 (k + 1, upN d k (cB (csB iv VS NSs (bL ak) k) 64)) H locs ls (by (try dsimp only); omega) (⟨by (try dsimp only); omega, stK hdk, up31 hds (Nat.lt_of_le_of_lt (cB_le _ 64) (by decide))⟩) hP hD hS (lv_sub hl [1, 2, 3, 0] rfl)
set_option maxHeartbeats 4000000 in
set_option maxRecDepth 100000 in
theorem k_Ge_isGoal (l : Launch) (X : Cx) (h0 hv hi hM hV hN : Nat) (P nr : Nat) (vl iv : Nat → Nat) (hiv : ∀ p, p < 6 → iv p < 16) (g0 hR gc gg gn gt tk : Nat) (gl : Int32) (wV wN : Nat) (fV fN : Nat → Int64) (VS NSs : Nat → Bool) (hfV : RS fV VS) (hfN : RS fN NSs) (n b : Nat) (hn : n < 64) (hb0 : b < 4096) (hbs : b &&& fo n 6 = b) : CtI l X (TY X) y_Ge_isGoal cw_Ge_isGoal ({ frames := 3, cells := 0, slots := 0, locals := 74 } : Room) [.ref g0, .int (nI (fo n 6)), .int (nI b)] [(g0, .inr (4, [.ref h0, .ref hR, .ref gc, .ref gg, .ref gn, .ref gt, .int (nI tk), .int gl])), (h0, .inr (2, [.ref hv, .ref hi, .ref hM, .ref hV, .ref hN, .int (nI P), .int (nI nr)])), (hi, .inl (X.2 0, 6, .inl (ia iv))), (hV, .inr (0, [.ref wV])), (wV, .inl (X.2 1, 64, .inr (.inl fV))), (hN, .inr (0, [.ref wN])), (wN, .inl (X.2 1, 64, .inr (.inl fN)))] (S := Unit) (fun r _ => r = bI (glB iv VS NSs n b)) (fun _ => [(g0, .inr (4, [.ref h0, .ref hR, .ref gc, .ref gg, .ref gn, .ref gt, .int (nI tk), .int gl])), (h0, .inr (2, [.ref hv, .ref hi, .ref hM, .ref hV, .ref hN, .int (nI P), .int (nI nr)])), (hi, .inl (X.2 0, 6, .inl (ia iv))), (hV, .inr (0, [.ref wV])), (wV, .inl (X.2 1, 64, .inr (.inl fV))), (hN, .inr (0, [.ref wN])), (wN, .inl (X.2 1, 64, .inr (.inl fN)))]) 0 0 := by
  refine metI (by decide) (Nat.le_of_ble_eq_true rfl) ?_
  intro p e s m below meth c A ls hB hl
  obtain ⟨hx, hb, hr, hml, hown, hlk, hin, hg, hA, hD, hP, hE⟩ := hB
  have hS : va_S A s.heap s.heap [] := va_S.rf
  have hl : lv_has ls 4 [(0, .ref g0), (1, .int (nI (fo n 6))), (2, .int (nI b))] := hl
  refine lv_aload_n hx hb d_Ge_isGoal_0 rfl (lv_at hl 0 rfl) ?_
  refine va_get (D := X.1) (ci := 4) (v := .ref h0) (C := R_Ge) (T := F_Ge) (N := 8) hx hb hg in_Ge hown hE.1 hP 0 rfl rfl 0 (by decide) (hg _ m_134) (fun _ h9 => h9) rfl d_Ge_isGoal_1 ?_
  refine lv_iload_n hx hb d_Ge_isGoal_4 rfl (lv_at hl 1 rfl) ?_
  refine lv_iload_n hx hb d_Ge_isGoal_5 rfl (lv_at hl 2 rfl) ?_
  refine clVI (n := 2) (As := [.int (nI (fo n 6)), .int (nI b)]) (rest := []) (wc := [(h0, .inr (2, [.ref hv, .ref hi, .ref hM, .ref hV, .ref hN, .int (nI P), .int (nI nr)])), (hi, .inl (X.2 0, 6, .inl (ia iv)))]) (wr := [(g0, .inr (4, [.ref h0, .ref hR, .ref gc, .ref gg, .ref gn, .ref gt, .int (nI tk), .int gl])), (hV, .inr (0, [.ref wV])), (wV, .inl (X.2 1, 64, .inr (.inl fV))), (hN, .inr (0, [.ref wN])), (wN, .inl (X.2 1, 64, .inr (.inl fN)))]) hx hb hml hown hg hE hA hP hD hS (k_Sp_invalidIn l X h0 hv hi hM hV hN P nr vl iv hiv n b hn hb0) (gcons m_334 (gcons m_335 (gcons m_336 (gcons m_2 (gcons m_337 gG))))) (by decide +kernel) [1, 2] [0, 3, 4, 5, 6] rfl rfl (by decide) (by decide) (by decide) 0 rfl rfl rfl hl.1 (Nat.le_of_ble_eq_true rfl) rfl d_Ge_isGoal_6 ⟨rfl, rfl, Nat.le_of_ble_eq_true rfl, Nat.le_of_ble_eq_true rfl⟩ (⟨Nat.le_of_ble_eq_true rfl, Nat.le_of_ble_eq_true rfl⟩) (fun r6 u6 H locs hq6 hP hD hS => ?_)
  have hq6 : r6 = nI (ivs iv n b 6) := hq6
  subst hq6
  have hP := hP.sub (ws' := [(g0, .inr (4, [.ref h0, .ref hR, .ref gc, .ref gg, .ref gn, .ref gt, .int (nI tk), .int gl])), (h0, .inr (2, [.ref hv, .ref hi, .ref hM, .ref hV, .ref hN, .int (nI P), .int (nI nr)])), (hi, .inl (X.2 0, 6, .inl (ia iv))), (hV, .inr (0, [.ref wV])), (wV, .inl (X.2 1, 64, .inr (.inl fV))), (hN, .inr (0, [.ref wN])), (wN, .inl (X.2 1, 64, .inr (.inl fN)))]) [0, 5, 6, 1, 2, 3, 4] rfl
  have hD := hD.sub (ws' := [(g0, .inr (4, [.ref h0, .ref hR, .ref gc, .ref gg, .ref gn, .ref gt, .int (nI tk), .int gl])), (h0, .inr (2, [.ref hv, .ref hi, .ref hM, .ref hV, .ref hN, .int (nI P), .int (nI nr)])), (hi, .inl (X.2 0, 6, .inl (ia iv))), (hV, .inr (0, [.ref wV])), (wV, .inl (X.2 1, 64, .inr (.inl fV))), (hN, .inr (0, [.ref wN])), (wN, .inl (X.2 1, 64, .inr (.inl fN)))]) [0, 5, 6, 1, 2, 3, 4] (by decide) rfl
  refine lv_istore_n hx hb d_Ge_isGoal_9 rfl hl (by decide) rfl (fun ls hl => ?_)
  have hl : lv_has ls 4 [(3, .int (nI (ivs iv n b 6))), (0, .ref g0), (1, .int (nI (fo n 6))), (2, .int (nI b))] := hl
  refine lv_iload_n hx hb d_Ge_isGoal_10 rfl (lv_at hl 0 rfl) ?_
  refine lv_if_ne (tgt := 27) hx hb d_Ge_isGoal_11 (by decide) (fun hc11 => ?_) (fun hc11 => ?_)
  · rw [n_z (ivs31 _ _ _)] at hc11
    refine lv_iload_n hx hb d_Ge_isGoal_27 rfl (lv_at hl 0 rfl) ?_
    refine clSI (n := 1) (As := [.int (nI (ivs iv n b 6))]) (rest := []) (wc := []) (wr := [(g0, .inr (4, [.ref h0, .ref hR, .ref gc, .ref gg, .ref gn, .ref gt, .int (nI tk), .int gl])), (h0, .inr (2, [.ref hv, .ref hi, .ref hM, .ref hV, .ref hN, .int (nI P), .int (nI nr)])), (hi, .inl (X.2 0, 6, .inl (ia iv))), (hV, .inr (0, [.ref wV])), (wV, .inl (X.2 1, 64, .inr (.inl fV))), (hN, .inr (0, [.ref wN])), (wN, .inl (X.2 1, 64, .inr (.inl fN)))]) hx hb hml hown hg hE hA hP hD hS (k_JI_bitCount l X (nI (ivs iv n b 6))) (gcons m_329 (gcons m_219 (gcons m_9 (gcons m_220 gG)))) (by decide +kernel) [] [0, 1, 2, 3, 4, 5, 6] rfl rfl (by decide) (by decide) (by decide) rfl hl.1 (Nat.le_of_ble_eq_true rfl) rfl d_Ge_isGoal_28 ⟨rfl, rfl, Nat.le_of_ble_eq_true rfl, Nat.le_of_ble_eq_true rfl⟩ (⟨Nat.le_of_ble_eq_true rfl, Nat.le_of_ble_eq_true rfl⟩) (fun r28 u28 H locs hq28 hP hD hS => ?_)
    have hq28 : r28 = bcI (nI (ivs iv n b 6)) := hq28
    subst hq28
    have hP : va_P X.1 classes [(g0, .inr (4, [.ref h0, .ref hR, .ref gc, .ref gg, .ref gn, .ref gt, .int (nI tk), .int gl])), (h0, .inr (2, [.ref hv, .ref hi, .ref hM, .ref hV, .ref hN, .int (nI P), .int (nI nr)])), (hi, .inl (X.2 0, 6, .inl (ia iv))), (hV, .inr (0, [.ref wV])), (wV, .inl (X.2 1, 64, .inr (.inl fV))), (hN, .inr (0, [.ref wN])), (wN, .inl (X.2 1, 64, .inr (.inl fN)))] H := hP
    have hD : va_D A [(g0, .inr (4, [.ref h0, .ref hR, .ref gc, .ref gg, .ref gn, .ref gt, .int (nI tk), .int gl])), (h0, .inr (2, [.ref hv, .ref hi, .ref hM, .ref hV, .ref hN, .int (nI P), .int (nI nr)])), (hi, .inl (X.2 0, 6, .inl (ia iv))), (hV, .inr (0, [.ref wV])), (wV, .inl (X.2 1, 64, .inr (.inl fV))), (hN, .inr (0, [.ref wN])), (wN, .inl (X.2 1, 64, .inr (.inl fN)))] := hD
    refine topI (y := nI (cn (ivs iv n b 6) 6)) (bc6 (ivs_64 _ _ _ 6 (by decide))) ?_
    refine lv_iconst (v := nI 1) hx hb d_Ge_isGoal_31 (by decide) ?_
    refine lv_icmp_ne (tgt := 54) hx hb d_Ge_isGoal_32 (by decide) (fun hc32 => ?_) (fun hc32 => ?_)
    · rw [nI_eq (cn31 _) (by decide)] at hc32
      refine lv_iconst (v := nI 0) hx hb d_Ge_isGoal_54 (by decide) ?_
      exact retZ (u := ()) hx hb hr hlk (by decide) hP hD hS (by first | exact gl_b hc11 hc47 | exact gl_a hc11 hc32) d_Ge_isGoal_55
    · rw [nI_eq (cn31 _) (by decide)] at hc32
      refine lv_aload_n hx hb d_Ge_isGoal_35 rfl (lv_at hl 1 rfl) ?_
      refine va_get (D := X.1) (ci := 4) (v := .ref h0) (C := R_Ge) (T := F_Ge) (N := 8) hx hb hg in_Ge hown hE.1 hP 0 rfl rfl 0 (by decide) (hg _ m_134) (fun _ h9 => h9) rfl d_Ge_isGoal_36 ?_
      refine va_get (D := X.1) (ci := 2) (v := .ref hN) (C := R_Sp) (T := F_Sp) (N := 7) hx hb hg in_Sp hown hE.1 hP 1 rfl rfl 4 (by decide) (hg _ m_73) (fun _ h9 => h9) rfl d_Ge_isGoal_39 ?_
      refine lv_iload_n hx hb d_Ge_isGoal_42 rfl (lv_at hl 2 rfl) ?_
      refine lv_iload_n hx hb d_Ge_isGoal_43 rfl (lv_at hl 3 rfl) ?_
      refine clVI (n := 2) (As := [.int (nI (fo n 6)), .int (nI b)]) (rest := []) (wc := [(hN, .inr (0, [.ref wN])), (wN, .inl (X.2 1, 64, .inr (.inl fN)))]) (wr := [(g0, .inr (4, [.ref h0, .ref hR, .ref gc, .ref gg, .ref gn, .ref gt, .int (nI tk), .int gl])), (h0, .inr (2, [.ref hv, .ref hi, .ref hM, .ref hV, .ref hN, .int (nI P), .int (nI nr)])), (hi, .inl (X.2 0, 6, .inl (ia iv))), (hV, .inr (0, [.ref wV])), (wV, .inl (X.2 1, 64, .inr (.inl fV)))]) hx hb hml hown hg hE hA hP hD hS (k_NS_hasRowWith l X hN wN fN NSs hfN n b hn hb0 hbs) (gcons m_340 (gcons m_302 (gcons m_303 (gcons m_3 (gcons m_304 gG))))) (by decide +kernel) [5, 6] [0, 1, 2, 3, 4] rfl rfl (by decide) (by decide) (by decide) 0 rfl rfl rfl hl.1 (Nat.le_of_ble_eq_true rfl) rfl d_Ge_isGoal_44 ⟨rfl, rfl, Nat.le_of_ble_eq_true rfl, Nat.le_of_ble_eq_true rfl⟩ (⟨Nat.le_of_ble_eq_true rfl, Nat.le_of_ble_eq_true rfl⟩) (fun r44 u44 H locs hq44 hP hD hS => ?_)
      have hq44 : r44 = bI (anyR NSs n b) := hq44
      subst hq44
      have hP : va_P X.1 classes [(g0, .inr (4, [.ref h0, .ref hR, .ref gc, .ref gg, .ref gn, .ref gt, .int (nI tk), .int gl])), (h0, .inr (2, [.ref hv, .ref hi, .ref hM, .ref hV, .ref hN, .int (nI P), .int (nI nr)])), (hi, .inl (X.2 0, 6, .inl (ia iv))), (hV, .inr (0, [.ref wV])), (wV, .inl (X.2 1, 64, .inr (.inl fV))), (hN, .inr (0, [.ref wN])), (wN, .inl (X.2 1, 64, .inr (.inl fN)))] H := hP
      have hD : va_D A [(g0, .inr (4, [.ref h0, .ref hR, .ref gc, .ref gg, .ref gn, .ref gt, .int (nI tk), .int gl])), (h0, .inr (2, [.ref hv, .ref hi, .ref hM, .ref hV, .ref hN, .int (nI P), .int (nI nr)])), (hi, .inl (X.2 0, 6, .inl (ia iv))), (hV, .inr (0, [.ref wV])), (wV, .inl (X.2 1, 64, .inr (.inl fV))), (hN, .inr (0, [.ref wN])), (wN, .inl (X.2 1, 64, .inr (.inl fN)))] := hD
      refine lv_if_eq (tgt := 54) hx hb d_Ge_isGoal_47 (by decide) (fun hc47 => ?_) (fun hc47 => ?_)
      · rw [bI_z] at hc47
        refine lv_iconst (v := nI 0) hx hb d_Ge_isGoal_54 (by decide) ?_
        exact retZ (u := ()) hx hb hr hlk (by decide) hP hD hS (by first | exact gl_b hc11 hc47 | exact gl_a hc11 hc32) d_Ge_isGoal_55
      · rw [bI_z] at hc47
        refine lv_iconst (v := nI 1) hx hb d_Ge_isGoal_50 (by decide) ?_
        refine lv_goto (tgt := 55) hx hb d_Ge_isGoal_51 (by decide) ?_
        exact retZ (u := ()) hx hb hr hlk (by decide) hP hD hS (gl_c hc11 hc32 hc47) d_Ge_isGoal_55
  · rw [n_z (ivs31 _ _ _)] at hc11
    refine lv_aload_n hx hb d_Ge_isGoal_14 rfl (lv_at hl 1 rfl) ?_
    refine va_get (D := X.1) (ci := 4) (v := .ref h0) (C := R_Ge) (T := F_Ge) (N := 8) hx hb hg in_Ge hown hE.1 hP 0 rfl rfl 0 (by decide) (hg _ m_134) (fun _ h9 => h9) rfl d_Ge_isGoal_15 ?_
    refine va_get (D := X.1) (ci := 2) (v := .ref hV) (C := R_Sp) (T := F_Sp) (N := 7) hx hb hg in_Sp hown hE.1 hP 1 rfl rfl 3 (by decide) (hg _ m_70) (fun _ h9 => h9) rfl d_Ge_isGoal_18 ?_
    refine lv_iload_n hx hb d_Ge_isGoal_21 rfl (lv_at hl 2 rfl) ?_
    refine lv_iload_n hx hb d_Ge_isGoal_22 rfl (lv_at hl 3 rfl) ?_
    refine clVI (n := 2) (As := [.int (nI (fo n 6)), .int (nI b)]) (rest := []) (wc := [(hV, .inr (0, [.ref wV])), (wV, .inl (X.2 1, 64, .inr (.inl fV)))]) (wr := [(g0, .inr (4, [.ref h0, .ref hR, .ref gc, .ref gg, .ref gn, .ref gt, .int (nI tk), .int gl])), (h0, .inr (2, [.ref hv, .ref hi, .ref hM, .ref hV, .ref hN, .int (nI P), .int (nI nr)])), (hi, .inl (X.2 0, 6, .inl (ia iv))), (hN, .inr (0, [.ref wN])), (wN, .inl (X.2 1, 64, .inr (.inl fN)))]) hx hb hml hown hg hE hA hP hD hS (k_NS_hasRowWith l X hV wV fV VS hfV n b hn hb0 hbs) (gcons m_340 (gcons m_302 (gcons m_303 (gcons m_3 (gcons m_304 gG))))) (by decide +kernel) [3, 4] [0, 1, 2, 5, 6] rfl rfl (by decide) (by decide) (by decide) 0 rfl rfl rfl hl.1 (Nat.le_of_ble_eq_true rfl) rfl d_Ge_isGoal_23 ⟨rfl, rfl, Nat.le_of_ble_eq_true rfl, Nat.le_of_ble_eq_true rfl⟩ (⟨Nat.le_of_ble_eq_true rfl, Nat.le_of_ble_eq_true rfl⟩) (fun r23 u23 H locs hq23 hP hD hS => ?_)
    have hq23 : r23 = bI (anyR VS n b) := hq23
    subst hq23
    have hP := hP.sub (ws' := [(g0, .inr (4, [.ref h0, .ref hR, .ref gc, .ref gg, .ref gn, .ref gt, .int (nI tk), .int gl])), (h0, .inr (2, [.ref hv, .ref hi, .ref hM, .ref hV, .ref hN, .int (nI P), .int (nI nr)])), (hi, .inl (X.2 0, 6, .inl (ia iv))), (hV, .inr (0, [.ref wV])), (wV, .inl (X.2 1, 64, .inr (.inl fV))), (hN, .inr (0, [.ref wN])), (wN, .inl (X.2 1, 64, .inr (.inl fN)))]) [0, 1, 2, 5, 6, 3, 4] rfl
    have hD := hD.sub (ws' := [(g0, .inr (4, [.ref h0, .ref hR, .ref gc, .ref gg, .ref gn, .ref gt, .int (nI tk), .int gl])), (h0, .inr (2, [.ref hv, .ref hi, .ref hM, .ref hV, .ref hN, .int (nI P), .int (nI nr)])), (hi, .inl (X.2 0, 6, .inl (ia iv))), (hV, .inr (0, [.ref wV])), (wV, .inl (X.2 1, 64, .inr (.inl fV))), (hN, .inr (0, [.ref wN])), (wN, .inl (X.2 1, 64, .inr (.inl fN)))]) [0, 1, 2, 5, 6, 3, 4] (by decide) rfl
    exact retZ (u := ()) hx hb hr hlk (bI_01 _) hP hD hS (by rw [gl_0 hc11]) d_Ge_isGoal_26
set_option maxHeartbeats 4000000 in
set_option maxRecDepth 100000 in
theorem k_Ge_countGoalsOf (l : Launch) (X : Cx) (h0 hv hi hM hV hN : Nat) (P nr : Nat) (vl iv : Nat → Nat) (hiv : ∀ p, p < 6 → iv p < 16) (g0 hR gc gg gn gt tk : Nat) (gl : Int32) (wV wN : Nat) (fV fN : Nat → Int64) (VS NSs : Nat → Bool) (hfV : RS fV VS) (hfN : RS fN NSs) (n : Nat) (hn : n < 64) : CtI l X (TY X) y_Ge_countGoalsOf cw_Ge_countGoalsOf ({ frames := 4, cells := 0, slots := 0, locals := 97 } : Room) [.ref g0, .int (nI (fo n 6))] [(g0, .inr (4, [.ref h0, .ref hR, .ref gc, .ref gg, .ref gn, .ref gt, .int (nI tk), .int gl])), (h0, .inr (2, [.ref hv, .ref hi, .ref hM, .ref hV, .ref hN, .int (nI P), .int (nI nr)])), (hi, .inl (X.2 0, 6, .inl (ia iv))), (hV, .inr (0, [.ref wV])), (wV, .inl (X.2 1, 64, .inr (.inl fV))), (hN, .inr (0, [.ref wN])), (wN, .inl (X.2 1, 64, .inr (.inl fN)))] (S := Unit) (fun r _ => r = nI (cB (glF iv VS NSs n) (4 ^ cn n 6))) (fun _ => [(g0, .inr (4, [.ref h0, .ref hR, .ref gc, .ref gg, .ref gn, .ref gt, .int (nI tk), .int gl])), (h0, .inr (2, [.ref hv, .ref hi, .ref hM, .ref hV, .ref hN, .int (nI P), .int (nI nr)])), (hi, .inl (X.2 0, 6, .inl (ia iv))), (hV, .inr (0, [.ref wV])), (wV, .inl (X.2 1, 64, .inr (.inl fV))), (hN, .inr (0, [.ref wN])), (wN, .inl (X.2 1, 64, .inr (.inl fN)))]) 0 0 := by
  refine metI (by decide) (Nat.le_of_ble_eq_true rfl) ?_
  intro p e s m below meth c A ls hB hl
  obtain ⟨hx, hb, hr, hml, hown, hlk, hin, hg, hA, hD, hP, hE⟩ := hB
  have hS : va_S A s.heap s.heap [] := va_S.rf
  have hl : lv_has ls 6 [(0, .ref g0), (1, .int (nI (fo n 6)))] := hl
  have h4 := p4cn n
  refine lv_iconst (v := nI 0) hx hb d_Ge_countGoalsOf_0 (by decide) ?_
  refine lv_istore_n hx hb d_Ge_countGoalsOf_1 rfl hl (by decide) rfl (fun ls hl => ?_)
  have hl : lv_has ls 6 [(2, .int (nI 0)), (0, .ref g0), (1, .int (nI (fo n 6)))] := hl
  refine lv_iconst (v := nI 1) hx hb d_Ge_countGoalsOf_2 (by decide) ?_
  refine lv_iload_n hx hb d_Ge_countGoalsOf_3 rfl (lv_at hl 2 rfl) ?_
  refine clSI (n := 1) (As := [.int (nI (fo n 6))]) (rest := [.int (nI 1)]) (wc := []) (wr := [(g0, .inr (4, [.ref h0, .ref hR, .ref gc, .ref gg, .ref gn, .ref gt, .int (nI tk), .int gl])), (h0, .inr (2, [.ref hv, .ref hi, .ref hM, .ref hV, .ref hN, .int (nI P), .int (nI nr)])), (hi, .inl (X.2 0, 6, .inl (ia iv))), (hV, .inr (0, [.ref wV])), (wV, .inl (X.2 1, 64, .inr (.inl fV))), (hN, .inr (0, [.ref wN])), (wN, .inl (X.2 1, 64, .inr (.inl fN)))]) hx hb hml hown hg hE hA hP hD hS (k_JI_bitCount l X (nI (fo n 6))) (gcons m_329 (gcons m_219 (gcons m_9 (gcons m_220 gG)))) (by decide +kernel) [] [0, 1, 2, 3, 4, 5, 6] rfl rfl (by decide) (by decide) (by decide) rfl hl.1 (Nat.le_of_ble_eq_true rfl) rfl d_Ge_countGoalsOf_4 ⟨rfl, rfl, Nat.le_of_ble_eq_true rfl, Nat.le_of_ble_eq_true rfl⟩ (⟨Nat.le_of_ble_eq_true rfl, Nat.le_of_ble_eq_true rfl⟩) (fun r4 u4 H locs hq4 hP hD hS => ?_)
  have hq4 : r4 = bcI (nI (fo n 6)) := hq4
  subst hq4
  have hP : va_P X.1 classes [(g0, .inr (4, [.ref h0, .ref hR, .ref gc, .ref gg, .ref gn, .ref gt, .int (nI tk), .int gl])), (h0, .inr (2, [.ref hv, .ref hi, .ref hM, .ref hV, .ref hN, .int (nI P), .int (nI nr)])), (hi, .inl (X.2 0, 6, .inl (ia iv))), (hV, .inr (0, [.ref wV])), (wV, .inl (X.2 1, 64, .inr (.inl fV))), (hN, .inr (0, [.ref wN])), (wN, .inl (X.2 1, 64, .inr (.inl fN)))] H := hP
  have hD : va_D A [(g0, .inr (4, [.ref h0, .ref hR, .ref gc, .ref gg, .ref gn, .ref gt, .int (nI tk), .int gl])), (h0, .inr (2, [.ref hv, .ref hi, .ref hM, .ref hV, .ref hN, .int (nI P), .int (nI nr)])), (hi, .inl (X.2 0, 6, .inl (ia iv))), (hV, .inr (0, [.ref wV])), (wV, .inl (X.2 1, 64, .inr (.inl fV))), (hN, .inr (0, [.ref wN])), (wN, .inl (X.2 1, 64, .inr (.inl fN)))] := hD
  refine lv_ishl hx hb d_Ge_countGoalsOf_7 ?_
  refine topI (y := nI (4 ^ cn n 6)) (bcF hn) ?_
  refine lv_istore_n hx hb d_Ge_countGoalsOf_8 rfl hl (by decide) rfl (fun ls hl => ?_)
  have hl : lv_has ls 6 [(3, .int (nI (4 ^ cn n 6))), (2, .int (nI 0)), (0, .ref g0), (1, .int (nI (fo n 6)))] := hl
  refine lv_iconst (v := nI 0) hx hb d_Ge_countGoalsOf_9 (by decide) ?_
  refine topI (y := nI (ux n 0)) (by rw [ux_0]) ?_
  refine lv_istore hx hb d_Ge_countGoalsOf_10 hl (by decide) rfl (fun ls hl => ?_)
  have hl : lv_has ls 6 [(4, .int (nI (ux n 0))), (3, .int (nI (4 ^ cn n 6))), (2, .int (nI 0)), (0, .ref g0), (1, .int (nI (fo n 6)))] := hl
  refine lv_iconst (v := nI 0) hx hb d_Ge_countGoalsOf_12 (by decide) ?_
  refine lv_istore hx hb d_Ge_countGoalsOf_13 hl (by decide) rfl (fun ls hl => ?_)
  have hl : lv_has ls 6 [(5, .int (nI 0)), (4, .int (nI (ux n 0))), (3, .int (nI (4 ^ cn n 6))), (2, .int (nI 0)), (0, .ref g0), (1, .int (nI (fo n 6)))] := hl
  refine wLoop (nL := 6) (σ := (Nat)) (fun j => 4 ^ cn n 6 - j) (fun j => j ≤ 4 ^ cn n 6) (fun j => [(g0, .inr (4, [.ref h0, .ref hR, .ref gc, .ref gg, .ref gn, .ref gt, .int (nI tk), .int gl])), (h0, .inr (2, [.ref hv, .ref hi, .ref hM, .ref hV, .ref hN, .int (nI P), .int (nI nr)])), (hi, .inl (X.2 0, 6, .inl (ia iv))), (hV, .inr (0, [.ref wV])), (wV, .inl (X.2 1, 64, .inr (.inl fV))), (hN, .inr (0, [.ref wN])), (wN, .inl (X.2 1, 64, .inr (.inl fN)))]) (fun j => [(0, .ref g0), (1, .int (nI (fo n 6))), (2, .int (nI (cB (glF iv VS NSs n) j))), (3, .int (nI (4 ^ cn n 6))), (4, .int (nI (ux n j))), (5, .int (nI j))]) ?_ 0 (Nat.zero_le _) hP hD hS (lv_sub hl [4, 5, 3, 2, 1, 0] rfl)
  rintro j H locs ls hJ hP hD hS hl ih15
  have hJ : j ≤ 4 ^ cn n 6 := hJ
  have hP : va_P X.1 classes [(g0, .inr (4, [.ref h0, .ref hR, .ref gc, .ref gg, .ref gn, .ref gt, .int (nI tk), .int gl])), (h0, .inr (2, [.ref hv, .ref hi, .ref hM, .ref hV, .ref hN, .int (nI P), .int (nI nr)])), (hi, .inl (X.2 0, 6, .inl (ia iv))), (hV, .inr (0, [.ref wV])), (wV, .inl (X.2 1, 64, .inr (.inl fV))), (hN, .inr (0, [.ref wN])), (wN, .inl (X.2 1, 64, .inr (.inl fN)))] H := hP
  have hD : va_D A [(g0, .inr (4, [.ref h0, .ref hR, .ref gc, .ref gg, .ref gn, .ref gt, .int (nI tk), .int gl])), (h0, .inr (2, [.ref hv, .ref hi, .ref hM, .ref hV, .ref hN, .int (nI P), .int (nI nr)])), (hi, .inl (X.2 0, 6, .inl (ia iv))), (hV, .inr (0, [.ref wV])), (wV, .inl (X.2 1, 64, .inr (.inl fV))), (hN, .inr (0, [.ref wN])), (wN, .inl (X.2 1, 64, .inr (.inl fN)))] := hD
  have hl : lv_has ls 6 [(0, .ref g0), (1, .int (nI (fo n 6))), (2, .int (nI (cB (glF iv VS NSs n) j))), (3, .int (nI (4 ^ cn n 6))), (4, .int (nI (ux n j))), (5, .int (nI j))] := hl
  refine lv_iload hx hb d_Ge_countGoalsOf_15 (lv_at hl 5 rfl) ?_
  refine lv_iload_n hx hb d_Ge_countGoalsOf_17 rfl (lv_at hl 3 rfl) ?_
  refine lv_icmp_ge (tgt := 48) hx hb d_Ge_countGoalsOf_18 (by decide) (fun hc18 => ?_) (fun hc18 => ?_)
  · rw [nI_leI (by omega) (by omega)] at hc18
    obtain rfl : j = 4 ^ cn n 6 := by omega
    refine lv_iload_n hx hb d_Ge_countGoalsOf_48 rfl (lv_at hl 2 rfl) ?_
    exact retI (u := ()) hx hb hr hlk hP hD hS (rfl) d_Ge_countGoalsOf_49
  · rw [nI_leI (by omega) (by omega)] at hc18
    refine lv_aload_n hx hb d_Ge_countGoalsOf_21 rfl (lv_at hl 0 rfl) ?_
    refine lv_iload_n hx hb d_Ge_countGoalsOf_22 rfl (lv_at hl 1 rfl) ?_
    refine lv_iload hx hb d_Ge_countGoalsOf_23 (lv_at hl 4 rfl) ?_
    refine clVI (n := 2) (As := [.int (nI (fo n 6)), .int (nI (ux n j))]) (rest := []) (wc := [(g0, .inr (4, [.ref h0, .ref hR, .ref gc, .ref gg, .ref gn, .ref gt, .int (nI tk), .int gl])), (h0, .inr (2, [.ref hv, .ref hi, .ref hM, .ref hV, .ref hN, .int (nI P), .int (nI nr)])), (hi, .inl (X.2 0, 6, .inl (ia iv))), (hV, .inr (0, [.ref wV])), (wV, .inl (X.2 1, 64, .inr (.inl fV))), (hN, .inr (0, [.ref wN])), (wN, .inl (X.2 1, 64, .inr (.inl fN)))]) (wr := []) hx hb hml hown hg hE hA hP hD hS (k_Ge_isGoal l X h0 hv hi hM hV hN P nr vl iv hiv g0 hR gc gg gn gt tk gl wV wN fV fN VS NSs hfV hfN n (ux n j) hn (ux_lt n j) (ux_and n j)) (gcons m_330 (gcons m_332 (gcons ms_Ge_isGoal (gcons m_7 (gcons m_333 gG))))) (by decide +kernel) [0, 1, 2, 3, 4, 5, 6] [] rfl rfl (by decide) (by decide) (by decide) 0 rfl rfl rfl hl.1 (Nat.le_of_ble_eq_true rfl) rfl d_Ge_countGoalsOf_25 ⟨rfl, rfl, Nat.le_of_ble_eq_true rfl, Nat.le_of_ble_eq_true rfl⟩ (⟨Nat.le_of_ble_eq_true rfl, Nat.le_of_ble_eq_true rfl⟩) (fun r25 u25 H locs hq25 hP hD hS => ?_)
    have hq25 : r25 = bI (glF iv VS NSs n j) := hq25
    subst hq25
    have hP : va_P X.1 classes [(g0, .inr (4, [.ref h0, .ref hR, .ref gc, .ref gg, .ref gn, .ref gt, .int (nI tk), .int gl])), (h0, .inr (2, [.ref hv, .ref hi, .ref hM, .ref hV, .ref hN, .int (nI P), .int (nI nr)])), (hi, .inl (X.2 0, 6, .inl (ia iv))), (hV, .inr (0, [.ref wV])), (wV, .inl (X.2 1, 64, .inr (.inl fV))), (hN, .inr (0, [.ref wN])), (wN, .inl (X.2 1, 64, .inr (.inl fN)))] H := hP
    have hD : va_D A [(g0, .inr (4, [.ref h0, .ref hR, .ref gc, .ref gg, .ref gn, .ref gt, .int (nI tk), .int gl])), (h0, .inr (2, [.ref hv, .ref hi, .ref hM, .ref hV, .ref hN, .int (nI P), .int (nI nr)])), (hi, .inl (X.2 0, 6, .inl (ia iv))), (hV, .inr (0, [.ref wV])), (wV, .inl (X.2 1, 64, .inr (.inl fV))), (hN, .inr (0, [.ref wN])), (wN, .inl (X.2 1, 64, .inr (.inl fN)))] := hD
    refine lv_if_eq (tgt := 34) hx hb d_Ge_countGoalsOf_28 (by decide) (fun hc28 => ?_) (fun hc28 => ?_)
    · rw [bI_z] at hc28
      have hl : lv_has ls 6 [(0, .ref g0), (1, .int (nI (fo n 6))), (2, .int (nI (cB (glF iv VS NSs n) (j + 1)))), (3, .int (nI (4 ^ cn n 6))), (4, .int (nI (ux n j))), (5, .int (nI j))] := by rw [cB_f hc28]; exact hl
      refine lv_iload_n hx hb d_Ge_countGoalsOf_34 rfl (lv_at hl 1 rfl) ?_
      refine lv_iload hx hb d_Ge_countGoalsOf_35 (lv_at hl 4 rfl) ?_
      refine clSNI (n := 2) (As := [.int (nI (fo n 6)), .int (nI (ux n j))]) (rest := []) (wc := []) (wr := [(g0, .inr (4, [.ref h0, .ref hR, .ref gc, .ref gg, .ref gn, .ref gt, .int (nI tk), .int gl])), (h0, .inr (2, [.ref hv, .ref hi, .ref hM, .ref hV, .ref hN, .int (nI P), .int (nI nr)])), (hi, .inl (X.2 0, 6, .inl (ia iv))), (hV, .inr (0, [.ref wV])), (wV, .inl (X.2 1, 64, .inr (.inl fV))), (hN, .inr (0, [.ref wN])), (wN, .inl (X.2 1, 64, .inr (.inl fN)))]) hx hb hml hown hg hE hA hP hD hS (k_CR_nextWithin l X (nI (fo n 6)) (nI (ux n j))) m_311 m_310 m_1 (nw_9 hE.2.1) (by decide +kernel) [] [0, 1, 2, 3, 4, 5, 6] rfl rfl (by decide) (by decide) (by decide) rfl hl.1 (Nat.le_of_ble_eq_true rfl) rfl d_Ge_countGoalsOf_37 ⟨rfl, rfl, Nat.le_of_ble_eq_true rfl, Nat.le_of_ble_eq_true rfl⟩ (⟨Nat.le_of_ble_eq_true rfl, Nat.le_of_ble_eq_true rfl⟩) (fun r37 u37 H locs hq37 hP hD hS => ?_)
      have hq37 : r37 = (nI (ux n j) - nI (fo n 6)) &&& nI (fo n 6) := hq37
      subst hq37
      have hP : va_P X.1 classes [(g0, .inr (4, [.ref h0, .ref hR, .ref gc, .ref gg, .ref gn, .ref gt, .int (nI tk), .int gl])), (h0, .inr (2, [.ref hv, .ref hi, .ref hM, .ref hV, .ref hN, .int (nI P), .int (nI nr)])), (hi, .inl (X.2 0, 6, .inl (ia iv))), (hV, .inr (0, [.ref wV])), (wV, .inl (X.2 1, 64, .inr (.inl fV))), (hN, .inr (0, [.ref wN])), (wN, .inl (X.2 1, 64, .inr (.inl fN)))] H := hP
      have hD : va_D A [(g0, .inr (4, [.ref h0, .ref hR, .ref gc, .ref gg, .ref gn, .ref gt, .int (nI tk), .int gl])), (h0, .inr (2, [.ref hv, .ref hi, .ref hM, .ref hV, .ref hN, .int (nI P), .int (nI nr)])), (hi, .inl (X.2 0, 6, .inl (ia iv))), (hV, .inr (0, [.ref wV])), (wV, .inl (X.2 1, 64, .inr (.inl fV))), (hN, .inr (0, [.ref wN])), (wN, .inl (X.2 1, 64, .inr (.inl fN)))] := hD
      refine topI (y := nI (ux n (j + 1))) (ux_next hn (by omega)) ?_
      refine lv_istore hx hb d_Ge_countGoalsOf_40 hl (by decide) rfl (fun ls hl => ?_)
      have hl : lv_has ls 6 [(4, .int (nI (ux n (j + 1)))), (0, .ref g0), (1, .int (nI (fo n 6))), (2, .int (nI (cB (glF iv VS NSs n) (j + 1)))), (3, .int (nI (4 ^ cn n 6))), (5, .int (nI j))] := hl
      refine lv_iinc (k := 5) (v := nI (j + 1)) hx hb d_Ge_countGoalsOf_42 hl rfl (nI_1 _) (by decide) rfl (fun ls hl => ?_)
      have hl : lv_has ls 6 [(5, .int (nI (j + 1))), (4, .int (nI (ux n (j + 1)))), (0, .ref g0), (1, .int (nI (fo n 6))), (2, .int (nI (cB (glF iv VS NSs n) (j + 1)))), (3, .int (nI (4 ^ cn n 6)))] := hl
      refine lv_goto (tgt := 15) hx hb d_Ge_countGoalsOf_45 (by decide) ?_
      exact ih15 (j + 1) H locs ls (by (try dsimp only); omega) (by (try dsimp only); omega) hP hD hS (lv_sub hl [2, 3, 4, 5, 1, 0] rfl)
    · rw [bI_z] at hc28
      refine lv_iinc (k := 2) (v := nI (cB (glF iv VS NSs n) (j + 1))) hx hb d_Ge_countGoalsOf_31 hl rfl (cB_it hc28) (by decide) rfl (fun ls hl => ?_)
      have hl : lv_has ls 6 [(2, .int (nI (cB (glF iv VS NSs n) (j + 1)))), (0, .ref g0), (1, .int (nI (fo n 6))), (3, .int (nI (4 ^ cn n 6))), (4, .int (nI (ux n j))), (5, .int (nI j))] := hl
      refine lv_iload_n hx hb d_Ge_countGoalsOf_34 rfl (lv_at hl 2 rfl) ?_
      refine lv_iload hx hb d_Ge_countGoalsOf_35 (lv_at hl 4 rfl) ?_
      refine clSNI (n := 2) (As := [.int (nI (fo n 6)), .int (nI (ux n j))]) (rest := []) (wc := []) (wr := [(g0, .inr (4, [.ref h0, .ref hR, .ref gc, .ref gg, .ref gn, .ref gt, .int (nI tk), .int gl])), (h0, .inr (2, [.ref hv, .ref hi, .ref hM, .ref hV, .ref hN, .int (nI P), .int (nI nr)])), (hi, .inl (X.2 0, 6, .inl (ia iv))), (hV, .inr (0, [.ref wV])), (wV, .inl (X.2 1, 64, .inr (.inl fV))), (hN, .inr (0, [.ref wN])), (wN, .inl (X.2 1, 64, .inr (.inl fN)))]) hx hb hml hown hg hE hA hP hD hS (k_CR_nextWithin l X (nI (fo n 6)) (nI (ux n j))) m_311 m_310 m_1 (nw_9 hE.2.1) (by decide +kernel) [] [0, 1, 2, 3, 4, 5, 6] rfl rfl (by decide) (by decide) (by decide) rfl hl.1 (Nat.le_of_ble_eq_true rfl) rfl d_Ge_countGoalsOf_37 ⟨rfl, rfl, Nat.le_of_ble_eq_true rfl, Nat.le_of_ble_eq_true rfl⟩ (⟨Nat.le_of_ble_eq_true rfl, Nat.le_of_ble_eq_true rfl⟩) (fun r37 u37 H locs hq37 hP hD hS => ?_)
      have hq37 : r37 = (nI (ux n j) - nI (fo n 6)) &&& nI (fo n 6) := hq37
      subst hq37
      have hP : va_P X.1 classes [(g0, .inr (4, [.ref h0, .ref hR, .ref gc, .ref gg, .ref gn, .ref gt, .int (nI tk), .int gl])), (h0, .inr (2, [.ref hv, .ref hi, .ref hM, .ref hV, .ref hN, .int (nI P), .int (nI nr)])), (hi, .inl (X.2 0, 6, .inl (ia iv))), (hV, .inr (0, [.ref wV])), (wV, .inl (X.2 1, 64, .inr (.inl fV))), (hN, .inr (0, [.ref wN])), (wN, .inl (X.2 1, 64, .inr (.inl fN)))] H := hP
      have hD : va_D A [(g0, .inr (4, [.ref h0, .ref hR, .ref gc, .ref gg, .ref gn, .ref gt, .int (nI tk), .int gl])), (h0, .inr (2, [.ref hv, .ref hi, .ref hM, .ref hV, .ref hN, .int (nI P), .int (nI nr)])), (hi, .inl (X.2 0, 6, .inl (ia iv))), (hV, .inr (0, [.ref wV])), (wV, .inl (X.2 1, 64, .inr (.inl fV))), (hN, .inr (0, [.ref wN])), (wN, .inl (X.2 1, 64, .inr (.inl fN)))] := hD
      refine topI (y := nI (ux n (j + 1))) (ux_next hn (by omega)) ?_
      refine lv_istore hx hb d_Ge_countGoalsOf_40 hl (by decide) rfl (fun ls hl => ?_)
      have hl : lv_has ls 6 [(4, .int (nI (ux n (j + 1)))), (2, .int (nI (cB (glF iv VS NSs n) (j + 1)))), (0, .ref g0), (1, .int (nI (fo n 6))), (3, .int (nI (4 ^ cn n 6))), (5, .int (nI j))] := hl
      refine lv_iinc (k := 5) (v := nI (j + 1)) hx hb d_Ge_countGoalsOf_42 hl rfl (nI_1 _) (by decide) rfl (fun ls hl => ?_)
      have hl : lv_has ls 6 [(5, .int (nI (j + 1))), (4, .int (nI (ux n (j + 1)))), (2, .int (nI (cB (glF iv VS NSs n) (j + 1)))), (0, .ref g0), (1, .int (nI (fo n 6))), (3, .int (nI (4 ^ cn n 6)))] := hl
      refine lv_goto (tgt := 15) hx hb d_Ge_countGoalsOf_45 (by decide) ?_
      exact ih15 (j + 1) H locs ls (by (try dsimp only); omega) (by (try dsimp only); omega) hP hD hS (lv_sub hl [3, 4, 2, 5, 1, 0] rfl)
set_option maxHeartbeats 4000000 in
set_option maxRecDepth 100000 in
theorem k_Ge_countGoals (l : Launch) (X : Cx) (h0 hv hi hM hV hN : Nat) (P nr : Nat) (vl iv : Nat → Nat) (hiv : ∀ p, p < 6 → iv p < 16) (g0 hR gc gg gn gt tk : Nat) (gl : Int32) (wV wN : Nat) (fV fN : Nat → Int64) (VS NSs : Nat → Bool) (hfV : RS fV VS) (hfN : RS fN NSs) (ak : Int64) (nk : Nat) (hak0 : bL ak 0 = false) : CtI l X (TY X) y_Ge_countGoals cw_Ge_countGoals ({ frames := 5, cells := 0, slots := 0, locals := 122 } : Room) [.ref g0] [(g0, .inr (4, [.ref h0, .ref hR, .ref gc, .ref gg, .ref gn, .ref gt, .int (nI tk), .int gl])), (h0, .inr (2, [.ref hv, .ref hi, .ref hM, .ref hV, .ref hN, .int (nI P), .int (nI nr)])), (hi, .inl (X.2 0, 6, .inl (ia iv))), (hV, .inr (0, [.ref wV])), (wV, .inl (X.2 1, 64, .inr (.inl fV))), (hN, .inr (0, [.ref wN])), (wN, .inl (X.2 1, 64, .inr (.inl fN))), (hR, .inr (1, [.long ak, .int (nI nk)]))] (S := Unit) (fun r _ => r = nI (sumN (gsF iv VS NSs (bL ak)) 64)) (fun _ => [(g0, .inr (4, [.ref h0, .ref hR, .ref gc, .ref gg, .ref gn, .ref gt, .int (nI tk), .int gl])), (h0, .inr (2, [.ref hv, .ref hi, .ref hM, .ref hV, .ref hN, .int (nI P), .int (nI nr)])), (hi, .inl (X.2 0, 6, .inl (ia iv))), (hV, .inr (0, [.ref wV])), (wV, .inl (X.2 1, 64, .inr (.inl fV))), (hN, .inr (0, [.ref wN])), (wN, .inl (X.2 1, 64, .inr (.inl fN))), (hR, .inr (1, [.long ak, .int (nI nk)]))]) 0 0 := by
  refine metI (by decide) (Nat.le_of_ble_eq_true rfl) ?_
  intro p e s m below meth c A ls hB hl
  obtain ⟨hx, hb, hr, hml, hown, hlk, hin, hg, hA, hD, hP, hE⟩ := hB
  have hS : va_S A s.heap s.heap [] := va_S.rf
  have hl : lv_has ls 5 [(0, .ref g0)] := hl
  refine lv_aload_n hx hb d_Ge_countGoals_0 rfl (lv_at hl 0 rfl) ?_
  refine va_get (D := X.1) (ci := 4) (v := .ref hR) (C := R_Ge) (T := F_Ge) (N := 8) hx hb hg in_Ge hown hE.1 hP 0 rfl rfl 1 (by decide) (hg _ m_135) (fun _ h9 => h9) rfl d_Ge_countGoals_1 ?_
  refine lv_iconst (v := nI 0) hx hb d_Ge_countGoals_4 (by decide) ?_
  refine clVL (n := 1) (As := [.int (nI 0)]) (rest := []) (wc := [(hR, .inr (1, [.long ak, .int (nI nk)]))]) (wr := [(g0, .inr (4, [.ref h0, .ref hR, .ref gc, .ref gg, .ref gn, .ref gt, .int (nI tk), .int gl])), (h0, .inr (2, [.ref hv, .ref hi, .ref hM, .ref hV, .ref hN, .int (nI P), .int (nI nr)])), (hi, .inl (X.2 0, 6, .inl (ia iv))), (hV, .inr (0, [.ref wV])), (wV, .inl (X.2 1, 64, .inr (.inl fV))), (hN, .inr (0, [.ref wN])), (wN, .inl (X.2 1, 64, .inr (.inl fN)))]) hx hb hml hown hg hE hA hP hD hS (k_Re_askedWith l X hR ak nk 0 (by decide)) (gcons m_316 (gcons m_317 (gcons m_318 (gcons m_5 (gcons m_319 gG))))) (by decide +kernel) [7] [0, 1, 2, 3, 4, 5, 6] rfl rfl (by decide) (by decide) (by decide) 0 rfl rfl rfl hl.1 (Nat.le_of_ble_eq_true rfl) rfl d_Ge_countGoals_5 ⟨rfl, rfl, Nat.le_of_ble_eq_true rfl, Nat.le_of_ble_eq_true rfl⟩ (⟨Nat.le_of_ble_eq_true rfl, Nat.le_of_ble_eq_true rfl⟩) (fun aw u5 H locs haw hP hD hS => ?_)
  have hP : va_P X.1 classes [(g0, .inr (4, [.ref h0, .ref hR, .ref gc, .ref gg, .ref gn, .ref gt, .int (nI tk), .int gl])), (h0, .inr (2, [.ref hv, .ref hi, .ref hM, .ref hV, .ref hN, .int (nI P), .int (nI nr)])), (hi, .inl (X.2 0, 6, .inl (ia iv))), (hV, .inr (0, [.ref wV])), (wV, .inl (X.2 1, 64, .inr (.inl fV))), (hN, .inr (0, [.ref wN])), (wN, .inl (X.2 1, 64, .inr (.inl fN))), (hR, .inr (1, [.long ak, .int (nI nk)]))] H := hP
  have hD : va_D A [(g0, .inr (4, [.ref h0, .ref hR, .ref gc, .ref gg, .ref gn, .ref gt, .int (nI tk), .int gl])), (h0, .inr (2, [.ref hv, .ref hi, .ref hM, .ref hV, .ref hN, .int (nI P), .int (nI nr)])), (hi, .inl (X.2 0, 6, .inl (ia iv))), (hV, .inr (0, [.ref wV])), (wV, .inl (X.2 1, 64, .inr (.inl fV))), (hN, .inr (0, [.ref wN])), (wN, .inl (X.2 1, 64, .inr (.inl fN))), (hR, .inr (1, [.long ak, .int (nI nk)]))] := hD
  refine lv_lstore_n hx hb d_Ge_countGoals_8 rfl hl (by decide) rfl (fun ls hl => ?_)
  have hl : lv_has ls 5 [(1, .long aw), (0, .ref g0)] := hl
  refine lv_iconst (v := nI 0) hx hb d_Ge_countGoals_9 (by decide) ?_
  refine topI (y := nI (sumN (gsF iv VS NSs (bL ak)) 1)) (by rw [gs_f hak0]; rfl) ?_
  refine lv_istore_n hx hb d_Ge_countGoals_10 rfl hl (by decide) rfl (fun ls hl => ?_)
  have hl : lv_has ls 5 [(3, .int (nI (sumN (gsF iv VS NSs (bL ak)) 1))), (1, .long aw), (0, .ref g0)] := hl
  refine lv_iconst (v := nI 1) hx hb d_Ge_countGoals_11 (by decide) ?_
  refine lv_istore hx hb d_Ge_countGoals_12 hl (by decide) rfl (fun ls hl => ?_)
  have hl : lv_has ls 5 [(4, .int (nI 1)), (3, .int (nI (sumN (gsF iv VS NSs (bL ak)) 1))), (1, .long aw), (0, .ref g0)] := hl
  refine wLoop (nL := 5) (σ := (Nat)) (fun i => 64 - i) (fun i => 1 ≤ i ∧ i ≤ 64) (fun i => [(g0, .inr (4, [.ref h0, .ref hR, .ref gc, .ref gg, .ref gn, .ref gt, .int (nI tk), .int gl])), (h0, .inr (2, [.ref hv, .ref hi, .ref hM, .ref hV, .ref hN, .int (nI P), .int (nI nr)])), (hi, .inl (X.2 0, 6, .inl (ia iv))), (hV, .inr (0, [.ref wV])), (wV, .inl (X.2 1, 64, .inr (.inl fV))), (hN, .inr (0, [.ref wN])), (wN, .inl (X.2 1, 64, .inr (.inl fN))), (hR, .inr (1, [.long ak, .int (nI nk)]))]) (fun i => [(0, .ref g0), (1, .long aw), (3, .int (nI (sumN (gsF iv VS NSs (bL ak)) i))), (4, .int (nI i))]) ?_ 1 (⟨by omega, by omega⟩) hP hD hS (lv_sub hl [3, 2, 1, 0] rfl)
  rintro i H locs ls hJ hP hD hS hl ih14
  have hJ : 1 ≤ i ∧ i ≤ 64 := hJ
  obtain ⟨hi1, hi64⟩ := hJ
  have hP : va_P X.1 classes [(g0, .inr (4, [.ref h0, .ref hR, .ref gc, .ref gg, .ref gn, .ref gt, .int (nI tk), .int gl])), (h0, .inr (2, [.ref hv, .ref hi, .ref hM, .ref hV, .ref hN, .int (nI P), .int (nI nr)])), (hi, .inl (X.2 0, 6, .inl (ia iv))), (hV, .inr (0, [.ref wV])), (wV, .inl (X.2 1, 64, .inr (.inl fV))), (hN, .inr (0, [.ref wN])), (wN, .inl (X.2 1, 64, .inr (.inl fN))), (hR, .inr (1, [.long ak, .int (nI nk)]))] H := hP
  have hD : va_D A [(g0, .inr (4, [.ref h0, .ref hR, .ref gc, .ref gg, .ref gn, .ref gt, .int (nI tk), .int gl])), (h0, .inr (2, [.ref hv, .ref hi, .ref hM, .ref hV, .ref hN, .int (nI P), .int (nI nr)])), (hi, .inl (X.2 0, 6, .inl (ia iv))), (hV, .inr (0, [.ref wV])), (wV, .inl (X.2 1, 64, .inr (.inl fV))), (hN, .inr (0, [.ref wN])), (wN, .inl (X.2 1, 64, .inr (.inl fN))), (hR, .inr (1, [.long ak, .int (nI nk)]))] := hD
  have hl : lv_has ls 5 [(0, .ref g0), (1, .long aw), (3, .int (nI (sumN (gsF iv VS NSs (bL ak)) i))), (4, .int (nI i))] := hl
  refine lv_iload hx hb d_Ge_countGoals_14 (lv_at hl 3 rfl) ?_
  refine lv_bipush (v := nI 64) hx hb d_Ge_countGoals_16 (by decide) ?_
  refine lv_icmp_ge (tgt := 50) hx hb d_Ge_countGoals_18 (by decide) (fun hc18 => ?_) (fun hc18 => ?_)
  · rw [nI_leI (by omega) (by omega)] at hc18
    obtain rfl : i = 64 := by omega
    refine lv_iload_n hx hb d_Ge_countGoals_50 rfl (lv_at hl 2 rfl) ?_
    exact retI (u := ()) hx hb hr hlk hP hD hS (rfl) d_Ge_countGoals_51
  · rw [nI_leI (by omega) (by omega)] at hc18
    refine lv_lload_n hx hb d_Ge_countGoals_21 rfl (lv_at hl 1 rfl) ?_
    refine lv_iload hx hb d_Ge_countGoals_22 (lv_at hl 3 rfl) ?_
    refine lv_lushr hx hb d_Ge_countGoals_24 rfl ?_
    refine lv_lconst (v := 1) hx hb d_Ge_countGoals_25 (by decide) ?_
    refine lv_land hx hb d_Ge_countGoals_26 ?_
    refine lv_lconst (v := 0) hx hb d_Ge_countGoals_27 (by decide) ?_
    refine W.lcmp hx hb d_Ge_countGoals_28 ?_
    refine lv_if_eq (tgt := 44) hx hb d_Ge_countGoals_29 (by decide) (fun hc29 => ?_) (fun hc29 => ?_)
    · rw [(lcz.trans (bit_at _ (by omega)))] at hc29
      rw [haw i (by omega), sub_0, Bool.and_true] at hc29
      have hl : lv_has ls 5 [(0, .ref g0), (1, .long aw), (3, .int (nI (sumN (gsF iv VS NSs (bL ak)) (i + 1)))), (4, .int (nI i))] := by rw [gs_f hc29]; exact hl
      refine lv_iinc (k := 3) (v := nI (i + 1)) hx hb d_Ge_countGoals_44 hl rfl (nI_1 _) (by decide) rfl (fun ls hl => ?_)
      have hl : lv_has ls 5 [(4, .int (nI (i + 1))), (0, .ref g0), (1, .long aw), (3, .int (nI (sumN (gsF iv VS NSs (bL ak)) (i + 1))))] := hl
      refine lv_goto (tgt := 14) hx hb d_Ge_countGoals_47 (by decide) ?_
      exact ih14 (i + 1) H locs ls (by (try dsimp only); omega) (⟨by (try dsimp only); omega, by (try dsimp only); omega⟩) hP hD hS (lv_sub hl [1, 2, 3, 0] rfl)
    · rw [(lcz.trans (bit_at _ (by omega)))] at hc29
      rw [haw i (by omega), sub_0, Bool.and_true] at hc29
      refine lv_iload_n hx hb d_Ge_countGoals_32 rfl (lv_at hl 2 rfl) ?_
      refine lv_aload_n hx hb d_Ge_countGoals_33 rfl (lv_at hl 0 rfl) ?_
      refine lv_iload hx hb d_Ge_countGoals_34 (lv_at hl 3 rfl) ?_
      refine clSNI (n := 1) (As := [.int (nI i)]) (rest := [.ref g0, .int (nI (sumN (gsF iv VS NSs (bL ak)) i))]) (wc := []) (wr := [(g0, .inr (4, [.ref h0, .ref hR, .ref gc, .ref gg, .ref gn, .ref gt, .int (nI tk), .int gl])), (h0, .inr (2, [.ref hv, .ref hi, .ref hM, .ref hV, .ref hN, .int (nI P), .int (nI nr)])), (hi, .inl (X.2 0, 6, .inl (ia iv))), (hV, .inr (0, [.ref wV])), (wV, .inl (X.2 1, 64, .inr (.inl fV))), (hN, .inr (0, [.ref wN])), (wN, .inl (X.2 1, 64, .inr (.inl fN))), (hR, .inr (1, [.long ak, .int (nI nk)]))]) hx hb hml hown hg hE hA hP hD hS (k_CR_fieldsOf l X i (by omega)) m_324 m_323 m_1 (nw_7 hE.2.1) (by decide +kernel) [] [0, 1, 2, 3, 4, 5, 6, 7] rfl rfl (by decide) (by decide) (by decide) rfl hl.1 (Nat.le_of_ble_eq_true rfl) rfl d_Ge_countGoals_36 ⟨rfl, rfl, Nat.le_of_ble_eq_true rfl, Nat.le_of_ble_eq_true rfl⟩ (⟨Nat.le_of_ble_eq_true rfl, Nat.le_of_ble_eq_true rfl⟩) (fun r36 u36 H locs hq36 hP hD hS => ?_)
      have hq36 : r36 = nI (fo i 6) := hq36
      subst hq36
      have hP : va_P X.1 classes [(g0, .inr (4, [.ref h0, .ref hR, .ref gc, .ref gg, .ref gn, .ref gt, .int (nI tk), .int gl])), (h0, .inr (2, [.ref hv, .ref hi, .ref hM, .ref hV, .ref hN, .int (nI P), .int (nI nr)])), (hi, .inl (X.2 0, 6, .inl (ia iv))), (hV, .inr (0, [.ref wV])), (wV, .inl (X.2 1, 64, .inr (.inl fV))), (hN, .inr (0, [.ref wN])), (wN, .inl (X.2 1, 64, .inr (.inl fN))), (hR, .inr (1, [.long ak, .int (nI nk)]))] H := hP
      have hD : va_D A [(g0, .inr (4, [.ref h0, .ref hR, .ref gc, .ref gg, .ref gn, .ref gt, .int (nI tk), .int gl])), (h0, .inr (2, [.ref hv, .ref hi, .ref hM, .ref hV, .ref hN, .int (nI P), .int (nI nr)])), (hi, .inl (X.2 0, 6, .inl (ia iv))), (hV, .inr (0, [.ref wV])), (wV, .inl (X.2 1, 64, .inr (.inl fV))), (hN, .inr (0, [.ref wN])), (wN, .inl (X.2 1, 64, .inr (.inl fN))), (hR, .inr (1, [.long ak, .int (nI nk)]))] := hD
      refine clVI (n := 1) (As := [.int (nI (fo i 6))]) (rest := [.int (nI (sumN (gsF iv VS NSs (bL ak)) i))]) (wc := [(g0, .inr (4, [.ref h0, .ref hR, .ref gc, .ref gg, .ref gn, .ref gt, .int (nI tk), .int gl])), (h0, .inr (2, [.ref hv, .ref hi, .ref hM, .ref hV, .ref hN, .int (nI P), .int (nI nr)])), (hi, .inl (X.2 0, 6, .inl (ia iv))), (hV, .inr (0, [.ref wV])), (wV, .inl (X.2 1, 64, .inr (.inl fV))), (hN, .inr (0, [.ref wN])), (wN, .inl (X.2 1, 64, .inr (.inl fN)))]) (wr := [(hR, .inr (1, [.long ak, .int (nI nk)]))]) hx hb hml hown hg hE hA hP hD hS (k_Ge_countGoalsOf l X h0 hv hi hM hV hN P nr vl iv hiv g0 hR gc gg gn gt tk gl wV wN fV fN VS NSs hfV hfN i (by omega)) (gcons m_325 (gcons m_327 (gcons ms_Ge_countGoalsOf (gcons m_7 (gcons m_328 gG))))) (by decide +kernel) [0, 1, 2, 3, 4, 5, 6] [7] rfl rfl (by decide) (by decide) (by decide) 0 rfl rfl rfl hl.1 (Nat.le_of_ble_eq_true rfl) rfl d_Ge_countGoals_39 ⟨rfl, rfl, Nat.le_of_ble_eq_true rfl, Nat.le_of_ble_eq_true rfl⟩ (⟨Nat.le_of_ble_eq_true rfl, Nat.le_of_ble_eq_true rfl⟩) (fun r39 u39 H locs hq39 hP hD hS => ?_)
      have hq39 : r39 = nI (cB (glF iv VS NSs i) (4 ^ cn i 6)) := hq39
      subst hq39
      have hP := hP.sub (ws' := [(g0, .inr (4, [.ref h0, .ref hR, .ref gc, .ref gg, .ref gn, .ref gt, .int (nI tk), .int gl])), (h0, .inr (2, [.ref hv, .ref hi, .ref hM, .ref hV, .ref hN, .int (nI P), .int (nI nr)])), (hi, .inl (X.2 0, 6, .inl (ia iv))), (hV, .inr (0, [.ref wV])), (wV, .inl (X.2 1, 64, .inr (.inl fV))), (hN, .inr (0, [.ref wN])), (wN, .inl (X.2 1, 64, .inr (.inl fN))), (hR, .inr (1, [.long ak, .int (nI nk)]))]) [1, 2, 3, 4, 5, 6, 7, 0] rfl
      have hD := hD.sub (ws' := [(g0, .inr (4, [.ref h0, .ref hR, .ref gc, .ref gg, .ref gn, .ref gt, .int (nI tk), .int gl])), (h0, .inr (2, [.ref hv, .ref hi, .ref hM, .ref hV, .ref hN, .int (nI P), .int (nI nr)])), (hi, .inl (X.2 0, 6, .inl (ia iv))), (hV, .inr (0, [.ref wV])), (wV, .inl (X.2 1, 64, .inr (.inl fV))), (hN, .inr (0, [.ref wN])), (wN, .inl (X.2 1, 64, .inr (.inl fN))), (hR, .inr (1, [.long ak, .int (nI nk)]))]) [1, 2, 3, 4, 5, 6, 7, 0] (by decide) rfl
      refine lv_iadd hx hb d_Ge_countGoals_42 ?_
      refine topI (y := nI (sumN (gsF iv VS NSs (bL ak)) (i + 1))) ((nI_add _ _).trans (gs_t hc29)) ?_
      refine lv_istore_n hx hb d_Ge_countGoals_43 rfl hl (by decide) rfl (fun ls hl => ?_)
      have hl : lv_has ls 5 [(3, .int (nI (sumN (gsF iv VS NSs (bL ak)) (i + 1)))), (0, .ref g0), (1, .long aw), (4, .int (nI i))] := hl
      refine lv_iinc (k := 3) (v := nI (i + 1)) hx hb d_Ge_countGoals_44 hl rfl (nI_1 _) (by decide) rfl (fun ls hl => ?_)
      have hl : lv_has ls 5 [(4, .int (nI (i + 1))), (3, .int (nI (sumN (gsF iv VS NSs (bL ak)) (i + 1)))), (0, .ref g0), (1, .long aw)] := hl
      refine lv_goto (tgt := 14) hx hb d_Ge_countGoals_47 (by decide) ?_
      exact ih14 (i + 1) H locs ls (by (try dsimp only); omega) (⟨by (try dsimp only); omega, by (try dsimp only); omega⟩) hP hD hS (lv_sub hl [2, 3, 1, 0] rfl)
end
