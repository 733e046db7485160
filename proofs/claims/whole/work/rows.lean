section
-- ===== PART A: goes FIRST, ahead of the names: the tables' words, and 'selects' of the private methods out of them =====
/-- a private method of a class that the tables say can be made, by its rows of tables_1 -/
def lw_okq (q : MethodName × Nat) : Prop := (q.1.cls ≠ "java/lang/invoke/MethodHandle" ∧ q.1.cls ≠ "java/lang/invoke/VarHandle") ∧ Cond.instantiable q.1.cls q.2 ∈ tables_1 ∧ Cond.privateMethod q.1 ∈ tables_1 ∧ Cond.instanceMethod q.1 ∈ tables_1
theorem lw_p0 : lw_okq (⟨"KrylovDesk", "isPlace", "(I)Z"⟩, 13) := ⟨⟨by decide +kernel, by decide +kernel⟩, List.mem_of_getElem? (i := 11) (by decide +kernel), List.mem_of_getElem? (i := 163) (by decide +kernel), List.mem_of_getElem? (i := 164) (by decide +kernel)⟩
theorem lw_p1 : lw_okq (⟨"KrylovDesk", "forgetResults", "()V"⟩, 13) := ⟨⟨by decide +kernel, by decide +kernel⟩, List.mem_of_getElem? (i := 11) (by decide +kernel), List.mem_of_getElem? (i := 179) (by decide +kernel), List.mem_of_getElem? (i := 180) (by decide +kernel)⟩
theorem lw_p2 : lw_okq (⟨"KrylovDesk", "drawChance", "()V"⟩, 13) := ⟨⟨by decide +kernel, by decide +kernel⟩, List.mem_of_getElem? (i := 11) (by decide +kernel), List.mem_of_getElem? (i := 200) (by decide +kernel), List.mem_of_getElem? (i := 201) (by decide +kernel)⟩
theorem lw_p3 : lw_okq (⟨"KrylovDesk", "fillRow", "()V"⟩, 13) := ⟨⟨by decide +kernel, by decide +kernel⟩, List.mem_of_getElem? (i := 11) (by decide +kernel), List.mem_of_getElem? (i := 210) (by decide +kernel), List.mem_of_getElem? (i := 211) (by decide +kernel)⟩
theorem lw_p4 : lw_okq (⟨"KrylovDesk", "chanceTimesWork", "()I"⟩, 13) := ⟨⟨by decide +kernel, by decide +kernel⟩, List.mem_of_getElem? (i := 11) (by decide +kernel), List.mem_of_getElem? (i := 217) (by decide +kernel), List.mem_of_getElem? (i := 218) (by decide +kernel)⟩
theorem lw_p5 : lw_okq (⟨"KrylovDesk$Recurrence", "learn", "([II)V"⟩, 7) := ⟨⟨by decide +kernel, by decide +kernel⟩, List.mem_of_getElem? (i := 89) (by decide +kernel), List.mem_of_getElem? (i := 239) (by decide +kernel), List.mem_of_getElem? (i := 240) (by decide +kernel)⟩
theorem lw_p6 : lw_okq (⟨"KrylovDesk$Recurrence", "missAt", "([II)I"⟩, 7) := ⟨⟨by decide +kernel, by decide +kernel⟩, List.mem_of_getElem? (i := 89) (by decide +kernel), List.mem_of_getElem? (i := 243) (by decide +kernel), List.mem_of_getElem? (i := 244) (by decide +kernel)⟩
theorem lw_p7 : lw_okq (⟨"KrylovDesk$Recurrence", "subtractOlder", "(I)V"⟩, 7) := ⟨⟨by decide +kernel, by decide +kernel⟩, List.mem_of_getElem? (i := 89) (by decide +kernel), List.mem_of_getElem? (i := 258) (by decide +kernel), List.mem_of_getElem? (i := 259) (by decide +kernel)⟩
theorem lw_p8 : lw_okq (⟨"KrylovDesk", "makeCandidate", "()V"⟩, 13) := ⟨⟨by decide +kernel, by decide +kernel⟩, List.mem_of_getElem? (i := 11) (by decide +kernel), List.mem_of_getElem? (i := 270) (by decide +kernel), List.mem_of_getElem? (i := 271) (by decide +kernel)⟩
theorem lw_p9 : lw_okq (⟨"KrylovDesk", "addRightToWork", "(I)V"⟩, 13) := ⟨⟨by decide +kernel, by decide +kernel⟩, List.mem_of_getElem? (i := 11) (by decide +kernel), List.mem_of_getElem? (i := 276) (by decide +kernel), List.mem_of_getElem? (i := 277) (by decide +kernel)⟩
theorem lw_p10 : lw_okq (⟨"KrylovDesk", "answerMeetsRight", "()Z"⟩, 13) := ⟨⟨by decide +kernel, by decide +kernel⟩, List.mem_of_getElem? (i := 11) (by decide +kernel), List.mem_of_getElem? (i := 282) (by decide +kernel), List.mem_of_getElem? (i := 283) (by decide +kernel)⟩
theorem lw_p11 : lw_okq (⟨"KrylovDeskModel", "within", "(J)J"⟩, 22) := ⟨⟨by decide +kernel, by decide +kernel⟩, List.mem_of_getElem? (i := 322) (by decide +kernel), List.mem_of_getElem? (i := 404) (by decide +kernel), List.mem_of_getElem? (i := 405) (by decide +kernel)⟩
theorem lw_p12 : lw_okq (⟨"KrylovDeskModel", "forget", "()V"⟩, 22) := ⟨⟨by decide +kernel, by decide +kernel⟩, List.mem_of_getElem? (i := 322) (by decide +kernel), List.mem_of_getElem? (i := 408) (by decide +kernel), List.mem_of_getElem? (i := 409) (by decide +kernel)⟩
theorem lw_p13 : lw_okq (⟨"KrylovDeskModel", "makeRow", "()V"⟩, 22) := ⟨⟨by decide +kernel, by decide +kernel⟩, List.mem_of_getElem? (i := 322) (by decide +kernel), List.mem_of_getElem? (i := 425) (by decide +kernel), List.mem_of_getElem? (i := 426) (by decide +kernel)⟩
theorem lw_p14 : lw_okq (⟨"KrylovDeskModel", "draw", "()J"⟩, 22) := ⟨⟨by decide +kernel, by decide +kernel⟩, List.mem_of_getElem? (i := 322) (by decide +kernel), List.mem_of_getElem? (i := 429) (by decide +kernel), List.mem_of_getElem? (i := 430) (by decide +kernel)⟩
theorem lw_p15 : lw_okq (⟨"KrylovDeskModel", "product", "()V"⟩, 22) := ⟨⟨by decide +kernel, by decide +kernel⟩, List.mem_of_getElem? (i := 322) (by decide +kernel), List.mem_of_getElem? (i := 437) (by decide +kernel), List.mem_of_getElem? (i := 438) (by decide +kernel)⟩
def lw_privs_1 : List (MethodName × Nat) := [(⟨"KrylovDesk", "isPlace", "(I)Z"⟩, 13), (⟨"KrylovDesk", "forgetResults", "()V"⟩, 13), (⟨"KrylovDesk", "drawChance", "()V"⟩, 13), (⟨"KrylovDesk", "fillRow", "()V"⟩, 13), (⟨"KrylovDesk", "chanceTimesWork", "()I"⟩, 13), (⟨"KrylovDesk$Recurrence", "learn", "([II)V"⟩, 7), (⟨"KrylovDesk$Recurrence", "missAt", "([II)I"⟩, 7), (⟨"KrylovDesk$Recurrence", "subtractOlder", "(I)V"⟩, 7), (⟨"KrylovDesk", "makeCandidate", "()V"⟩, 13), (⟨"KrylovDesk", "addRightToWork", "(I)V"⟩, 13), (⟨"KrylovDesk", "answerMeetsRight", "()Z"⟩, 13), (⟨"KrylovDeskModel", "within", "(J)J"⟩, 22), (⟨"KrylovDeskModel", "forget", "()V"⟩, 22), (⟨"KrylovDeskModel", "makeRow", "()V"⟩, 22), (⟨"KrylovDeskModel", "draw", "()J"⟩, 22), (⟨"KrylovDeskModel", "product", "()V"⟩, 22)]
theorem lw_r1 : ∀ q ∈ lw_privs_1, lw_okq q := List.forall_mem_cons.mpr ⟨lw_p0, List.forall_mem_cons.mpr ⟨lw_p1, List.forall_mem_cons.mpr ⟨lw_p2, List.forall_mem_cons.mpr ⟨lw_p3, List.forall_mem_cons.mpr ⟨lw_p4, List.forall_mem_cons.mpr ⟨lw_p5, List.forall_mem_cons.mpr ⟨lw_p6, List.forall_mem_cons.mpr ⟨lw_p7, List.forall_mem_cons.mpr ⟨lw_p8, List.forall_mem_cons.mpr ⟨lw_p9, List.forall_mem_cons.mpr ⟨lw_p10, List.forall_mem_cons.mpr ⟨lw_p11, List.forall_mem_cons.mpr ⟨lw_p12, List.forall_mem_cons.mpr ⟨lw_p13, List.forall_mem_cons.mpr ⟨lw_p14, List.forall_mem_cons.mpr ⟨lw_p15, fun _ h => absurd h List.not_mem_nil⟩⟩⟩⟩⟩⟩⟩⟩⟩⟩⟩⟩⟩⟩⟩⟩
theorem lw_p16 : lw_okq (⟨"KrylovDeskModel", "recur", "()V"⟩, 22) := ⟨⟨by decide +kernel, by decide +kernel⟩, List.mem_of_getElem? (i := 322) (by decide +kernel), List.mem_of_getElem? (i := 441) (by decide +kernel), List.mem_of_getElem? (i := 442) (by decide +kernel)⟩
theorem lw_p17 : lw_okq (⟨"KrylovDeskModel", "inverse", "(J)J"⟩, 22) := ⟨⟨by decide +kernel, by decide +kernel⟩, List.mem_of_getElem? (i := 322) (by decide +kernel), List.mem_of_getElem? (i := 445) (by decide +kernel), List.mem_of_getElem? (i := 446) (by decide +kernel)⟩
theorem lw_p18 : lw_okq (⟨"KrylovDeskModel", "power", "(JI)J"⟩, 22) := ⟨⟨by decide +kernel, by decide +kernel⟩, List.mem_of_getElem? (i := 322) (by decide +kernel), List.mem_of_getElem? (i := 449) (by decide +kernel), List.mem_of_getElem? (i := 450) (by decide +kernel)⟩
theorem lw_p19 : lw_okq (⟨"KrylovDeskModel", "makeCandidate", "()V"⟩, 22) := ⟨⟨by decide +kernel, by decide +kernel⟩, List.mem_of_getElem? (i := 322) (by decide +kernel), List.mem_of_getElem? (i := 453) (by decide +kernel), List.mem_of_getElem? (i := 454) (by decide +kernel)⟩
theorem lw_p20 : lw_okq (⟨"KrylovDeskModel", "holds", "()Z"⟩, 22) := ⟨⟨by decide +kernel, by decide +kernel⟩, List.mem_of_getElem? (i := 322) (by decide +kernel), List.mem_of_getElem? (i := 457) (by decide +kernel), List.mem_of_getElem? (i := 458) (by decide +kernel)⟩
def lw_privs_2 : List (MethodName × Nat) := [(⟨"KrylovDeskModel", "recur", "()V"⟩, 22), (⟨"KrylovDeskModel", "inverse", "(J)J"⟩, 22), (⟨"KrylovDeskModel", "power", "(JI)J"⟩, 22), (⟨"KrylovDeskModel", "makeCandidate", "()V"⟩, 22), (⟨"KrylovDeskModel", "holds", "()Z"⟩, 22)]
theorem lw_r2 : ∀ q ∈ lw_privs_2, lw_okq q := List.forall_mem_cons.mpr ⟨lw_p16, List.forall_mem_cons.mpr ⟨lw_p17, List.forall_mem_cons.mpr ⟨lw_p18, List.forall_mem_cons.mpr ⟨lw_p19, List.forall_mem_cons.mpr ⟨lw_p20, fun _ h => absurd h List.not_mem_nil⟩⟩⟩⟩⟩
def lw_privs : List (MethodName × Nat) := lw_privs_1 ++ (lw_privs_2)
def lw_tbl : List Cond := k2_sels lw_privs ++ tables_1
theorem lw_privs_ok : ∀ q ∈ lw_privs, lw_okq q := by
  show ∀ q ∈ lw_privs_1 ++ (lw_privs_2), lw_okq q
  exact List.forall_mem_append.mpr ⟨lw_r1, lw_r2⟩
/-! ===== BEGIN words of one list among another's, by their places ===== -/
theorem goodIn_r {big : List Cond} (ws : List Cond) (ps : List Nat) (hp : ws = ps.filterMap (fun i => big[i]?)) (h : ws.all goodWord = true) : GoodIn big ws := by
  intro w hw
  have h1 := List.all_eq_true.mp h w hw
  rw [hp] at hw
  obtain ⟨i, -, hi⟩ := List.mem_filterMap.mp hw
  have hm : w ∈ big := by first | exact List.mem_of_getElem? hi | exact List.getElem?_mem hi
  exact ⟨hm, good_of_word h1⟩
theorem goodIn_app {big a b : List Cond} (ha : GoodIn big a) (hb : GoodIn big b) : GoodIn big (a ++ b) := fun w h => (List.mem_append.mp h).elim (ha w) (hb w)
theorem goodIn_ca {big a b : List Cond} {c : Cond} (ha : GoodIn big (c :: a)) (hb : GoodIn big b) : GoodIn big (c :: (a ++ b)) := fun w h => (List.mem_cons.mp h).elim (fun e => ha w (List.mem_cons.mpr (Or.inl e))) (fun h => (List.mem_append.mp h).elim (fun h => ha w (List.mem_cons.mpr (Or.inr h))) (hb w))
theorem goodIn_sub {big ws : List Cond} (hm : ∀ w ∈ ws, w ∈ big) (h : ws.all goodWord = true) : GoodIn big ws := fun w hw => ⟨hm w hw, good_of_word (List.all_eq_true.mp h w hw)⟩
/-! ===== END ===== -/

/-! ===== BEGIN printed: names, fields, word lists, decode rows ===== -/
def RX0 : String := "KrylovDesk$Generator"
def TX0 : u_T := fun k => match k with
  | _ => ("KrylovDesk$Generator", "state", "I", false)
def tyX0 : Nat → FieldType := fun k => match k with
  | _ => .int
abbrev wsX00 : List Cond := u_ws RX0 TX0 1
theorem nmX0 : ∀ a, a < 1 → ∀ b, b < 1 → a ≠ b → (TX0 a).2.1 ≠ (TX0 b).2.1 := by decide +kernel
theorem tyX0_ok : ∀ k, k < 1 → parseFieldDescriptor (TX0 k).2.2.1 = some (tyX0 k) := by decide +kernel
abbrev cX0_init : ByteArray := prog_2_method_1_code
def yX0_init : MethodName := ⟨RX0, "<init>", "()V"⟩
abbrev cX0_restart : ByteArray := prog_2_method_2_code
def yX0_restart : MethodName := ⟨RX0, "restart", "(I)V"⟩
abbrev cX0_next : ByteArray := prog_2_method_3_code
def yX0_next : MethodName := ⟨RX0, "next", "()I"⟩
def RX1 : String := "KrylovDesk$Matrix"
def TX1 : u_T := fun k => match k with
  | 0 => ("KrylovDesk$Matrix", "modulus", "LKrylovDesk$Modulus;", true)
  | 1 => ("KrylovDesk$Matrix", "rows", "[I", true)
  | 2 => ("KrylovDesk$Matrix", "columns", "[I", true)
  | 3 => ("KrylovDesk$Matrix", "values", "[I", true)
  | 4 => ("KrylovDesk$Matrix", "sums", "[I", true)
  | 5 => ("KrylovDesk$Matrix", "held", "I", false)
  | _ => ("KrylovDesk$Matrix", "productsMade", "I", false)
def tyX1 : Nat → FieldType := fun k => match k with
  | 0 => .object "KrylovDesk$Modulus"
  | 1 => .array .int
  | 2 => .array .int
  | 3 => .array .int
  | 4 => .array .int
  | 5 => .int
  | _ => .int
abbrev wsX10 : List Cond := u_ws RX1 TX1 7
theorem nmX1 : ∀ a, a < 7 → ∀ b, b < 7 → a ≠ b → (TX1 a).2.1 ≠ (TX1 b).2.1 := by decide +kernel
theorem tyX1_ok : ∀ k, k < 7 → parseFieldDescriptor (TX1 k).2.2.1 = some (tyX1 k) := by decide +kernel
abbrev cX1_init : ByteArray := prog_3_method_1_code
def yX1_init : MethodName := ⟨RX1, "<init>", "(LKrylovDesk$Modulus;II)V"⟩
abbrev cX1_isFull : ByteArray := prog_3_method_2_code
def yX1_isFull : MethodName := ⟨RX1, "isFull", "()Z"⟩
abbrev cX1_put : ByteArray := prog_3_method_3_code
def yX1_put : MethodName := ⟨RX1, "put", "(III)V"⟩
abbrev cX1_apply : ByteArray := prog_3_method_4_code
def yX1_apply : MethodName := ⟨RX1, "apply", "([I)V"⟩
def RX2 : String := "KrylovDesk$Modulus"
def TX2 : u_T := fun k => match k with
  | _ => ("KrylovDesk$Modulus", "prime", "I", true)
def tyX2 : Nat → FieldType := fun k => match k with
  | _ => .int
abbrev wsX20 : List Cond := u_ws RX2 TX2 1
theorem nmX2 : ∀ a, a < 1 → ∀ b, b < 1 → a ≠ b → (TX2 a).2.1 ≠ (TX2 b).2.1 := by decide +kernel
theorem tyX2_ok : ∀ k, k < 1 → parseFieldDescriptor (TX2 k).2.2.1 = some (tyX2 k) := by decide +kernel
abbrev cX2_init : ByteArray := prog_4_method_1_code
def yX2_init : MethodName := ⟨RX2, "<init>", "(I)V"⟩
abbrev cX2_reduce : ByteArray := prog_4_method_2_code
def yX2_reduce : MethodName := ⟨RX2, "reduce", "(I)I"⟩
abbrev cX2_negative : ByteArray := prog_4_method_3_code
def yX2_negative : MethodName := ⟨RX2, "negative", "(I)I"⟩
abbrev cX2_plusProduct : ByteArray := prog_4_method_4_code
def yX2_plusProduct : MethodName := ⟨RX2, "plusProduct", "(III)I"⟩
abbrev cX2_inverse : ByteArray := prog_4_method_5_code
def yX2_inverse : MethodName := ⟨RX2, "inverse", "(I)I"⟩
def RX3 : String := "KrylovDesk$Recurrence"
def TX3 : u_T := fun k => match k with
  | 0 => ("KrylovDesk$Recurrence", "modulus", "LKrylovDesk$Modulus;", true)
  | 1 => ("KrylovDesk$Recurrence", "terms", "[I", true)
  | 2 => ("KrylovDesk$Recurrence", "olderTerms", "[I", true)
  | 3 => ("KrylovDesk$Recurrence", "keptTerms", "[I", true)
  | 4 => ("KrylovDesk$Recurrence", "length", "I", false)
  | 5 => ("KrylovDesk$Recurrence", "shift", "I", false)
  | _ => ("KrylovDesk$Recurrence", "olderMiss", "I", false)
def tyX3 : Nat → FieldType := fun k => match k with
  | 0 => .object "KrylovDesk$Modulus"
  | 1 => .array .int
  | 2 => .array .int
  | 3 => .array .int
  | 4 => .int
  | 5 => .int
  | _ => .int
abbrev wsX30 : List Cond := u_ws RX3 TX3 7
theorem nmX3 : ∀ a, a < 7 → ∀ b, b < 7 → a ≠ b → (TX3 a).2.1 ≠ (TX3 b).2.1 := by decide +kernel
theorem tyX3_ok : ∀ k, k < 7 → parseFieldDescriptor (TX3 k).2.2.1 = some (tyX3 k) := by decide +kernel
abbrev cX3_init : ByteArray := prog_5_method_1_code
def yX3_init : MethodName := ⟨RX3, "<init>", "(LKrylovDesk$Modulus;I)V"⟩
abbrev cX3_term : ByteArray := prog_5_method_2_code
def yX3_term : MethodName := ⟨RX3, "term", "(I)I"⟩
abbrev cX3_lastTerm : ByteArray := prog_5_method_3_code
def yX3_lastTerm : MethodName := ⟨RX3, "lastTerm", "()I"⟩
abbrev cX3_find : ByteArray := prog_5_method_4_code
def yX3_find : MethodName := ⟨RX3, "find", "([I)V"⟩
abbrev cX3_learn : ByteArray := prog_5_method_5_code
def yX3_learn : MethodName := ⟨RX3, "learn", "([II)V"⟩
abbrev cX3_missAt : ByteArray := prog_5_method_6_code
def yX3_missAt : MethodName := ⟨RX3, "missAt", "([II)I"⟩
abbrev cX3_subtractOlder : ByteArray := prog_5_method_7_code
def yX3_subtractOlder : MethodName := ⟨RX3, "subtractOlder", "(I)V"⟩
def RX4 : String := "KrylovDesk"
def TX4 : u_T := fun k => match k with
  | 0 => ("KrylovDesk", "modulus", "LKrylovDesk$Modulus;", true)
  | 1 => ("KrylovDesk", "matrix", "LKrylovDesk$Matrix;", true)
  | 2 => ("KrylovDesk", "generator", "LKrylovDesk$Generator;", true)
  | 3 => ("KrylovDesk", "recurrence", "LKrylovDesk$Recurrence;", true)
  | 4 => ("KrylovDesk", "size", "I", true)
  | 5 => ("KrylovDesk", "right", "[I", true)
  | 6 => ("KrylovDesk", "chance", "[I", true)
  | 7 => ("KrylovDesk", "work", "[I", true)
  | 8 => ("KrylovDesk", "numbers", "[I", true)
  | 9 => ("KrylovDesk", "answer", "[I", true)
  | 10 => ("KrylovDesk", "rowStands", "Z", false)
  | 11 => ("KrylovDesk", "answerStands", "Z", false)
  | _ => ("KrylovDesk", "attemptsMade", "I", false)
def tyX4 : Nat → FieldType := fun k => match k with
  | 0 => .object "KrylovDesk$Modulus"
  | 1 => .object "KrylovDesk$Matrix"
  | 2 => .object "KrylovDesk$Generator"
  | 3 => .object "KrylovDesk$Recurrence"
  | 4 => .int
  | 5 => .array .int
  | 6 => .array .int
  | 7 => .array .int
  | 8 => .array .int
  | 9 => .array .int
  | 10 => .boolean
  | 11 => .boolean
  | _ => .int
abbrev wsX40 : List Cond := u_ws RX4 TX4 13
theorem nmX4 : ∀ a, a < 13 → ∀ b, b < 13 → a ≠ b → (TX4 a).2.1 ≠ (TX4 b).2.1 := by decide +kernel
theorem tyX4_ok : ∀ k, k < 13 → parseFieldDescriptor (TX4 k).2.2.1 = some (tyX4 k) := by decide +kernel
abbrev cX4_init : ByteArray := prog_1_method_1_code
def yX4_init : MethodName := ⟨RX4, "<init>", "(III)V"⟩
abbrev cX4_entry : ByteArray := prog_1_method_2_code
def yX4_entry : MethodName := ⟨RX4, "entry", "(III)I"⟩
abbrev cX4_side : ByteArray := prog_1_method_3_code
def yX4_side : MethodName := ⟨RX4, "side", "(II)I"⟩
abbrev cX4_seed : ByteArray := prog_1_method_4_code
def yX4_seed : MethodName := ⟨RX4, "seed", "(I)V"⟩
abbrev cX4_attempt : ByteArray := prog_1_method_5_code
def yX4_attempt : MethodName := ⟨RX4, "attempt", "()I"⟩
abbrev cX4_solve : ByteArray := prog_1_method_6_code
def yX4_solve : MethodName := ⟨RX4, "solve", "(I)I"⟩
abbrev cX4_solution : ByteArray := prog_1_method_7_code
def yX4_solution : MethodName := ⟨RX4, "solution", "(I)I"⟩
abbrev cX4_degree : ByteArray := prog_1_method_8_code
def yX4_degree : MethodName := ⟨RX4, "degree", "()I"⟩
abbrev cX4_coefficient : ByteArray := prog_1_method_9_code
def yX4_coefficient : MethodName := ⟨RX4, "coefficient", "(I)I"⟩
abbrev cX4_number : ByteArray := prog_1_method_10_code
def yX4_number : MethodName := ⟨RX4, "number", "(I)I"⟩
abbrev cX4_verify : ByteArray := prog_1_method_11_code
def yX4_verify : MethodName := ⟨RX4, "verify", "()Z"⟩
abbrev cX4_products : ByteArray := prog_1_method_12_code
def yX4_products : MethodName := ⟨RX4, "products", "()I"⟩
abbrev cX4_count : ByteArray := prog_1_method_13_code
def yX4_count : MethodName := ⟨RX4, "count", "(I)I"⟩
abbrev cX4_isPlace : ByteArray := prog_1_method_14_code
def yX4_isPlace : MethodName := ⟨RX4, "isPlace", "(I)Z"⟩
abbrev cX4_forgetResults : ByteArray := prog_1_method_15_code
def yX4_forgetResults : MethodName := ⟨RX4, "forgetResults", "()V"⟩
abbrev cX4_drawChance : ByteArray := prog_1_method_16_code
def yX4_drawChance : MethodName := ⟨RX4, "drawChance", "()V"⟩
abbrev cX4_fillRow : ByteArray := prog_1_method_17_code
def yX4_fillRow : MethodName := ⟨RX4, "fillRow", "()V"⟩
abbrev cX4_chanceTimesWork : ByteArray := prog_1_method_18_code
def yX4_chanceTimesWork : MethodName := ⟨RX4, "chanceTimesWork", "()I"⟩
abbrev cX4_makeCandidate : ByteArray := prog_1_method_19_code
def yX4_makeCandidate : MethodName := ⟨RX4, "makeCandidate", "()V"⟩
abbrev cX4_addRightToWork : ByteArray := prog_1_method_20_code
def yX4_addRightToWork : MethodName := ⟨RX4, "addRightToWork", "(I)V"⟩
abbrev cX4_answerMeetsRight : ByteArray := prog_1_method_21_code
def yX4_answerMeetsRight : MethodName := ⟨RX4, "answerMeetsRight", "()Z"⟩
abbrev cX4_broughtWithin : ByteArray := prog_1_method_22_code
def yX4_broughtWithin : MethodName := ⟨RX4, "broughtWithin", "(III)I"⟩
abbrev cX4_leastPrimeFrom : ByteArray := prog_1_method_23_code
def yX4_leastPrimeFrom : MethodName := ⟨RX4, "leastPrimeFrom", "(I)I"⟩
abbrev cX4_isPrime : ByteArray := prog_1_method_24_code
def yX4_isPrime : MethodName := ⟨RX4, "isPrime", "(I)Z"⟩
def RX5 : String := "KrylovDeskModel"
def TX5 : u_T := fun k => match k with
  | 0 => ("KrylovDeskModel", "prime", "I", true)
  | 1 => ("KrylovDeskModel", "n", "I", true)
  | 2 => ("KrylovDeskModel", "room", "I", true)
  | 3 => ("KrylovDeskModel", "rows", "[I", true)
  | 4 => ("KrylovDeskModel", "columns", "[I", true)
  | 5 => ("KrylovDeskModel", "values", "[J", true)
  | 6 => ("KrylovDeskModel", "entries", "I", false)
  | 7 => ("KrylovDeskModel", "right", "[J", true)
  | 8 => ("KrylovDeskModel", "generator", "J", false)
  | 9 => ("KrylovDeskModel", "attempts", "I", false)
  | 10 => ("KrylovDeskModel", "products", "I", false)
  | 11 => ("KrylovDeskModel", "drawn", "[J", true)
  | 12 => ("KrylovDeskModel", "vector", "[J", true)
  | 13 => ("KrylovDeskModel", "made", "[J", true)
  | 14 => ("KrylovDeskModel", "row", "[J", true)
  | 15 => ("KrylovDeskModel", "hasRow", "Z", false)
  | 16 => ("KrylovDeskModel", "c", "[J", true)
  | 17 => ("KrylovDeskModel", "b", "[J", true)
  | 18 => ("KrylovDeskModel", "t", "[J", true)
  | 19 => ("KrylovDeskModel", "degree", "I", false)
  | 20 => ("KrylovDeskModel", "solution", "[J", true)
  | _ => ("KrylovDeskModel", "solved", "Z", false)
def tyX5 : Nat → FieldType := fun k => match k with
  | 0 => .int
  | 1 => .int
  | 2 => .int
  | 3 => .array .int
  | 4 => .array .int
  | 5 => .array .long
  | 6 => .int
  | 7 => .array .long
  | 8 => .long
  | 9 => .int
  | 10 => .int
  | 11 => .array .long
  | 12 => .array .long
  | 13 => .array .long
  | 14 => .array .long
  | 15 => .boolean
  | 16 => .array .long
  | 17 => .array .long
  | 18 => .array .long
  | 19 => .int
  | 20 => .array .long
  | _ => .boolean
abbrev wsX50 : List Cond := u_ws RX5 TX5 22
theorem nmX5 : ∀ a, a < 22 → ∀ b, b < 22 → a ≠ b → (TX5 a).2.1 ≠ (TX5 b).2.1 := by decide +kernel
theorem tyX5_ok : ∀ k, k < 22 → parseFieldDescriptor (TX5 k).2.2.1 = some (tyX5 k) := by decide +kernel
abbrev cX5_init : ByteArray := prog_7_method_1_code
def yX5_init : MethodName := ⟨RX5, "<init>", "(III)V"⟩
abbrev cX5_isPrime : ByteArray := prog_7_method_3_code
def yX5_isPrime : MethodName := ⟨RX5, "isPrime", "(I)Z"⟩
abbrev cX5_within : ByteArray := prog_7_method_4_code
def yX5_within : MethodName := ⟨RX5, "within", "(J)J"⟩
abbrev cX5_forget : ByteArray := prog_7_method_5_code
def yX5_forget : MethodName := ⟨RX5, "forget", "()V"⟩
abbrev cX5_entry : ByteArray := prog_7_method_6_code
def yX5_entry : MethodName := ⟨RX5, "entry", "(III)I"⟩
abbrev cX5_side : ByteArray := prog_7_method_7_code
def yX5_side : MethodName := ⟨RX5, "side", "(II)I"⟩
abbrev cX5_seed : ByteArray := prog_7_method_8_code
def yX5_seed : MethodName := ⟨RX5, "seed", "(I)V"⟩
abbrev cX5_draw : ByteArray := prog_7_method_9_code
def yX5_draw : MethodName := ⟨RX5, "draw", "()J"⟩
abbrev cX5_product : ByteArray := prog_7_method_10_code
def yX5_product : MethodName := ⟨RX5, "product", "()V"⟩
abbrev cX5_power : ByteArray := prog_7_method_11_code
def yX5_power : MethodName := ⟨RX5, "power", "(JI)J"⟩
abbrev cX5_inverse : ByteArray := prog_7_method_12_code
def yX5_inverse : MethodName := ⟨RX5, "inverse", "(J)J"⟩
abbrev cX5_makeRow : ByteArray := prog_7_method_13_code
def yX5_makeRow : MethodName := ⟨RX5, "makeRow", "()V"⟩
abbrev cX5_recur : ByteArray := prog_7_method_14_code
def yX5_recur : MethodName := ⟨RX5, "recur", "()V"⟩
abbrev cX5_holds : ByteArray := prog_7_method_15_code
def yX5_holds : MethodName := ⟨RX5, "holds", "()Z"⟩
abbrev cX5_makeCandidate : ByteArray := prog_7_method_16_code
def yX5_makeCandidate : MethodName := ⟨RX5, "makeCandidate", "()V"⟩
abbrev cX5_attempt : ByteArray := prog_7_method_17_code
def yX5_attempt : MethodName := ⟨RX5, "attempt", "()I"⟩
abbrev cX5_solve : ByteArray := prog_7_method_18_code
def yX5_solve : MethodName := ⟨RX5, "solve", "(I)I"⟩
abbrev cX5_solution : ByteArray := prog_7_method_19_code
def yX5_solution : MethodName := ⟨RX5, "solution", "(I)I"⟩
abbrev cX5_degree : ByteArray := prog_7_method_20_code
def yX5_degree : MethodName := ⟨RX5, "degree", "()I"⟩
abbrev cX5_coefficient : ByteArray := prog_7_method_21_code
def yX5_coefficient : MethodName := ⟨RX5, "coefficient", "(I)I"⟩
abbrev cX5_number : ByteArray := prog_7_method_22_code
def yX5_number : MethodName := ⟨RX5, "number", "(I)I"⟩
abbrev cX5_verify : ByteArray := prog_7_method_23_code
def yX5_verify : MethodName := ⟨RX5, "verify", "()Z"⟩
abbrev cX5_products : ByteArray := prog_7_method_24_code
def yX5_products : MethodName := ⟨RX5, "products", "()I"⟩
abbrev cX5_count : ByteArray := prog_7_method_25_code
def yX5_count : MethodName := ⟨RX5, "count", "(I)I"⟩
def RJ9 : String := "java/lang/Math"
def TJ9 : u_T := fun k => match k with
  | _ => ("", "", "", false)
def tyJ9 : Nat → FieldType := fun k => match k with
  | _ => .int
abbrev wsJ90 : List Cond := u_ws RJ9 TJ9 0
theorem nmJ9 : ∀ a, a < 0 → ∀ b, b < 0 → a ≠ b → (TJ9 a).2.1 ≠ (TJ9 b).2.1 := by decide +kernel
theorem tyJ9_ok : ∀ k, k < 0 → parseFieldDescriptor (TJ9 k).2.2.1 = some (tyJ9 k) := by decide +kernel
abbrev cJ9_max_7cf53 : ByteArray := prog_8_method_65_code
def yJ9_max_7cf53 : MethodName := ⟨RJ9, "max", "(II)I"⟩
abbrev cJ9_min_7cf53 : ByteArray := prog_8_method_69_code
def yJ9_min_7cf53 : MethodName := ⟨RJ9, "min", "(II)I"⟩
def RJ10 : String := "java/lang/System"
def TJ10 : u_T := fun k => match k with
  | _ => ("", "", "", false)
def tyJ10 : Nat → FieldType := fun k => match k with
  | _ => .int
abbrev wsJ100 : List Cond := u_ws RJ10 TJ10 0
theorem nmJ10 : ∀ a, a < 0 → ∀ b, b < 0 → a ≠ b → (TJ10 a).2.1 ≠ (TJ10 b).2.1 := by decide +kernel
theorem tyJ10_ok : ∀ k, k < 0 → parseFieldDescriptor (TJ10 k).2.2.1 = some (tyJ10 k) := by decide +kernel
def RJ7 : String := "java/util/Arrays"
def TJ7 : u_T := fun k => match k with
  | _ => ("", "", "", false)
def tyJ7 : Nat → FieldType := fun k => match k with
  | _ => .int
abbrev wsJ70 : List Cond := u_ws RJ7 TJ7 0
theorem nmJ7 : ∀ a, a < 0 → ∀ b, b < 0 → a ≠ b → (TJ7 a).2.1 ≠ (TJ7 b).2.1 := by decide +kernel
theorem tyJ7_ok : ∀ k, k < 0 → parseFieldDescriptor (TJ7 k).2.2.1 = some (tyJ7 k) := by decide +kernel
abbrev cJ7_fill_53178 : ByteArray := prog_10_method_103_code
def yJ7_fill_53178 : MethodName := ⟨RJ7, "fill", "([II)V"⟩
def RL : String := "KrylovDeskLaw"
abbrev cL_cell : ByteArray := method_2_code
def yL_cell : MethodName := ⟨RL, "cell", "([II)I"⟩
abbrev cL_law : ByteArray := code
def yL_law : MethodName := ⟨RL, "law", "([I)Z"⟩
def wsX0_init : List Cond := .code yX0_init cX0_init 1 none :: ([.methodLink RX0 1 objectInit, .instanceMethod objectInit, .code objectInit ⟨#[0xb1]⟩ 1 none, .fieldLink RX0 7 "KrylovDesk$Generator" "state" "I"] ++ wsX00)
def wsX0_restart : List Cond := .code yX0_restart cX0_restart 2 none :: ([.constant RX0 13 (2147483647), .fieldLink RX0 7 "KrylovDesk$Generator" "state" "I"] ++ wsX00)
def wsX0_next : List Cond := .code yX0_next cX0_next 1 (some .int) :: ([.constant RX0 14 (1103515245), .fieldLink RX0 7 "KrylovDesk$Generator" "state" "I", .constant RX0 13 (2147483647), .constant RX0 15 (65536)] ++ wsX00)
def wsX1_init : List Cond := .code yX1_init cX1_init 4 none :: ([.methodLink RX1 1 objectInit, .instanceMethod objectInit, .code objectInit ⟨#[0xb1]⟩ 1 none, .fieldLink RX1 7 "KrylovDesk$Matrix" "modulus" "LKrylovDesk$Modulus;", .arrayClass .int, .fieldLink RX1 13 "KrylovDesk$Matrix" "rows" "[I", .fieldLink RX1 17 "KrylovDesk$Matrix" "columns" "[I", .fieldLink RX1 20 "KrylovDesk$Matrix" "values" "[I", .fieldLink RX1 23 "KrylovDesk$Matrix" "sums" "[I"] ++ wsX10)
def wsX1_isFull : List Cond := .code yX1_isFull cX1_isFull 1 (some .boolean) :: ([.fieldLink RX1 26 "KrylovDesk$Matrix" "held" "I", .fieldLink RX1 20 "KrylovDesk$Matrix" "values" "[I"] ++ wsX10)
def wsX1_put : List Cond := .code yX1_put cX1_put 4 none :: ([.fieldLink RX1 13 "KrylovDesk$Matrix" "rows" "[I", .fieldLink RX1 26 "KrylovDesk$Matrix" "held" "I", .fieldLink RX1 17 "KrylovDesk$Matrix" "columns" "[I", .fieldLink RX1 20 "KrylovDesk$Matrix" "values" "[I"] ++ wsX10)
def wsJ7_fill_53178 : List Cond := .code yJ7_fill_53178 cJ7_fill_53178 4 none :: ([])
def wsX2_plusProduct : List Cond := .code yX2_plusProduct cX2_plusProduct 4 (some .int) :: ([.fieldLink RX2 15 "KrylovDesk$Modulus" "prime" "I"] ++ wsX20)
def wsX1_apply : List Cond := .code yX1_apply cX1_apply 4 none :: ([.fieldLink RX1 30 "KrylovDesk$Matrix" "productsMade" "I", .fieldLink RX1 23 "KrylovDesk$Matrix" "sums" "[I", .fieldLink RX1 26 "KrylovDesk$Matrix" "held" "I", .fieldLink RX1 13 "KrylovDesk$Matrix" "rows" "[I", .fieldLink RX1 7 "KrylovDesk$Matrix" "modulus" "LKrylovDesk$Modulus;", .fieldLink RX1 20 "KrylovDesk$Matrix" "values" "[I", .fieldLink RX1 17 "KrylovDesk$Matrix" "columns" "[I", .methodLink RX1 45 arraycopyName, .native arraycopyName, .static arraycopyName, .initialized "java/lang/System", .methodLink RX1 33 yJ7_fill_53178, .static yJ7_fill_53178, .initialized RJ7, .code yJ7_fill_53178 cJ7_fill_53178 4 none, .methodLink RX1 39 yX2_plusProduct, .instanceMethod yX2_plusProduct, .selects RX2 yX2_plusProduct yX2_plusProduct, .initialized RX2, .code yX2_plusProduct cX2_plusProduct 4 (some .int), .fieldLink RX2 15 "KrylovDesk$Modulus" "prime" "I"] ++ wsX10 ++ wsX20)
def wsX2_init : List Cond := .code yX2_init cX2_init 2 none :: ([.methodLink RX2 3 objectInit, .instanceMethod objectInit, .code objectInit ⟨#[0xb1]⟩ 1 none, .methodLink RX2 9 Lib.Math.max.name, .static Lib.Math.max.name, .initialized "java/lang/Math", .code Lib.Math.max.name Lib.Math.max.code 2 (some .int), .fieldLink RX2 15 "KrylovDesk$Modulus" "prime" "I"] ++ wsX20)
def wsX2_reduce : List Cond := .code yX2_reduce cX2_reduce 3 (some .int) :: ([.fieldLink RX2 15 "KrylovDesk$Modulus" "prime" "I"] ++ wsX20)
def wsX2_negative : List Cond := .code yX2_negative cX2_negative 2 (some .int) :: ([.fieldLink RX2 15 "KrylovDesk$Modulus" "prime" "I"] ++ wsX20)
def wsX2_inverse : List Cond := .code yX2_inverse cX2_inverse 5 (some .int) :: ([.fieldLink RX2 15 "KrylovDesk$Modulus" "prime" "I", .methodLink RX2 21 yX2_plusProduct, .instanceMethod yX2_plusProduct, .selects RX2 yX2_plusProduct yX2_plusProduct, .initialized RX2, .code yX2_plusProduct cX2_plusProduct 4 (some .int)] ++ wsX20)
def wsX3_init : List Cond := .code yX3_init cX3_init 4 none :: ([.methodLink RX3 1 objectInit, .instanceMethod objectInit, .code objectInit ⟨#[0xb1]⟩ 1 none, .fieldLink RX3 7 "KrylovDesk$Recurrence" "modulus" "LKrylovDesk$Modulus;", .methodLink RX3 13 Lib.Math.max.name, .static Lib.Math.max.name, .initialized "java/lang/Math", .code Lib.Math.max.name Lib.Math.max.code 2 (some .int), .arrayClass .int, .fieldLink RX3 19 "KrylovDesk$Recurrence" "terms" "[I", .fieldLink RX3 23 "KrylovDesk$Recurrence" "olderTerms" "[I", .fieldLink RX3 26 "KrylovDesk$Recurrence" "keptTerms" "[I"] ++ wsX30)
def wsX3_term : List Cond := .code yX3_term cX3_term 2 (some .int) :: ([.fieldLink RX3 19 "KrylovDesk$Recurrence" "terms" "[I"] ++ wsX30)
def wsX3_lastTerm : List Cond := .code yX3_lastTerm cX3_lastTerm 1 (some .int) :: ([.fieldLink RX3 29 "KrylovDesk$Recurrence" "length" "I", .methodLink RX3 33 yX3_term, .instanceMethod yX3_term, .selects RX3 yX3_term yX3_term, .initialized RX3, .code yX3_term cX3_term 2 (some .int), .fieldLink RX3 19 "KrylovDesk$Recurrence" "terms" "[I"] ++ wsX30)
def wsX3_missAt : List Cond := .code yX3_missAt cX3_missAt 5 (some .int) :: ([.fieldLink RX3 29 "KrylovDesk$Recurrence" "length" "I", .fieldLink RX3 7 "KrylovDesk$Recurrence" "modulus" "LKrylovDesk$Modulus;", .methodLink RX3 33 yX3_term, .instanceMethod yX3_term, .selects RX3 yX3_term yX3_term, .initialized RX3, .code yX3_term cX3_term 2 (some .int), .fieldLink RX3 19 "KrylovDesk$Recurrence" "terms" "[I", .methodLink RX3 61 yX2_plusProduct, .instanceMethod yX2_plusProduct, .selects RX2 yX2_plusProduct yX2_plusProduct, .initialized RX2, .code yX2_plusProduct cX2_plusProduct 4 (some .int), .fieldLink RX2 15 "KrylovDesk$Modulus" "prime" "I"] ++ wsX30 ++ wsX20)
def wsX3_subtractOlder : List Cond := .code yX3_subtractOlder cX3_subtractOlder 4 none :: ([.fieldLink RX3 7 "KrylovDesk$Recurrence" "modulus" "LKrylovDesk$Modulus;", .fieldLink RX3 43 "KrylovDesk$Recurrence" "shift" "I", .fieldLink RX3 19 "KrylovDesk$Recurrence" "terms" "[I", .fieldLink RX3 23 "KrylovDesk$Recurrence" "olderTerms" "[I", .methodLink RX3 75 yX2_negative, .instanceMethod yX2_negative, .selects RX2 yX2_negative yX2_negative, .initialized RX2, .code yX2_negative cX2_negative 2 (some .int), .fieldLink RX2 15 "KrylovDesk$Modulus" "prime" "I", .methodLink RX3 61 yX2_plusProduct, .instanceMethod yX2_plusProduct, .selects RX2 yX2_plusProduct yX2_plusProduct, .code yX2_plusProduct cX2_plusProduct 4 (some .int)] ++ wsX30 ++ wsX20)
def wsX3_learn_r1 : List Cond := [Cond.fieldLink RX3 43 "KrylovDesk$Recurrence" "shift" "I", Cond.fieldLink RX3 7 "KrylovDesk$Recurrence" "modulus" "LKrylovDesk$Modulus;", Cond.fieldLink RX3 46 "KrylovDesk$Recurrence" "olderMiss" "I", Cond.fieldLink RX3 19 "KrylovDesk$Recurrence" "terms" "[I", Cond.fieldLink RX3 26 "KrylovDesk$Recurrence" "keptTerms" "[I", Cond.methodLink RX3 65 arraycopyName, Cond.native arraycopyName, Cond.static arraycopyName, Cond.initialized "java/lang/System", Cond.fieldLink RX3 29 "KrylovDesk$Recurrence" "length" "I", Cond.fieldLink RX3 23 "KrylovDesk$Recurrence" "olderTerms" "[I", Cond.methodLink RX3 52 yX3_missAt, Cond.instanceMethod yX3_missAt, Cond.selects RX3 yX3_missAt yX3_missAt, Cond.initialized RX3, Cond.code yX3_missAt cX3_missAt 5 (some .int), Cond.methodLink RX3 33 yX3_term, Cond.instanceMethod yX3_term, Cond.selects RX3 yX3_term yX3_term, Cond.code yX3_term cX3_term 2 (some .int), Cond.methodLink RX3 61 yX2_plusProduct, Cond.instanceMethod yX2_plusProduct, Cond.selects RX2 yX2_plusProduct yX2_plusProduct, Cond.initialized RX2]
def wsX3_learn_r2 : List Cond := [Cond.code yX2_plusProduct cX2_plusProduct 4 (some .int), Cond.fieldLink RX2 15 "KrylovDesk$Modulus" "prime" "I", Cond.methodLink RX3 56 yX2_inverse, Cond.instanceMethod yX2_inverse, Cond.selects RX2 yX2_inverse yX2_inverse, Cond.code yX2_inverse cX2_inverse 5 (some .int), Cond.methodLink RX2 21 yX2_plusProduct, Cond.methodLink RX3 71 yX3_subtractOlder, Cond.instanceMethod yX3_subtractOlder, Cond.selects RX3 yX3_subtractOlder yX3_subtractOlder, Cond.code yX3_subtractOlder cX3_subtractOlder 4 none, Cond.methodLink RX3 75 yX2_negative, Cond.instanceMethod yX2_negative, Cond.selects RX2 yX2_negative yX2_negative, Cond.code yX2_negative cX2_negative 2 (some .int)]
def wsX3_learn : List Cond := .code yX3_learn cX3_learn 5 none :: ((wsX3_learn_r1 ++ wsX3_learn_r2) ++ wsX30 ++ wsX20)
def wsX3_find_r1 : List Cond := [Cond.fieldLink RX3 19 "KrylovDesk$Recurrence" "terms" "[I", Cond.fieldLink RX3 23 "KrylovDesk$Recurrence" "olderTerms" "[I", Cond.fieldLink RX3 29 "KrylovDesk$Recurrence" "length" "I", Cond.fieldLink RX3 43 "KrylovDesk$Recurrence" "shift" "I", Cond.fieldLink RX3 46 "KrylovDesk$Recurrence" "olderMiss" "I", Cond.methodLink RX3 37 yJ7_fill_53178, Cond.static yJ7_fill_53178, Cond.initialized RJ7, Cond.code yJ7_fill_53178 cJ7_fill_53178 4 none, Cond.methodLink RX3 49 yX3_learn, Cond.instanceMethod yX3_learn, Cond.selects RX3 yX3_learn yX3_learn, Cond.initialized RX3, Cond.code yX3_learn cX3_learn 5 none, Cond.fieldLink RX3 7 "KrylovDesk$Recurrence" "modulus" "LKrylovDesk$Modulus;", Cond.fieldLink RX3 26 "KrylovDesk$Recurrence" "keptTerms" "[I", Cond.methodLink RX3 65 arraycopyName, Cond.native arraycopyName, Cond.static arraycopyName, Cond.initialized "java/lang/System", Cond.methodLink RX3 52 yX3_missAt, Cond.instanceMethod yX3_missAt, Cond.selects RX3 yX3_missAt yX3_missAt, Cond.code yX3_missAt cX3_missAt 5 (some .int)]
def wsX3_find_r2 : List Cond := [Cond.methodLink RX3 33 yX3_term, Cond.instanceMethod yX3_term, Cond.selects RX3 yX3_term yX3_term, Cond.code yX3_term cX3_term 2 (some .int), Cond.methodLink RX3 61 yX2_plusProduct, Cond.instanceMethod yX2_plusProduct, Cond.selects RX2 yX2_plusProduct yX2_plusProduct, Cond.initialized RX2, Cond.code yX2_plusProduct cX2_plusProduct 4 (some .int), Cond.fieldLink RX2 15 "KrylovDesk$Modulus" "prime" "I", Cond.methodLink RX3 56 yX2_inverse, Cond.instanceMethod yX2_inverse, Cond.selects RX2 yX2_inverse yX2_inverse, Cond.code yX2_inverse cX2_inverse 5 (some .int), Cond.methodLink RX2 21 yX2_plusProduct, Cond.methodLink RX3 71 yX3_subtractOlder, Cond.instanceMethod yX3_subtractOlder, Cond.selects RX3 yX3_subtractOlder yX3_subtractOlder, Cond.code yX3_subtractOlder cX3_subtractOlder 4 none, Cond.methodLink RX3 75 yX2_negative, Cond.instanceMethod yX2_negative, Cond.selects RX2 yX2_negative yX2_negative, Cond.code yX2_negative cX2_negative 2 (some .int)]
def wsX3_find : List Cond := .code yX3_find cX3_find 3 none :: ((wsX3_find_r1 ++ wsX3_find_r2) ++ wsX30 ++ wsX20)
def wsX4_broughtWithin : List Cond := .code yX4_broughtWithin cX4_broughtWithin 3 (some .int) :: ([.methodLink RX4 177 Lib.Math.min.name, .static Lib.Math.min.name, .initialized "java/lang/Math", .code Lib.Math.min.name Lib.Math.min.code 2 (some .int), .methodLink RX4 183 Lib.Math.max.name, .static Lib.Math.max.name, .code Lib.Math.max.name Lib.Math.max.code 2 (some .int)])
def wsX4_isPrime : List Cond := .code yX4_isPrime cX4_isPrime 2 (some .boolean) :: ([])
def wsX4_leastPrimeFrom : List Cond := .code yX4_leastPrimeFrom cX4_leastPrimeFrom 2 (some .int) :: ([.constant RX4 19 (46337), .methodLink RX4 186 yX4_isPrime, .static yX4_isPrime, .initialized RX4, .code yX4_isPrime cX4_isPrime 2 (some .boolean)])
def wsX4_init_r1 : List Cond := [Cond.methodLink RX4 1 objectInit, Cond.instanceMethod objectInit, Cond.code objectInit ⟨#[0xb1]⟩ 1 none, Cond.fieldLink RX4 13 "KrylovDesk" "size" "I", Cond.classLink RX4 17 RX2, Cond.instantiable RX2 1, Cond.initialized RX2, Cond.constant RX4 19 (46337), Cond.fieldLink RX4 27 "KrylovDesk" "modulus" "LKrylovDesk$Modulus;", Cond.classLink RX4 31 RX1, Cond.instantiable RX1 7, Cond.initialized RX1, Cond.fieldLink RX4 36 "KrylovDesk" "matrix" "LKrylovDesk$Matrix;", Cond.classLink RX4 40 RX0, Cond.instantiable RX0 1, Cond.initialized RX0, Cond.fieldLink RX4 43 "KrylovDesk" "generator" "LKrylovDesk$Generator;", Cond.classLink RX4 47 RX3, Cond.instantiable RX3 7, Cond.initialized RX3, Cond.fieldLink RX4 52 "KrylovDesk" "recurrence" "LKrylovDesk$Recurrence;", Cond.arrayClass .int, Cond.fieldLink RX4 56 "KrylovDesk" "right" "[I", Cond.fieldLink RX4 60 "KrylovDesk" "chance" "[I"]
def wsX4_init_r2 : List Cond := [Cond.fieldLink RX4 63 "KrylovDesk" "work" "[I", Cond.fieldLink RX4 66 "KrylovDesk" "numbers" "[I", Cond.fieldLink RX4 69 "KrylovDesk" "answer" "[I", Cond.methodLink RX4 9 yX4_broughtWithin, Cond.static yX4_broughtWithin, Cond.initialized RX4, Cond.code yX4_broughtWithin cX4_broughtWithin 3 (some .int), Cond.methodLink RX4 177 Lib.Math.min.name, Cond.static Lib.Math.min.name, Cond.initialized "java/lang/Math", Cond.code Lib.Math.min.name Lib.Math.min.code 2 (some .int), Cond.methodLink RX4 183 Lib.Math.max.name, Cond.static Lib.Math.max.name, Cond.code Lib.Math.max.name Lib.Math.max.code 2 (some .int), Cond.methodLink RX4 20 yX4_leastPrimeFrom, Cond.static yX4_leastPrimeFrom, Cond.code yX4_leastPrimeFrom cX4_leastPrimeFrom 2 (some .int), Cond.methodLink RX4 186 yX4_isPrime, Cond.static yX4_isPrime, Cond.code yX4_isPrime cX4_isPrime 2 (some .boolean), Cond.methodLink RX4 24 yX2_init, Cond.instanceMethod yX2_init, Cond.code yX2_init cX2_init 2 none, Cond.methodLink RX2 3 objectInit]
def wsX4_init_r3 : List Cond := [Cond.methodLink RX2 9 Lib.Math.max.name, Cond.fieldLink RX2 15 "KrylovDesk$Modulus" "prime" "I", Cond.methodLink RX4 33 yX1_init, Cond.instanceMethod yX1_init, Cond.code yX1_init cX1_init 4 none, Cond.methodLink RX1 1 objectInit, Cond.fieldLink RX1 7 "KrylovDesk$Matrix" "modulus" "LKrylovDesk$Modulus;", Cond.fieldLink RX1 13 "KrylovDesk$Matrix" "rows" "[I", Cond.fieldLink RX1 17 "KrylovDesk$Matrix" "columns" "[I", Cond.fieldLink RX1 20 "KrylovDesk$Matrix" "values" "[I", Cond.fieldLink RX1 23 "KrylovDesk$Matrix" "sums" "[I", Cond.instanceMethod yX0_init, Cond.code yX0_init cX0_init 1 none, Cond.methodLink RX0 1 objectInit, Cond.fieldLink RX0 7 "KrylovDesk$Generator" "state" "I", Cond.methodLink RX4 49 yX3_init, Cond.instanceMethod yX3_init, Cond.code yX3_init cX3_init 4 none, Cond.methodLink RX3 1 objectInit, Cond.fieldLink RX3 7 "KrylovDesk$Recurrence" "modulus" "LKrylovDesk$Modulus;", Cond.methodLink RX3 13 Lib.Math.max.name, Cond.fieldLink RX3 19 "KrylovDesk$Recurrence" "terms" "[I", Cond.fieldLink RX3 23 "KrylovDesk$Recurrence" "olderTerms" "[I", Cond.fieldLink RX3 26 "KrylovDesk$Recurrence" "keptTerms" "[I"]
def wsX4_init : List Cond := .code yX4_init cX4_init 4 none :: ((wsX4_init_r1 ++ (wsX4_init_r2 ++ wsX4_init_r3)) ++ wsX40 ++ wsX20 ++ wsX10 ++ wsX00 ++ wsX30)
def wsX4_isPlace : List Cond := .code yX4_isPlace cX4_isPlace 2 (some .boolean) :: ([.fieldLink RX4 13 "KrylovDesk" "size" "I"] ++ wsX40)
def wsX4_forgetResults : List Cond := .code yX4_forgetResults cX4_forgetResults 1 none :: ([.fieldLink RX4 110 "KrylovDesk" "rowStands" "Z", .fieldLink RX4 96 "KrylovDesk" "answerStands" "Z"] ++ wsX40)
def wsX4_entry_r1 : List Cond := [Cond.fieldLink RX4 36 "KrylovDesk" "matrix" "LKrylovDesk$Matrix;", Cond.fieldLink RX4 27 "KrylovDesk" "modulus" "LKrylovDesk$Modulus;", Cond.methodLink RX4 72 yX4_isPlace, Cond.instanceMethod yX4_isPlace, Cond.selects RX4 yX4_isPlace yX4_isPlace, Cond.initialized RX4, Cond.code yX4_isPlace cX4_isPlace 2 (some .boolean), Cond.fieldLink RX4 13 "KrylovDesk" "size" "I", Cond.methodLink RX4 76 yX1_isFull, Cond.instanceMethod yX1_isFull, Cond.selects RX1 yX1_isFull yX1_isFull, Cond.initialized RX1, Cond.code yX1_isFull cX1_isFull 1 (some .boolean), Cond.fieldLink RX1 26 "KrylovDesk$Matrix" "held" "I", Cond.fieldLink RX1 20 "KrylovDesk$Matrix" "values" "[I", Cond.methodLink RX4 80 yX2_reduce, Cond.instanceMethod yX2_reduce, Cond.selects RX2 yX2_reduce yX2_reduce, Cond.initialized RX2, Cond.code yX2_reduce cX2_reduce 3 (some .int), Cond.fieldLink RX2 15 "KrylovDesk$Modulus" "prime" "I", Cond.methodLink RX4 83 yX1_put, Cond.instanceMethod yX1_put, Cond.selects RX1 yX1_put yX1_put]
def wsX4_entry_r2 : List Cond := [Cond.code yX1_put cX1_put 4 none, Cond.fieldLink RX1 13 "KrylovDesk$Matrix" "rows" "[I", Cond.fieldLink RX1 17 "KrylovDesk$Matrix" "columns" "[I", Cond.methodLink RX4 87 yX4_forgetResults, Cond.instanceMethod yX4_forgetResults, Cond.selects RX4 yX4_forgetResults yX4_forgetResults, Cond.code yX4_forgetResults cX4_forgetResults 1 none, Cond.fieldLink RX4 110 "KrylovDesk" "rowStands" "Z", Cond.fieldLink RX4 96 "KrylovDesk" "answerStands" "Z"]
def wsX4_entry : List Cond := .code yX4_entry cX4_entry 4 (some .int) :: ((wsX4_entry_r1 ++ wsX4_entry_r2) ++ wsX40 ++ wsX10 ++ wsX20)
def wsX4_side : List Cond := .code yX4_side cX4_side 3 (some .int) :: ([.fieldLink RX4 56 "KrylovDesk" "right" "[I", .fieldLink RX4 27 "KrylovDesk" "modulus" "LKrylovDesk$Modulus;", .methodLink RX4 72 yX4_isPlace, .instanceMethod yX4_isPlace, .selects RX4 yX4_isPlace yX4_isPlace, .initialized RX4, .code yX4_isPlace cX4_isPlace 2 (some .boolean), .fieldLink RX4 13 "KrylovDesk" "size" "I", .methodLink RX4 80 yX2_reduce, .instanceMethod yX2_reduce, .selects RX2 yX2_reduce yX2_reduce, .initialized RX2, .code yX2_reduce cX2_reduce 3 (some .int), .fieldLink RX2 15 "KrylovDesk$Modulus" "prime" "I", .methodLink RX4 87 yX4_forgetResults, .instanceMethod yX4_forgetResults, .selects RX4 yX4_forgetResults yX4_forgetResults, .code yX4_forgetResults cX4_forgetResults 1 none, .fieldLink RX4 110 "KrylovDesk" "rowStands" "Z", .fieldLink RX4 96 "KrylovDesk" "answerStands" "Z"] ++ wsX40 ++ wsX20)
def wsX4_seed : List Cond := .code yX4_seed cX4_seed 2 none :: ([.fieldLink RX4 43 "KrylovDesk" "generator" "LKrylovDesk$Generator;", .methodLink RX4 90 yX0_restart, .instanceMethod yX0_restart, .selects RX0 yX0_restart yX0_restart, .initialized RX0, .code yX0_restart cX0_restart 2 none, .constant RX0 13 (2147483647), .fieldLink RX0 7 "KrylovDesk$Generator" "state" "I"] ++ wsX40 ++ wsX00)
def wsX4_drawChance : List Cond := .code yX4_drawChance cX4_drawChance 2 none :: ([.fieldLink RX4 13 "KrylovDesk" "size" "I", .fieldLink RX4 60 "KrylovDesk" "chance" "[I", .fieldLink RX4 27 "KrylovDesk" "modulus" "LKrylovDesk$Modulus;", .fieldLink RX4 43 "KrylovDesk" "generator" "LKrylovDesk$Generator;", .methodLink RX4 144 yX0_next, .instanceMethod yX0_next, .selects RX0 yX0_next yX0_next, .initialized RX0, .code yX0_next cX0_next 1 (some .int), .constant RX0 14 (1103515245), .fieldLink RX0 7 "KrylovDesk$Generator" "state" "I", .constant RX0 13 (2147483647), .constant RX0 15 (65536), .methodLink RX4 80 yX2_reduce, .instanceMethod yX2_reduce, .selects RX2 yX2_reduce yX2_reduce, .initialized RX2, .code yX2_reduce cX2_reduce 3 (some .int), .fieldLink RX2 15 "KrylovDesk$Modulus" "prime" "I"] ++ wsX40 ++ wsX00 ++ wsX20)
def wsX4_chanceTimesWork : List Cond := .code yX4_chanceTimesWork cX4_chanceTimesWork 3 (some .int) :: ([.fieldLink RX4 13 "KrylovDesk" "size" "I", .fieldLink RX4 27 "KrylovDesk" "modulus" "LKrylovDesk$Modulus;", .fieldLink RX4 60 "KrylovDesk" "chance" "[I", .fieldLink RX4 63 "KrylovDesk" "work" "[I", .methodLink RX4 159 yX2_plusProduct, .instanceMethod yX2_plusProduct, .selects RX2 yX2_plusProduct yX2_plusProduct, .initialized RX2, .code yX2_plusProduct cX2_plusProduct 4 (some .int), .fieldLink RX2 15 "KrylovDesk$Modulus" "prime" "I"] ++ wsX40 ++ wsX20)
def wsX4_fillRow_r1 : List Cond := [Cond.fieldLink RX4 56 "KrylovDesk" "right" "[I", Cond.fieldLink RX4 63 "KrylovDesk" "work" "[I", Cond.fieldLink RX4 13 "KrylovDesk" "size" "I", Cond.methodLink RX4 147 arraycopyName, Cond.native arraycopyName, Cond.static arraycopyName, Cond.initialized "java/lang/System", Cond.fieldLink RX4 66 "KrylovDesk" "numbers" "[I", Cond.fieldLink RX4 36 "KrylovDesk" "matrix" "LKrylovDesk$Matrix;", Cond.methodLink RX4 153 yX4_chanceTimesWork, Cond.instanceMethod yX4_chanceTimesWork, Cond.selects RX4 yX4_chanceTimesWork yX4_chanceTimesWork, Cond.initialized RX4, Cond.code yX4_chanceTimesWork cX4_chanceTimesWork 3 (some .int), Cond.fieldLink RX4 27 "KrylovDesk" "modulus" "LKrylovDesk$Modulus;", Cond.fieldLink RX4 60 "KrylovDesk" "chance" "[I", Cond.methodLink RX4 159 yX2_plusProduct, Cond.instanceMethod yX2_plusProduct, Cond.selects RX2 yX2_plusProduct yX2_plusProduct, Cond.initialized RX2, Cond.code yX2_plusProduct cX2_plusProduct 4 (some .int), Cond.fieldLink RX2 15 "KrylovDesk$Modulus" "prime" "I", Cond.methodLink RX4 156 yX1_apply, Cond.instanceMethod yX1_apply]
def wsX4_fillRow_r2 : List Cond := [Cond.selects RX1 yX1_apply yX1_apply, Cond.initialized RX1, Cond.code yX1_apply cX1_apply 4 none, Cond.fieldLink RX1 30 "KrylovDesk$Matrix" "productsMade" "I", Cond.fieldLink RX1 23 "KrylovDesk$Matrix" "sums" "[I", Cond.fieldLink RX1 26 "KrylovDesk$Matrix" "held" "I", Cond.fieldLink RX1 13 "KrylovDesk$Matrix" "rows" "[I", Cond.fieldLink RX1 7 "KrylovDesk$Matrix" "modulus" "LKrylovDesk$Modulus;", Cond.fieldLink RX1 20 "KrylovDesk$Matrix" "values" "[I", Cond.fieldLink RX1 17 "KrylovDesk$Matrix" "columns" "[I", Cond.methodLink RX1 45 arraycopyName, Cond.methodLink RX1 33 yJ7_fill_53178, Cond.static yJ7_fill_53178, Cond.initialized RJ7, Cond.code yJ7_fill_53178 cJ7_fill_53178 4 none, Cond.methodLink RX1 39 yX2_plusProduct]
def wsX4_fillRow : List Cond := .code yX4_fillRow cX4_fillRow 2 none :: ((wsX4_fillRow_r1 ++ wsX4_fillRow_r2) ++ wsX40 ++ wsX20 ++ wsX10)
def wsX4_addRightToWork : List Cond := .code yX4_addRightToWork cX4_addRightToWork 3 none :: ([.fieldLink RX4 13 "KrylovDesk" "size" "I", .fieldLink RX4 63 "KrylovDesk" "work" "[I", .fieldLink RX4 27 "KrylovDesk" "modulus" "LKrylovDesk$Modulus;", .fieldLink RX4 56 "KrylovDesk" "right" "[I", .methodLink RX4 159 yX2_plusProduct, .instanceMethod yX2_plusProduct, .selects RX2 yX2_plusProduct yX2_plusProduct, .initialized RX2, .code yX2_plusProduct cX2_plusProduct 4 (some .int), .fieldLink RX2 15 "KrylovDesk$Modulus" "prime" "I"] ++ wsX40 ++ wsX20)
def wsX4_makeCandidate_r1 : List Cond := [Cond.fieldLink RX4 52 "KrylovDesk" "recurrence" "LKrylovDesk$Recurrence;", Cond.fieldLink RX4 113 "KrylovDesk$Recurrence" "length" "I", Cond.fieldLink RX4 69 "KrylovDesk" "answer" "[I", Cond.fieldLink RX4 56 "KrylovDesk" "right" "[I", Cond.fieldLink RX4 63 "KrylovDesk" "work" "[I", Cond.fieldLink RX4 13 "KrylovDesk" "size" "I", Cond.methodLink RX4 147 arraycopyName, Cond.native arraycopyName, Cond.static arraycopyName, Cond.initialized "java/lang/System", Cond.fieldLink RX4 36 "KrylovDesk" "matrix" "LKrylovDesk$Matrix;", Cond.fieldLink RX4 27 "KrylovDesk" "modulus" "LKrylovDesk$Modulus;", Cond.methodLink RX4 162 yJ7_fill_53178, Cond.static yJ7_fill_53178, Cond.initialized RJ7, Cond.code yJ7_fill_53178 cJ7_fill_53178 4 none, Cond.methodLink RX4 156 yX1_apply, Cond.instanceMethod yX1_apply, Cond.selects RX1 yX1_apply yX1_apply, Cond.initialized RX1, Cond.code yX1_apply cX1_apply 4 none, Cond.fieldLink RX1 30 "KrylovDesk$Matrix" "productsMade" "I", Cond.fieldLink RX1 23 "KrylovDesk$Matrix" "sums" "[I", Cond.fieldLink RX1 26 "KrylovDesk$Matrix" "held" "I"]
def wsX4_makeCandidate_r2 : List Cond := [Cond.fieldLink RX1 13 "KrylovDesk$Matrix" "rows" "[I", Cond.fieldLink RX1 7 "KrylovDesk$Matrix" "modulus" "LKrylovDesk$Modulus;", Cond.fieldLink RX1 20 "KrylovDesk$Matrix" "values" "[I", Cond.fieldLink RX1 17 "KrylovDesk$Matrix" "columns" "[I", Cond.methodLink RX1 45 arraycopyName, Cond.methodLink RX1 33 yJ7_fill_53178, Cond.methodLink RX1 39 yX2_plusProduct, Cond.instanceMethod yX2_plusProduct, Cond.selects RX2 yX2_plusProduct yX2_plusProduct, Cond.initialized RX2, Cond.code yX2_plusProduct cX2_plusProduct 4 (some .int), Cond.fieldLink RX2 15 "KrylovDesk$Modulus" "prime" "I", Cond.methodLink RX4 129 yX3_term, Cond.instanceMethod yX3_term, Cond.selects RX3 yX3_term yX3_term, Cond.initialized RX3, Cond.code yX3_term cX3_term 2 (some .int), Cond.fieldLink RX3 19 "KrylovDesk$Recurrence" "terms" "[I", Cond.methodLink RX4 168 yX4_addRightToWork, Cond.instanceMethod yX4_addRightToWork, Cond.selects RX4 yX4_addRightToWork yX4_addRightToWork, Cond.initialized RX4, Cond.code yX4_addRightToWork cX4_addRightToWork 3 none, Cond.methodLink RX4 159 yX2_plusProduct]
def wsX4_makeCandidate_r3 : List Cond := [Cond.methodLink RX4 116 yX3_lastTerm, Cond.instanceMethod yX3_lastTerm, Cond.selects RX3 yX3_lastTerm yX3_lastTerm, Cond.code yX3_lastTerm cX3_lastTerm 1 (some .int), Cond.fieldLink RX3 29 "KrylovDesk$Recurrence" "length" "I", Cond.methodLink RX3 33 yX3_term, Cond.methodLink RX4 171 yX2_negative, Cond.instanceMethod yX2_negative, Cond.selects RX2 yX2_negative yX2_negative, Cond.code yX2_negative cX2_negative 2 (some .int), Cond.methodLink RX4 174 yX2_inverse, Cond.instanceMethod yX2_inverse, Cond.selects RX2 yX2_inverse yX2_inverse, Cond.code yX2_inverse cX2_inverse 5 (some .int), Cond.methodLink RX2 21 yX2_plusProduct]
def wsX4_makeCandidate : List Cond := .code yX4_makeCandidate cX4_makeCandidate 3 none :: ((wsX4_makeCandidate_r1 ++ (wsX4_makeCandidate_r2 ++ wsX4_makeCandidate_r3)) ++ wsX40 ++ wsX30 ++ wsX10 ++ wsX20)
def wsX4_answerMeetsRight_r1 : List Cond := [Cond.fieldLink RX4 69 "KrylovDesk" "answer" "[I", Cond.fieldLink RX4 63 "KrylovDesk" "work" "[I", Cond.fieldLink RX4 13 "KrylovDesk" "size" "I", Cond.methodLink RX4 147 arraycopyName, Cond.native arraycopyName, Cond.static arraycopyName, Cond.initialized "java/lang/System", Cond.fieldLink RX4 36 "KrylovDesk" "matrix" "LKrylovDesk$Matrix;", Cond.fieldLink RX4 56 "KrylovDesk" "right" "[I", Cond.methodLink RX4 156 yX1_apply, Cond.instanceMethod yX1_apply, Cond.selects RX1 yX1_apply yX1_apply, Cond.initialized RX1, Cond.code yX1_apply cX1_apply 4 none, Cond.fieldLink RX1 30 "KrylovDesk$Matrix" "productsMade" "I", Cond.fieldLink RX1 23 "KrylovDesk$Matrix" "sums" "[I", Cond.fieldLink RX1 26 "KrylovDesk$Matrix" "held" "I", Cond.fieldLink RX1 13 "KrylovDesk$Matrix" "rows" "[I", Cond.fieldLink RX1 7 "KrylovDesk$Matrix" "modulus" "LKrylovDesk$Modulus;", Cond.fieldLink RX1 20 "KrylovDesk$Matrix" "values" "[I", Cond.fieldLink RX1 17 "KrylovDesk$Matrix" "columns" "[I", Cond.methodLink RX1 45 arraycopyName, Cond.methodLink RX1 33 yJ7_fill_53178, Cond.static yJ7_fill_53178]
def wsX4_answerMeetsRight_r2 : List Cond := [Cond.initialized RJ7, Cond.code yJ7_fill_53178 cJ7_fill_53178 4 none, Cond.methodLink RX1 39 yX2_plusProduct, Cond.instanceMethod yX2_plusProduct, Cond.selects RX2 yX2_plusProduct yX2_plusProduct, Cond.initialized RX2, Cond.code yX2_plusProduct cX2_plusProduct 4 (some .int), Cond.fieldLink RX2 15 "KrylovDesk$Modulus" "prime" "I"]
def wsX4_answerMeetsRight : List Cond := .code yX4_answerMeetsRight cX4_answerMeetsRight 2 (some .boolean) :: ((wsX4_answerMeetsRight_r1 ++ wsX4_answerMeetsRight_r2) ++ wsX40 ++ wsX10 ++ wsX20)
def wsX4_attempt_r1 : List Cond := [Cond.fieldLink RX4 93 "KrylovDesk" "attemptsMade" "I", Cond.fieldLink RX4 96 "KrylovDesk" "answerStands" "Z", Cond.fieldLink RX4 52 "KrylovDesk" "recurrence" "LKrylovDesk$Recurrence;", Cond.fieldLink RX4 66 "KrylovDesk" "numbers" "[I", Cond.fieldLink RX4 110 "KrylovDesk" "rowStands" "Z", Cond.fieldLink RX4 113 "KrylovDesk$Recurrence" "length" "I", Cond.methodLink RX4 100 yX4_drawChance, Cond.instanceMethod yX4_drawChance, Cond.selects RX4 yX4_drawChance yX4_drawChance, Cond.initialized RX4, Cond.code yX4_drawChance cX4_drawChance 2 none, Cond.fieldLink RX4 13 "KrylovDesk" "size" "I", Cond.fieldLink RX4 60 "KrylovDesk" "chance" "[I", Cond.fieldLink RX4 27 "KrylovDesk" "modulus" "LKrylovDesk$Modulus;", Cond.fieldLink RX4 43 "KrylovDesk" "generator" "LKrylovDesk$Generator;", Cond.methodLink RX4 144 yX0_next, Cond.instanceMethod yX0_next, Cond.selects RX0 yX0_next yX0_next, Cond.initialized RX0, Cond.code yX0_next cX0_next 1 (some .int), Cond.constant RX0 14 (1103515245), Cond.fieldLink RX0 7 "KrylovDesk$Generator" "state" "I", Cond.constant RX0 13 (2147483647), Cond.constant RX0 15 (65536)]
def wsX4_attempt_r2 : List Cond := [Cond.methodLink RX4 80 yX2_reduce, Cond.instanceMethod yX2_reduce, Cond.selects RX2 yX2_reduce yX2_reduce, Cond.initialized RX2, Cond.code yX2_reduce cX2_reduce 3 (some .int), Cond.fieldLink RX2 15 "KrylovDesk$Modulus" "prime" "I", Cond.methodLink RX4 103 yX4_fillRow, Cond.instanceMethod yX4_fillRow, Cond.selects RX4 yX4_fillRow yX4_fillRow, Cond.code yX4_fillRow cX4_fillRow 2 none, Cond.fieldLink RX4 56 "KrylovDesk" "right" "[I", Cond.fieldLink RX4 63 "KrylovDesk" "work" "[I", Cond.methodLink RX4 147 arraycopyName, Cond.native arraycopyName, Cond.static arraycopyName, Cond.initialized "java/lang/System", Cond.fieldLink RX4 36 "KrylovDesk" "matrix" "LKrylovDesk$Matrix;", Cond.methodLink RX4 153 yX4_chanceTimesWork, Cond.instanceMethod yX4_chanceTimesWork, Cond.selects RX4 yX4_chanceTimesWork yX4_chanceTimesWork, Cond.code yX4_chanceTimesWork cX4_chanceTimesWork 3 (some .int), Cond.methodLink RX4 159 yX2_plusProduct, Cond.instanceMethod yX2_plusProduct, Cond.selects RX2 yX2_plusProduct yX2_plusProduct]
def wsX4_attempt_r3 : List Cond := [Cond.code yX2_plusProduct cX2_plusProduct 4 (some .int), Cond.methodLink RX4 156 yX1_apply, Cond.instanceMethod yX1_apply, Cond.selects RX1 yX1_apply yX1_apply, Cond.initialized RX1, Cond.code yX1_apply cX1_apply 4 none, Cond.fieldLink RX1 30 "KrylovDesk$Matrix" "productsMade" "I", Cond.fieldLink RX1 23 "KrylovDesk$Matrix" "sums" "[I", Cond.fieldLink RX1 26 "KrylovDesk$Matrix" "held" "I", Cond.fieldLink RX1 13 "KrylovDesk$Matrix" "rows" "[I", Cond.fieldLink RX1 7 "KrylovDesk$Matrix" "modulus" "LKrylovDesk$Modulus;", Cond.fieldLink RX1 20 "KrylovDesk$Matrix" "values" "[I", Cond.fieldLink RX1 17 "KrylovDesk$Matrix" "columns" "[I", Cond.methodLink RX1 45 arraycopyName, Cond.methodLink RX1 33 yJ7_fill_53178, Cond.static yJ7_fill_53178, Cond.initialized RJ7, Cond.code yJ7_fill_53178 cJ7_fill_53178 4 none, Cond.methodLink RX1 39 yX2_plusProduct, Cond.methodLink RX4 106 yX3_find, Cond.instanceMethod yX3_find, Cond.selects RX3 yX3_find yX3_find, Cond.initialized RX3, Cond.code yX3_find cX3_find 3 none]
def wsX4_attempt_r4 : List Cond := [Cond.fieldLink RX3 19 "KrylovDesk$Recurrence" "terms" "[I", Cond.fieldLink RX3 23 "KrylovDesk$Recurrence" "olderTerms" "[I", Cond.fieldLink RX3 29 "KrylovDesk$Recurrence" "length" "I", Cond.fieldLink RX3 43 "KrylovDesk$Recurrence" "shift" "I", Cond.fieldLink RX3 46 "KrylovDesk$Recurrence" "olderMiss" "I", Cond.methodLink RX3 37 yJ7_fill_53178, Cond.methodLink RX3 49 yX3_learn, Cond.instanceMethod yX3_learn, Cond.selects RX3 yX3_learn yX3_learn, Cond.code yX3_learn cX3_learn 5 none, Cond.fieldLink RX3 7 "KrylovDesk$Recurrence" "modulus" "LKrylovDesk$Modulus;", Cond.fieldLink RX3 26 "KrylovDesk$Recurrence" "keptTerms" "[I", Cond.methodLink RX3 65 arraycopyName, Cond.methodLink RX3 52 yX3_missAt, Cond.instanceMethod yX3_missAt, Cond.selects RX3 yX3_missAt yX3_missAt, Cond.code yX3_missAt cX3_missAt 5 (some .int), Cond.methodLink RX3 33 yX3_term, Cond.instanceMethod yX3_term, Cond.selects RX3 yX3_term yX3_term, Cond.code yX3_term cX3_term 2 (some .int), Cond.methodLink RX3 61 yX2_plusProduct, Cond.methodLink RX3 56 yX2_inverse, Cond.instanceMethod yX2_inverse]
def wsX4_attempt_r5 : List Cond := [Cond.selects RX2 yX2_inverse yX2_inverse, Cond.code yX2_inverse cX2_inverse 5 (some .int), Cond.methodLink RX2 21 yX2_plusProduct, Cond.methodLink RX3 71 yX3_subtractOlder, Cond.instanceMethod yX3_subtractOlder, Cond.selects RX3 yX3_subtractOlder yX3_subtractOlder, Cond.code yX3_subtractOlder cX3_subtractOlder 4 none, Cond.methodLink RX3 75 yX2_negative, Cond.instanceMethod yX2_negative, Cond.selects RX2 yX2_negative yX2_negative, Cond.code yX2_negative cX2_negative 2 (some .int), Cond.methodLink RX4 116 yX3_lastTerm, Cond.instanceMethod yX3_lastTerm, Cond.selects RX3 yX3_lastTerm yX3_lastTerm, Cond.code yX3_lastTerm cX3_lastTerm 1 (some .int), Cond.methodLink RX4 120 yX4_makeCandidate, Cond.instanceMethod yX4_makeCandidate, Cond.selects RX4 yX4_makeCandidate yX4_makeCandidate, Cond.code yX4_makeCandidate cX4_makeCandidate 3 none, Cond.fieldLink RX4 69 "KrylovDesk" "answer" "[I", Cond.methodLink RX4 162 yJ7_fill_53178, Cond.methodLink RX4 129 yX3_term, Cond.methodLink RX4 168 yX4_addRightToWork, Cond.instanceMethod yX4_addRightToWork]
def wsX4_attempt_r6 : List Cond := [Cond.selects RX4 yX4_addRightToWork yX4_addRightToWork, Cond.code yX4_addRightToWork cX4_addRightToWork 3 none, Cond.methodLink RX4 171 yX2_negative, Cond.methodLink RX4 174 yX2_inverse, Cond.methodLink RX4 123 yX4_answerMeetsRight, Cond.instanceMethod yX4_answerMeetsRight, Cond.selects RX4 yX4_answerMeetsRight yX4_answerMeetsRight, Cond.code yX4_answerMeetsRight cX4_answerMeetsRight 2 (some .boolean)]
def wsX4_attempt : List Cond := .code yX4_attempt cX4_attempt 1 (some .int) :: ((wsX4_attempt_r1 ++ (wsX4_attempt_r2 ++ (wsX4_attempt_r3 ++ (wsX4_attempt_r4 ++ (wsX4_attempt_r5 ++ wsX4_attempt_r6))))) ++ wsX40 ++ wsX30 ++ wsX00 ++ wsX20 ++ wsX10)
def wsX4_solve_r1 : List Cond := [Cond.methodLink RX4 126 yX4_attempt, Cond.instanceMethod yX4_attempt, Cond.selects RX4 yX4_attempt yX4_attempt, Cond.initialized RX4, Cond.code yX4_attempt cX4_attempt 1 (some .int), Cond.fieldLink RX4 93 "KrylovDesk" "attemptsMade" "I", Cond.fieldLink RX4 96 "KrylovDesk" "answerStands" "Z", Cond.fieldLink RX4 52 "KrylovDesk" "recurrence" "LKrylovDesk$Recurrence;", Cond.fieldLink RX4 66 "KrylovDesk" "numbers" "[I", Cond.fieldLink RX4 110 "KrylovDesk" "rowStands" "Z", Cond.fieldLink RX4 113 "KrylovDesk$Recurrence" "length" "I", Cond.methodLink RX4 100 yX4_drawChance, Cond.instanceMethod yX4_drawChance, Cond.selects RX4 yX4_drawChance yX4_drawChance, Cond.code yX4_drawChance cX4_drawChance 2 none, Cond.fieldLink RX4 13 "KrylovDesk" "size" "I", Cond.fieldLink RX4 60 "KrylovDesk" "chance" "[I", Cond.fieldLink RX4 27 "KrylovDesk" "modulus" "LKrylovDesk$Modulus;", Cond.fieldLink RX4 43 "KrylovDesk" "generator" "LKrylovDesk$Generator;", Cond.methodLink RX4 144 yX0_next, Cond.instanceMethod yX0_next, Cond.selects RX0 yX0_next yX0_next, Cond.initialized RX0, Cond.code yX0_next cX0_next 1 (some .int)]
def wsX4_solve_r2 : List Cond := [Cond.constant RX0 14 (1103515245), Cond.fieldLink RX0 7 "KrylovDesk$Generator" "state" "I", Cond.constant RX0 13 (2147483647), Cond.constant RX0 15 (65536), Cond.methodLink RX4 80 yX2_reduce, Cond.instanceMethod yX2_reduce, Cond.selects RX2 yX2_reduce yX2_reduce, Cond.initialized RX2, Cond.code yX2_reduce cX2_reduce 3 (some .int), Cond.fieldLink RX2 15 "KrylovDesk$Modulus" "prime" "I", Cond.methodLink RX4 103 yX4_fillRow, Cond.instanceMethod yX4_fillRow, Cond.selects RX4 yX4_fillRow yX4_fillRow, Cond.code yX4_fillRow cX4_fillRow 2 none, Cond.fieldLink RX4 56 "KrylovDesk" "right" "[I", Cond.fieldLink RX4 63 "KrylovDesk" "work" "[I", Cond.methodLink RX4 147 arraycopyName, Cond.native arraycopyName, Cond.static arraycopyName, Cond.initialized "java/lang/System", Cond.fieldLink RX4 36 "KrylovDesk" "matrix" "LKrylovDesk$Matrix;", Cond.methodLink RX4 153 yX4_chanceTimesWork, Cond.instanceMethod yX4_chanceTimesWork, Cond.selects RX4 yX4_chanceTimesWork yX4_chanceTimesWork]
def wsX4_solve_r3 : List Cond := [Cond.code yX4_chanceTimesWork cX4_chanceTimesWork 3 (some .int), Cond.methodLink RX4 159 yX2_plusProduct, Cond.instanceMethod yX2_plusProduct, Cond.selects RX2 yX2_plusProduct yX2_plusProduct, Cond.code yX2_plusProduct cX2_plusProduct 4 (some .int), Cond.methodLink RX4 156 yX1_apply, Cond.instanceMethod yX1_apply, Cond.selects RX1 yX1_apply yX1_apply, Cond.initialized RX1, Cond.code yX1_apply cX1_apply 4 none, Cond.fieldLink RX1 30 "KrylovDesk$Matrix" "productsMade" "I", Cond.fieldLink RX1 23 "KrylovDesk$Matrix" "sums" "[I", Cond.fieldLink RX1 26 "KrylovDesk$Matrix" "held" "I", Cond.fieldLink RX1 13 "KrylovDesk$Matrix" "rows" "[I", Cond.fieldLink RX1 7 "KrylovDesk$Matrix" "modulus" "LKrylovDesk$Modulus;", Cond.fieldLink RX1 20 "KrylovDesk$Matrix" "values" "[I", Cond.fieldLink RX1 17 "KrylovDesk$Matrix" "columns" "[I", Cond.methodLink RX1 45 arraycopyName, Cond.methodLink RX1 33 yJ7_fill_53178, Cond.static yJ7_fill_53178, Cond.initialized RJ7, Cond.code yJ7_fill_53178 cJ7_fill_53178 4 none, Cond.methodLink RX1 39 yX2_plusProduct, Cond.methodLink RX4 106 yX3_find]
def wsX4_solve_r4 : List Cond := [Cond.instanceMethod yX3_find, Cond.selects RX3 yX3_find yX3_find, Cond.initialized RX3, Cond.code yX3_find cX3_find 3 none, Cond.fieldLink RX3 19 "KrylovDesk$Recurrence" "terms" "[I", Cond.fieldLink RX3 23 "KrylovDesk$Recurrence" "olderTerms" "[I", Cond.fieldLink RX3 29 "KrylovDesk$Recurrence" "length" "I", Cond.fieldLink RX3 43 "KrylovDesk$Recurrence" "shift" "I", Cond.fieldLink RX3 46 "KrylovDesk$Recurrence" "olderMiss" "I", Cond.methodLink RX3 37 yJ7_fill_53178, Cond.methodLink RX3 49 yX3_learn, Cond.instanceMethod yX3_learn, Cond.selects RX3 yX3_learn yX3_learn, Cond.code yX3_learn cX3_learn 5 none, Cond.fieldLink RX3 7 "KrylovDesk$Recurrence" "modulus" "LKrylovDesk$Modulus;", Cond.fieldLink RX3 26 "KrylovDesk$Recurrence" "keptTerms" "[I", Cond.methodLink RX3 65 arraycopyName, Cond.methodLink RX3 52 yX3_missAt, Cond.instanceMethod yX3_missAt, Cond.selects RX3 yX3_missAt yX3_missAt, Cond.code yX3_missAt cX3_missAt 5 (some .int), Cond.methodLink RX3 33 yX3_term, Cond.instanceMethod yX3_term, Cond.selects RX3 yX3_term yX3_term]
def wsX4_solve_r5 : List Cond := [Cond.code yX3_term cX3_term 2 (some .int), Cond.methodLink RX3 61 yX2_plusProduct, Cond.methodLink RX3 56 yX2_inverse, Cond.instanceMethod yX2_inverse, Cond.selects RX2 yX2_inverse yX2_inverse, Cond.code yX2_inverse cX2_inverse 5 (some .int), Cond.methodLink RX2 21 yX2_plusProduct, Cond.methodLink RX3 71 yX3_subtractOlder, Cond.instanceMethod yX3_subtractOlder, Cond.selects RX3 yX3_subtractOlder yX3_subtractOlder, Cond.code yX3_subtractOlder cX3_subtractOlder 4 none, Cond.methodLink RX3 75 yX2_negative, Cond.instanceMethod yX2_negative, Cond.selects RX2 yX2_negative yX2_negative, Cond.code yX2_negative cX2_negative 2 (some .int), Cond.methodLink RX4 116 yX3_lastTerm, Cond.instanceMethod yX3_lastTerm, Cond.selects RX3 yX3_lastTerm yX3_lastTerm, Cond.code yX3_lastTerm cX3_lastTerm 1 (some .int), Cond.methodLink RX4 120 yX4_makeCandidate, Cond.instanceMethod yX4_makeCandidate, Cond.selects RX4 yX4_makeCandidate yX4_makeCandidate, Cond.code yX4_makeCandidate cX4_makeCandidate 3 none, Cond.fieldLink RX4 69 "KrylovDesk" "answer" "[I"]
def wsX4_solve_r6 : List Cond := [Cond.methodLink RX4 162 yJ7_fill_53178, Cond.methodLink RX4 129 yX3_term, Cond.methodLink RX4 168 yX4_addRightToWork, Cond.instanceMethod yX4_addRightToWork, Cond.selects RX4 yX4_addRightToWork yX4_addRightToWork, Cond.code yX4_addRightToWork cX4_addRightToWork 3 none, Cond.methodLink RX4 171 yX2_negative, Cond.methodLink RX4 174 yX2_inverse, Cond.methodLink RX4 123 yX4_answerMeetsRight, Cond.instanceMethod yX4_answerMeetsRight, Cond.selects RX4 yX4_answerMeetsRight yX4_answerMeetsRight, Cond.code yX4_answerMeetsRight cX4_answerMeetsRight 2 (some .boolean)]
def wsX4_solve : List Cond := .code yX4_solve cX4_solve 4 (some .int) :: ((wsX4_solve_r1 ++ (wsX4_solve_r2 ++ (wsX4_solve_r3 ++ (wsX4_solve_r4 ++ (wsX4_solve_r5 ++ wsX4_solve_r6))))) ++ wsX40 ++ wsX30 ++ wsX00 ++ wsX20 ++ wsX10)
def wsX4_solution : List Cond := .code yX4_solution cX4_solution 2 (some .int) :: ([.fieldLink RX4 96 "KrylovDesk" "answerStands" "Z", .fieldLink RX4 69 "KrylovDesk" "answer" "[I", .methodLink RX4 72 yX4_isPlace, .instanceMethod yX4_isPlace, .selects RX4 yX4_isPlace yX4_isPlace, .initialized RX4, .code yX4_isPlace cX4_isPlace 2 (some .boolean), .fieldLink RX4 13 "KrylovDesk" "size" "I"] ++ wsX40)
def wsX4_degree : List Cond := .code yX4_degree cX4_degree 1 (some .int) :: ([.fieldLink RX4 110 "KrylovDesk" "rowStands" "Z", .fieldLink RX4 52 "KrylovDesk" "recurrence" "LKrylovDesk$Recurrence;", .fieldLink RX4 113 "KrylovDesk$Recurrence" "length" "I"] ++ wsX40 ++ wsX30)
def wsX4_coefficient : List Cond := .code yX4_coefficient cX4_coefficient 2 (some .int) :: ([.fieldLink RX4 110 "KrylovDesk" "rowStands" "Z", .fieldLink RX4 52 "KrylovDesk" "recurrence" "LKrylovDesk$Recurrence;", .fieldLink RX4 113 "KrylovDesk$Recurrence" "length" "I", .methodLink RX4 129 yX3_term, .instanceMethod yX3_term, .selects RX3 yX3_term yX3_term, .initialized RX3, .code yX3_term cX3_term 2 (some .int), .fieldLink RX3 19 "KrylovDesk$Recurrence" "terms" "[I"] ++ wsX40 ++ wsX30)
def wsX4_number : List Cond := .code yX4_number cX4_number 2 (some .int) :: ([.fieldLink RX4 110 "KrylovDesk" "rowStands" "Z", .fieldLink RX4 66 "KrylovDesk" "numbers" "[I"] ++ wsX40)
def wsX4_verify_r1 : List Cond := [Cond.fieldLink RX4 96 "KrylovDesk" "answerStands" "Z", Cond.methodLink RX4 123 yX4_answerMeetsRight, Cond.instanceMethod yX4_answerMeetsRight, Cond.selects RX4 yX4_answerMeetsRight yX4_answerMeetsRight, Cond.initialized RX4, Cond.code yX4_answerMeetsRight cX4_answerMeetsRight 2 (some .boolean), Cond.fieldLink RX4 69 "KrylovDesk" "answer" "[I", Cond.fieldLink RX4 63 "KrylovDesk" "work" "[I", Cond.fieldLink RX4 13 "KrylovDesk" "size" "I", Cond.methodLink RX4 147 arraycopyName, Cond.native arraycopyName, Cond.static arraycopyName, Cond.initialized "java/lang/System", Cond.fieldLink RX4 36 "KrylovDesk" "matrix" "LKrylovDesk$Matrix;", Cond.fieldLink RX4 56 "KrylovDesk" "right" "[I", Cond.methodLink RX4 156 yX1_apply, Cond.instanceMethod yX1_apply, Cond.selects RX1 yX1_apply yX1_apply, Cond.initialized RX1, Cond.code yX1_apply cX1_apply 4 none, Cond.fieldLink RX1 30 "KrylovDesk$Matrix" "productsMade" "I", Cond.fieldLink RX1 23 "KrylovDesk$Matrix" "sums" "[I", Cond.fieldLink RX1 26 "KrylovDesk$Matrix" "held" "I", Cond.fieldLink RX1 13 "KrylovDesk$Matrix" "rows" "[I"]
def wsX4_verify_r2 : List Cond := [Cond.fieldLink RX1 7 "KrylovDesk$Matrix" "modulus" "LKrylovDesk$Modulus;", Cond.fieldLink RX1 20 "KrylovDesk$Matrix" "values" "[I", Cond.fieldLink RX1 17 "KrylovDesk$Matrix" "columns" "[I", Cond.methodLink RX1 45 arraycopyName, Cond.methodLink RX1 33 yJ7_fill_53178, Cond.static yJ7_fill_53178, Cond.initialized RJ7, Cond.code yJ7_fill_53178 cJ7_fill_53178 4 none, Cond.methodLink RX1 39 yX2_plusProduct, Cond.instanceMethod yX2_plusProduct, Cond.selects RX2 yX2_plusProduct yX2_plusProduct, Cond.initialized RX2, Cond.code yX2_plusProduct cX2_plusProduct 4 (some .int), Cond.fieldLink RX2 15 "KrylovDesk$Modulus" "prime" "I"]
def wsX4_verify : List Cond := .code yX4_verify cX4_verify 1 (some .boolean) :: ((wsX4_verify_r1 ++ wsX4_verify_r2) ++ wsX40 ++ wsX10 ++ wsX20)
def wsX4_products : List Cond := .code yX4_products cX4_products 1 (some .int) :: ([.fieldLink RX4 36 "KrylovDesk" "matrix" "LKrylovDesk$Matrix;", .fieldLink RX4 132 "KrylovDesk$Matrix" "productsMade" "I"] ++ wsX40 ++ wsX10)
def wsX4_count : List Cond := .code yX4_count cX4_count 2 (some .int) :: ([.fieldLink RX4 27 "KrylovDesk" "modulus" "LKrylovDesk$Modulus;", .fieldLink RX4 135 "KrylovDesk$Modulus" "prime" "I", .fieldLink RX4 13 "KrylovDesk" "size" "I", .fieldLink RX4 36 "KrylovDesk" "matrix" "LKrylovDesk$Matrix;", .fieldLink RX4 138 "KrylovDesk$Matrix" "held" "I", .fieldLink RX4 43 "KrylovDesk" "generator" "LKrylovDesk$Generator;", .fieldLink RX4 141 "KrylovDesk$Generator" "state" "I", .fieldLink RX4 93 "KrylovDesk" "attemptsMade" "I"] ++ wsX40 ++ wsX20 ++ wsX10 ++ wsX00)
def wsX5_isPrime : List Cond := .code yX5_isPrime cX5_isPrime 3 (some .boolean) :: ([])
def wsX5_init_r1 : List Cond := [Cond.methodLink RX5 1 objectInit, Cond.instanceMethod objectInit, Cond.code objectInit ⟨#[0xb1]⟩ 1 none, Cond.arrayClass .int, Cond.fieldLink RX5 7 "KrylovDeskModel" "rows" "[I", Cond.fieldLink RX5 13 "KrylovDeskModel" "columns" "[I", Cond.arrayClass .long, Cond.fieldLink RX5 16 "KrylovDeskModel" "values" "[J", Cond.fieldLink RX5 20 "KrylovDeskModel" "right" "[J", Cond.fieldLink RX5 23 "KrylovDeskModel" "generator" "J", Cond.fieldLink RX5 27 "KrylovDeskModel" "drawn" "[J", Cond.fieldLink RX5 30 "KrylovDeskModel" "vector" "[J", Cond.fieldLink RX5 33 "KrylovDeskModel" "made" "[J", Cond.fieldLink RX5 36 "KrylovDeskModel" "row" "[J", Cond.fieldLink RX5 39 "KrylovDeskModel" "c" "[J", Cond.fieldLink RX5 42 "KrylovDeskModel" "b" "[J", Cond.fieldLink RX5 45 "KrylovDeskModel" "t" "[J", Cond.fieldLink RX5 48 "KrylovDeskModel" "degree" "I", Cond.fieldLink RX5 52 "KrylovDeskModel" "solution" "[J", Cond.constant RX5 55 (46337), Cond.fieldLink RX5 60 "KrylovDeskModel" "prime" "I", Cond.fieldLink RX5 63 "KrylovDeskModel" "n" "I", Cond.fieldLink RX5 66 "KrylovDeskModel" "room" "I", Cond.methodLink RX5 56 yX5_isPrime]
def wsX5_init_r2 : List Cond := [Cond.static yX5_isPrime, Cond.initialized RX5, Cond.code yX5_isPrime cX5_isPrime 3 (some .boolean)]
def wsX5_init : List Cond := .code yX5_init cX5_init 5 none :: ((wsX5_init_r1 ++ wsX5_init_r2) ++ wsX50)
def wsX5_within : List Cond := .code yX5_within cX5_within 5 (some .long) :: ([.fieldLink RX5 60 "KrylovDeskModel" "prime" "I"] ++ wsX50)
def wsX5_forget : List Cond := .code yX5_forget cX5_forget 1 none :: ([.fieldLink RX5 69 "KrylovDeskModel" "solved" "Z", .fieldLink RX5 73 "KrylovDeskModel" "hasRow" "Z", .fieldLink RX5 48 "KrylovDeskModel" "degree" "I"] ++ wsX50)
def wsX5_entry : List Cond := .code yX5_entry cX5_entry 4 (some .int) :: ([.fieldLink RX5 63 "KrylovDeskModel" "n" "I", .fieldLink RX5 76 "KrylovDeskModel" "entries" "I", .fieldLink RX5 66 "KrylovDeskModel" "room" "I", .fieldLink RX5 7 "KrylovDeskModel" "rows" "[I", .fieldLink RX5 13 "KrylovDeskModel" "columns" "[I", .fieldLink RX5 16 "KrylovDeskModel" "values" "[J", .methodLink RX5 79 yX5_within, .instanceMethod yX5_within, .selects RX5 yX5_within yX5_within, .initialized RX5, .code yX5_within cX5_within 5 (some .long), .fieldLink RX5 60 "KrylovDeskModel" "prime" "I", .methodLink RX5 83 yX5_forget, .instanceMethod yX5_forget, .selects RX5 yX5_forget yX5_forget, .code yX5_forget cX5_forget 1 none, .fieldLink RX5 69 "KrylovDeskModel" "solved" "Z", .fieldLink RX5 73 "KrylovDeskModel" "hasRow" "Z", .fieldLink RX5 48 "KrylovDeskModel" "degree" "I"] ++ wsX50)
def wsX5_side : List Cond := .code yX5_side cX5_side 3 (some .int) :: ([.fieldLink RX5 63 "KrylovDeskModel" "n" "I", .fieldLink RX5 20 "KrylovDeskModel" "right" "[J", .methodLink RX5 79 yX5_within, .instanceMethod yX5_within, .selects RX5 yX5_within yX5_within, .initialized RX5, .code yX5_within cX5_within 5 (some .long), .fieldLink RX5 60 "KrylovDeskModel" "prime" "I", .methodLink RX5 83 yX5_forget, .instanceMethod yX5_forget, .selects RX5 yX5_forget yX5_forget, .code yX5_forget cX5_forget 1 none, .fieldLink RX5 69 "KrylovDeskModel" "solved" "Z", .fieldLink RX5 73 "KrylovDeskModel" "hasRow" "Z", .fieldLink RX5 48 "KrylovDeskModel" "degree" "I"] ++ wsX50)
def wsX5_seed : List Cond := .code yX5_seed cX5_seed 2 none :: ([.constant RX5 86 (2147483647), .fieldLink RX5 23 "KrylovDeskModel" "generator" "J"] ++ wsX50)
def wsX5_draw : List Cond := .code yX5_draw cX5_draw 1 (some .long) :: ([.constantLong RX5 87 (1103515245), .fieldLink RX5 23 "KrylovDeskModel" "generator" "J", .constantLong RX5 89 (12345), .constantLong RX5 91 (2147483648), .constantLong RX5 93 (65536), .fieldLink RX5 60 "KrylovDeskModel" "prime" "I"] ++ wsX50)
def wsX5_product : List Cond := .code yX5_product cX5_product 2 none :: ([.fieldLink RX5 95 "KrylovDeskModel" "products" "I", .fieldLink RX5 63 "KrylovDeskModel" "n" "I", .fieldLink RX5 33 "KrylovDeskModel" "made" "[J", .fieldLink RX5 76 "KrylovDeskModel" "entries" "I", .fieldLink RX5 7 "KrylovDeskModel" "rows" "[I", .fieldLink RX5 16 "KrylovDeskModel" "values" "[J", .fieldLink RX5 30 "KrylovDeskModel" "vector" "[J", .fieldLink RX5 13 "KrylovDeskModel" "columns" "[I", .fieldLink RX5 60 "KrylovDeskModel" "prime" "I"] ++ wsX50)
def wsX5_power : List Cond := .code yX5_power cX5_power 7 (some .long) :: ([.fieldLink RX5 60 "KrylovDeskModel" "prime" "I"] ++ wsX50)
def wsX5_inverse : List Cond := .code yX5_inverse cX5_inverse 3 (some .long) :: ([.fieldLink RX5 60 "KrylovDeskModel" "prime" "I", .methodLink RX5 98 yX5_power, .instanceMethod yX5_power, .selects RX5 yX5_power yX5_power, .initialized RX5, .code yX5_power cX5_power 7 (some .long)] ++ wsX50)
def wsX5_makeRow_r1 : List Cond := [Cond.fieldLink RX5 63 "KrylovDeskModel" "n" "I", Cond.fieldLink RX5 27 "KrylovDeskModel" "drawn" "[J", Cond.fieldLink RX5 30 "KrylovDeskModel" "vector" "[J", Cond.fieldLink RX5 20 "KrylovDeskModel" "right" "[J", Cond.fieldLink RX5 60 "KrylovDeskModel" "prime" "I", Cond.fieldLink RX5 36 "KrylovDeskModel" "row" "[J", Cond.fieldLink RX5 73 "KrylovDeskModel" "hasRow" "Z", Cond.methodLink RX5 102 yX5_draw, Cond.instanceMethod yX5_draw, Cond.selects RX5 yX5_draw yX5_draw, Cond.initialized RX5, Cond.code yX5_draw cX5_draw 1 (some .long), Cond.constantLong RX5 87 (1103515245), Cond.fieldLink RX5 23 "KrylovDeskModel" "generator" "J", Cond.constantLong RX5 89 (12345), Cond.constantLong RX5 91 (2147483648), Cond.constantLong RX5 93 (65536), Cond.methodLink RX5 106 yX5_product, Cond.instanceMethod yX5_product, Cond.selects RX5 yX5_product yX5_product, Cond.code yX5_product cX5_product 2 none, Cond.fieldLink RX5 95 "KrylovDeskModel" "products" "I", Cond.fieldLink RX5 33 "KrylovDeskModel" "made" "[J", Cond.fieldLink RX5 76 "KrylovDeskModel" "entries" "I"]
def wsX5_makeRow_r2 : List Cond := [Cond.fieldLink RX5 7 "KrylovDeskModel" "rows" "[I", Cond.fieldLink RX5 16 "KrylovDeskModel" "values" "[J", Cond.fieldLink RX5 13 "KrylovDeskModel" "columns" "[I"]
def wsX5_makeRow : List Cond := .code yX5_makeRow cX5_makeRow 5 none :: ((wsX5_makeRow_r1 ++ wsX5_makeRow_r2) ++ wsX50)
def wsX5_recur : List Cond := .code yX5_recur cX5_recur 11 none :: ([.fieldLink RX5 39 "KrylovDeskModel" "c" "[J", .fieldLink RX5 42 "KrylovDeskModel" "b" "[J", .fieldLink RX5 63 "KrylovDeskModel" "n" "I", .fieldLink RX5 36 "KrylovDeskModel" "row" "[J", .fieldLink RX5 60 "KrylovDeskModel" "prime" "I", .fieldLink RX5 45 "KrylovDeskModel" "t" "[J", .fieldLink RX5 48 "KrylovDeskModel" "degree" "I", .methodLink RX5 109 yX5_inverse, .instanceMethod yX5_inverse, .selects RX5 yX5_inverse yX5_inverse, .initialized RX5, .code yX5_inverse cX5_inverse 3 (some .long), .methodLink RX5 98 yX5_power, .instanceMethod yX5_power, .selects RX5 yX5_power yX5_power, .code yX5_power cX5_power 7 (some .long), .methodLink RX5 79 yX5_within, .instanceMethod yX5_within, .selects RX5 yX5_within yX5_within, .code yX5_within cX5_within 5 (some .long)] ++ wsX50)
def wsX5_holds : List Cond := .code yX5_holds cX5_holds 3 (some .boolean) :: ([.fieldLink RX5 63 "KrylovDeskModel" "n" "I", .fieldLink RX5 30 "KrylovDeskModel" "vector" "[J", .fieldLink RX5 52 "KrylovDeskModel" "solution" "[J", .fieldLink RX5 20 "KrylovDeskModel" "right" "[J", .methodLink RX5 106 yX5_product, .instanceMethod yX5_product, .selects RX5 yX5_product yX5_product, .initialized RX5, .code yX5_product cX5_product 2 none, .fieldLink RX5 95 "KrylovDeskModel" "products" "I", .fieldLink RX5 33 "KrylovDeskModel" "made" "[J", .fieldLink RX5 76 "KrylovDeskModel" "entries" "I", .fieldLink RX5 7 "KrylovDeskModel" "rows" "[I", .fieldLink RX5 16 "KrylovDeskModel" "values" "[J", .fieldLink RX5 13 "KrylovDeskModel" "columns" "[I", .fieldLink RX5 60 "KrylovDeskModel" "prime" "I"] ++ wsX50)
def wsX5_makeCandidate_r1 : List Cond := [Cond.fieldLink RX5 63 "KrylovDeskModel" "n" "I", Cond.fieldLink RX5 30 "KrylovDeskModel" "vector" "[J", Cond.fieldLink RX5 48 "KrylovDeskModel" "degree" "I", Cond.fieldLink RX5 20 "KrylovDeskModel" "right" "[J", Cond.fieldLink RX5 39 "KrylovDeskModel" "c" "[J", Cond.fieldLink RX5 60 "KrylovDeskModel" "prime" "I", Cond.fieldLink RX5 52 "KrylovDeskModel" "solution" "[J", Cond.methodLink RX5 106 yX5_product, Cond.instanceMethod yX5_product, Cond.selects RX5 yX5_product yX5_product, Cond.initialized RX5, Cond.code yX5_product cX5_product 2 none, Cond.fieldLink RX5 95 "KrylovDeskModel" "products" "I", Cond.fieldLink RX5 33 "KrylovDeskModel" "made" "[J", Cond.fieldLink RX5 76 "KrylovDeskModel" "entries" "I", Cond.fieldLink RX5 7 "KrylovDeskModel" "rows" "[I", Cond.fieldLink RX5 16 "KrylovDeskModel" "values" "[J", Cond.fieldLink RX5 13 "KrylovDeskModel" "columns" "[I", Cond.methodLink RX5 79 yX5_within, Cond.instanceMethod yX5_within, Cond.selects RX5 yX5_within yX5_within, Cond.code yX5_within cX5_within 5 (some .long), Cond.methodLink RX5 109 yX5_inverse, Cond.instanceMethod yX5_inverse]
def wsX5_makeCandidate_r2 : List Cond := [Cond.selects RX5 yX5_inverse yX5_inverse, Cond.code yX5_inverse cX5_inverse 3 (some .long), Cond.methodLink RX5 98 yX5_power, Cond.instanceMethod yX5_power, Cond.selects RX5 yX5_power yX5_power, Cond.code yX5_power cX5_power 7 (some .long)]
def wsX5_makeCandidate : List Cond := .code yX5_makeCandidate cX5_makeCandidate 4 none :: ((wsX5_makeCandidate_r1 ++ wsX5_makeCandidate_r2) ++ wsX50)
def wsX5_attempt_r1 : List Cond := [Cond.fieldLink RX5 112 "KrylovDeskModel" "attempts" "I", Cond.fieldLink RX5 69 "KrylovDeskModel" "solved" "Z", Cond.fieldLink RX5 48 "KrylovDeskModel" "degree" "I", Cond.fieldLink RX5 39 "KrylovDeskModel" "c" "[J", Cond.methodLink RX5 115 yX5_makeRow, Cond.instanceMethod yX5_makeRow, Cond.selects RX5 yX5_makeRow yX5_makeRow, Cond.initialized RX5, Cond.code yX5_makeRow cX5_makeRow 5 none, Cond.fieldLink RX5 63 "KrylovDeskModel" "n" "I", Cond.fieldLink RX5 27 "KrylovDeskModel" "drawn" "[J", Cond.fieldLink RX5 30 "KrylovDeskModel" "vector" "[J", Cond.fieldLink RX5 20 "KrylovDeskModel" "right" "[J", Cond.fieldLink RX5 60 "KrylovDeskModel" "prime" "I", Cond.fieldLink RX5 36 "KrylovDeskModel" "row" "[J", Cond.fieldLink RX5 73 "KrylovDeskModel" "hasRow" "Z", Cond.methodLink RX5 102 yX5_draw, Cond.instanceMethod yX5_draw, Cond.selects RX5 yX5_draw yX5_draw, Cond.code yX5_draw cX5_draw 1 (some .long), Cond.constantLong RX5 87 (1103515245), Cond.fieldLink RX5 23 "KrylovDeskModel" "generator" "J", Cond.constantLong RX5 89 (12345), Cond.constantLong RX5 91 (2147483648)]
def wsX5_attempt_r2 : List Cond := [Cond.constantLong RX5 93 (65536), Cond.methodLink RX5 106 yX5_product, Cond.instanceMethod yX5_product, Cond.selects RX5 yX5_product yX5_product, Cond.code yX5_product cX5_product 2 none, Cond.fieldLink RX5 95 "KrylovDeskModel" "products" "I", Cond.fieldLink RX5 33 "KrylovDeskModel" "made" "[J", Cond.fieldLink RX5 76 "KrylovDeskModel" "entries" "I", Cond.fieldLink RX5 7 "KrylovDeskModel" "rows" "[I", Cond.fieldLink RX5 16 "KrylovDeskModel" "values" "[J", Cond.fieldLink RX5 13 "KrylovDeskModel" "columns" "[I", Cond.methodLink RX5 118 yX5_recur, Cond.instanceMethod yX5_recur, Cond.selects RX5 yX5_recur yX5_recur, Cond.code yX5_recur cX5_recur 11 none, Cond.fieldLink RX5 42 "KrylovDeskModel" "b" "[J", Cond.fieldLink RX5 45 "KrylovDeskModel" "t" "[J", Cond.methodLink RX5 109 yX5_inverse, Cond.instanceMethod yX5_inverse, Cond.selects RX5 yX5_inverse yX5_inverse, Cond.code yX5_inverse cX5_inverse 3 (some .long), Cond.methodLink RX5 98 yX5_power, Cond.instanceMethod yX5_power, Cond.selects RX5 yX5_power yX5_power]
def wsX5_attempt_r3 : List Cond := [Cond.code yX5_power cX5_power 7 (some .long), Cond.methodLink RX5 79 yX5_within, Cond.instanceMethod yX5_within, Cond.selects RX5 yX5_within yX5_within, Cond.code yX5_within cX5_within 5 (some .long), Cond.methodLink RX5 121 yX5_makeCandidate, Cond.instanceMethod yX5_makeCandidate, Cond.selects RX5 yX5_makeCandidate yX5_makeCandidate, Cond.code yX5_makeCandidate cX5_makeCandidate 4 none, Cond.fieldLink RX5 52 "KrylovDeskModel" "solution" "[J", Cond.methodLink RX5 124 yX5_holds, Cond.instanceMethod yX5_holds, Cond.selects RX5 yX5_holds yX5_holds, Cond.code yX5_holds cX5_holds 3 (some .boolean)]
def wsX5_attempt : List Cond := .code yX5_attempt cX5_attempt 1 (some .int) :: ((wsX5_attempt_r1 ++ (wsX5_attempt_r2 ++ wsX5_attempt_r3)) ++ wsX50)
def wsX5_solve_r1 : List Cond := [Cond.methodLink RX5 128 yX5_attempt, Cond.instanceMethod yX5_attempt, Cond.selects RX5 yX5_attempt yX5_attempt, Cond.initialized RX5, Cond.code yX5_attempt cX5_attempt 1 (some .int), Cond.fieldLink RX5 112 "KrylovDeskModel" "attempts" "I", Cond.fieldLink RX5 69 "KrylovDeskModel" "solved" "Z", Cond.fieldLink RX5 48 "KrylovDeskModel" "degree" "I", Cond.fieldLink RX5 39 "KrylovDeskModel" "c" "[J", Cond.methodLink RX5 115 yX5_makeRow, Cond.instanceMethod yX5_makeRow, Cond.selects RX5 yX5_makeRow yX5_makeRow, Cond.code yX5_makeRow cX5_makeRow 5 none, Cond.fieldLink RX5 63 "KrylovDeskModel" "n" "I", Cond.fieldLink RX5 27 "KrylovDeskModel" "drawn" "[J", Cond.fieldLink RX5 30 "KrylovDeskModel" "vector" "[J", Cond.fieldLink RX5 20 "KrylovDeskModel" "right" "[J", Cond.fieldLink RX5 60 "KrylovDeskModel" "prime" "I", Cond.fieldLink RX5 36 "KrylovDeskModel" "row" "[J", Cond.fieldLink RX5 73 "KrylovDeskModel" "hasRow" "Z", Cond.methodLink RX5 102 yX5_draw, Cond.instanceMethod yX5_draw, Cond.selects RX5 yX5_draw yX5_draw, Cond.code yX5_draw cX5_draw 1 (some .long)]
def wsX5_solve_r2 : List Cond := [Cond.constantLong RX5 87 (1103515245), Cond.fieldLink RX5 23 "KrylovDeskModel" "generator" "J", Cond.constantLong RX5 89 (12345), Cond.constantLong RX5 91 (2147483648), Cond.constantLong RX5 93 (65536), Cond.methodLink RX5 106 yX5_product, Cond.instanceMethod yX5_product, Cond.selects RX5 yX5_product yX5_product, Cond.code yX5_product cX5_product 2 none, Cond.fieldLink RX5 95 "KrylovDeskModel" "products" "I", Cond.fieldLink RX5 33 "KrylovDeskModel" "made" "[J", Cond.fieldLink RX5 76 "KrylovDeskModel" "entries" "I", Cond.fieldLink RX5 7 "KrylovDeskModel" "rows" "[I", Cond.fieldLink RX5 16 "KrylovDeskModel" "values" "[J", Cond.fieldLink RX5 13 "KrylovDeskModel" "columns" "[I", Cond.methodLink RX5 118 yX5_recur, Cond.instanceMethod yX5_recur, Cond.selects RX5 yX5_recur yX5_recur, Cond.code yX5_recur cX5_recur 11 none, Cond.fieldLink RX5 42 "KrylovDeskModel" "b" "[J", Cond.fieldLink RX5 45 "KrylovDeskModel" "t" "[J", Cond.methodLink RX5 109 yX5_inverse, Cond.instanceMethod yX5_inverse, Cond.selects RX5 yX5_inverse yX5_inverse]
def wsX5_solve_r3 : List Cond := [Cond.code yX5_inverse cX5_inverse 3 (some .long), Cond.methodLink RX5 98 yX5_power, Cond.instanceMethod yX5_power, Cond.selects RX5 yX5_power yX5_power, Cond.code yX5_power cX5_power 7 (some .long), Cond.methodLink RX5 79 yX5_within, Cond.instanceMethod yX5_within, Cond.selects RX5 yX5_within yX5_within, Cond.code yX5_within cX5_within 5 (some .long), Cond.methodLink RX5 121 yX5_makeCandidate, Cond.instanceMethod yX5_makeCandidate, Cond.selects RX5 yX5_makeCandidate yX5_makeCandidate, Cond.code yX5_makeCandidate cX5_makeCandidate 4 none, Cond.fieldLink RX5 52 "KrylovDeskModel" "solution" "[J", Cond.methodLink RX5 124 yX5_holds, Cond.instanceMethod yX5_holds, Cond.selects RX5 yX5_holds yX5_holds, Cond.code yX5_holds cX5_holds 3 (some .boolean)]
def wsX5_solve : List Cond := .code yX5_solve cX5_solve 4 (some .int) :: ((wsX5_solve_r1 ++ (wsX5_solve_r2 ++ wsX5_solve_r3)) ++ wsX50)
def wsX5_solution : List Cond := .code yX5_solution cX5_solution 2 (some .int) :: ([.fieldLink RX5 69 "KrylovDeskModel" "solved" "Z", .fieldLink RX5 63 "KrylovDeskModel" "n" "I", .fieldLink RX5 52 "KrylovDeskModel" "solution" "[J"] ++ wsX50)
def wsX5_degree : List Cond := .code yX5_degree cX5_degree 1 (some .int) :: ([.fieldLink RX5 48 "KrylovDeskModel" "degree" "I"] ++ wsX50)
def wsX5_coefficient : List Cond := .code yX5_coefficient cX5_coefficient 2 (some .int) :: ([.fieldLink RX5 48 "KrylovDeskModel" "degree" "I", .fieldLink RX5 39 "KrylovDeskModel" "c" "[J"] ++ wsX50)
def wsX5_number : List Cond := .code yX5_number cX5_number 2 (some .int) :: ([.fieldLink RX5 73 "KrylovDeskModel" "hasRow" "Z", .fieldLink RX5 63 "KrylovDeskModel" "n" "I", .fieldLink RX5 36 "KrylovDeskModel" "row" "[J"] ++ wsX50)
def wsX5_verify : List Cond := .code yX5_verify cX5_verify 1 (some .boolean) :: ([.fieldLink RX5 69 "KrylovDeskModel" "solved" "Z", .methodLink RX5 124 yX5_holds, .instanceMethod yX5_holds, .selects RX5 yX5_holds yX5_holds, .initialized RX5, .code yX5_holds cX5_holds 3 (some .boolean), .fieldLink RX5 63 "KrylovDeskModel" "n" "I", .fieldLink RX5 30 "KrylovDeskModel" "vector" "[J", .fieldLink RX5 52 "KrylovDeskModel" "solution" "[J", .fieldLink RX5 20 "KrylovDeskModel" "right" "[J", .methodLink RX5 106 yX5_product, .instanceMethod yX5_product, .selects RX5 yX5_product yX5_product, .code yX5_product cX5_product 2 none, .fieldLink RX5 95 "KrylovDeskModel" "products" "I", .fieldLink RX5 33 "KrylovDeskModel" "made" "[J", .fieldLink RX5 76 "KrylovDeskModel" "entries" "I", .fieldLink RX5 7 "KrylovDeskModel" "rows" "[I", .fieldLink RX5 16 "KrylovDeskModel" "values" "[J", .fieldLink RX5 13 "KrylovDeskModel" "columns" "[I", .fieldLink RX5 60 "KrylovDeskModel" "prime" "I"] ++ wsX50)
def wsX5_products : List Cond := .code yX5_products cX5_products 1 (some .int) :: ([.fieldLink RX5 95 "KrylovDeskModel" "products" "I"] ++ wsX50)
def wsX5_count : List Cond := .code yX5_count cX5_count 2 (some .int) :: ([.fieldLink RX5 60 "KrylovDeskModel" "prime" "I", .fieldLink RX5 63 "KrylovDeskModel" "n" "I", .fieldLink RX5 76 "KrylovDeskModel" "entries" "I", .fieldLink RX5 23 "KrylovDeskModel" "generator" "J", .fieldLink RX5 112 "KrylovDeskModel" "attempts" "I"] ++ wsX50)
def wsJ9_max_7cf53 : List Cond := .code yJ9_max_7cf53 cJ9_max_7cf53 2 (some .int) :: ([])
def wsJ9_min_7cf53 : List Cond := .code yJ9_min_7cf53 cJ9_min_7cf53 2 (some .int) :: ([])
def wsL_cell : List Cond := .code yL_cell cL_cell 2 (some .int) :: ([])
def wsL_law_r1 : List Cond := [Cond.classLink RL 7 RX4, Cond.instantiable RX4 13, Cond.initialized RX4, Cond.classLink RL 18 RX5, Cond.instantiable RX5 22, Cond.initialized RX5, Cond.methodLink RL 9 yL_cell, Cond.static yL_cell, Cond.initialized RL, Cond.code yL_cell cL_cell 2 (some .int), Cond.methodLink RL 15 yX4_init, Cond.instanceMethod yX4_init, Cond.code yX4_init cX4_init 4 none, Cond.methodLink RX4 1 objectInit, Cond.instanceMethod objectInit, Cond.code objectInit ⟨#[0xb1]⟩ 1 none, Cond.fieldLink RX4 13 "KrylovDesk" "size" "I", Cond.classLink RX4 17 RX2, Cond.instantiable RX2 1, Cond.initialized RX2, Cond.constant RX4 19 (46337), Cond.fieldLink RX4 27 "KrylovDesk" "modulus" "LKrylovDesk$Modulus;", Cond.classLink RX4 31 RX1, Cond.instantiable RX1 7]
def wsL_law_r2 : List Cond := [Cond.initialized RX1, Cond.fieldLink RX4 36 "KrylovDesk" "matrix" "LKrylovDesk$Matrix;", Cond.classLink RX4 40 RX0, Cond.instantiable RX0 1, Cond.initialized RX0, Cond.fieldLink RX4 43 "KrylovDesk" "generator" "LKrylovDesk$Generator;", Cond.classLink RX4 47 RX3, Cond.instantiable RX3 7, Cond.initialized RX3, Cond.fieldLink RX4 52 "KrylovDesk" "recurrence" "LKrylovDesk$Recurrence;", Cond.arrayClass .int, Cond.fieldLink RX4 56 "KrylovDesk" "right" "[I", Cond.fieldLink RX4 60 "KrylovDesk" "chance" "[I", Cond.fieldLink RX4 63 "KrylovDesk" "work" "[I", Cond.fieldLink RX4 66 "KrylovDesk" "numbers" "[I", Cond.fieldLink RX4 69 "KrylovDesk" "answer" "[I", Cond.methodLink RX4 9 yX4_broughtWithin, Cond.static yX4_broughtWithin, Cond.code yX4_broughtWithin cX4_broughtWithin 3 (some .int), Cond.methodLink RX4 177 Lib.Math.min.name, Cond.static Lib.Math.min.name, Cond.initialized "java/lang/Math", Cond.code Lib.Math.min.name Lib.Math.min.code 2 (some .int), Cond.methodLink RX4 183 Lib.Math.max.name]
def wsL_law_r3 : List Cond := [Cond.static Lib.Math.max.name, Cond.code Lib.Math.max.name Lib.Math.max.code 2 (some .int), Cond.methodLink RX4 20 yX4_leastPrimeFrom, Cond.static yX4_leastPrimeFrom, Cond.code yX4_leastPrimeFrom cX4_leastPrimeFrom 2 (some .int), Cond.methodLink RX4 186 yX4_isPrime, Cond.static yX4_isPrime, Cond.code yX4_isPrime cX4_isPrime 2 (some .boolean), Cond.methodLink RX4 24 yX2_init, Cond.instanceMethod yX2_init, Cond.code yX2_init cX2_init 2 none, Cond.methodLink RX2 3 objectInit, Cond.methodLink RX2 9 Lib.Math.max.name, Cond.fieldLink RX2 15 "KrylovDesk$Modulus" "prime" "I", Cond.methodLink RX4 33 yX1_init, Cond.instanceMethod yX1_init, Cond.code yX1_init cX1_init 4 none, Cond.methodLink RX1 1 objectInit, Cond.fieldLink RX1 7 "KrylovDesk$Matrix" "modulus" "LKrylovDesk$Modulus;", Cond.fieldLink RX1 13 "KrylovDesk$Matrix" "rows" "[I", Cond.fieldLink RX1 17 "KrylovDesk$Matrix" "columns" "[I", Cond.fieldLink RX1 20 "KrylovDesk$Matrix" "values" "[I", Cond.fieldLink RX1 23 "KrylovDesk$Matrix" "sums" "[I", Cond.instanceMethod yX0_init]
def wsL_law_r4 : List Cond := [Cond.code yX0_init cX0_init 1 none, Cond.methodLink RX0 1 objectInit, Cond.fieldLink RX0 7 "KrylovDesk$Generator" "state" "I", Cond.methodLink RX4 49 yX3_init, Cond.instanceMethod yX3_init, Cond.code yX3_init cX3_init 4 none, Cond.methodLink RX3 1 objectInit, Cond.fieldLink RX3 7 "KrylovDesk$Recurrence" "modulus" "LKrylovDesk$Modulus;", Cond.methodLink RX3 13 Lib.Math.max.name, Cond.fieldLink RX3 19 "KrylovDesk$Recurrence" "terms" "[I", Cond.fieldLink RX3 23 "KrylovDesk$Recurrence" "olderTerms" "[I", Cond.fieldLink RX3 26 "KrylovDesk$Recurrence" "keptTerms" "[I", Cond.methodLink RL 20 yX5_init, Cond.instanceMethod yX5_init, Cond.code yX5_init cX5_init 5 none, Cond.methodLink RX5 1 objectInit, Cond.fieldLink RX5 7 "KrylovDeskModel" "rows" "[I", Cond.fieldLink RX5 13 "KrylovDeskModel" "columns" "[I", Cond.arrayClass .long, Cond.fieldLink RX5 16 "KrylovDeskModel" "values" "[J", Cond.fieldLink RX5 20 "KrylovDeskModel" "right" "[J", Cond.fieldLink RX5 23 "KrylovDeskModel" "generator" "J", Cond.fieldLink RX5 27 "KrylovDeskModel" "drawn" "[J", Cond.fieldLink RX5 30 "KrylovDeskModel" "vector" "[J"]
def wsL_law_r5 : List Cond := [Cond.fieldLink RX5 33 "KrylovDeskModel" "made" "[J", Cond.fieldLink RX5 36 "KrylovDeskModel" "row" "[J", Cond.fieldLink RX5 39 "KrylovDeskModel" "c" "[J", Cond.fieldLink RX5 42 "KrylovDeskModel" "b" "[J", Cond.fieldLink RX5 45 "KrylovDeskModel" "t" "[J", Cond.fieldLink RX5 48 "KrylovDeskModel" "degree" "I", Cond.fieldLink RX5 52 "KrylovDeskModel" "solution" "[J", Cond.constant RX5 55 (46337), Cond.fieldLink RX5 60 "KrylovDeskModel" "prime" "I", Cond.fieldLink RX5 63 "KrylovDeskModel" "n" "I", Cond.fieldLink RX5 66 "KrylovDeskModel" "room" "I", Cond.methodLink RX5 56 yX5_isPrime, Cond.static yX5_isPrime, Cond.code yX5_isPrime cX5_isPrime 3 (some .boolean), Cond.methodLink RL 21 yX4_entry, Cond.instanceMethod yX4_entry, Cond.selects RX4 yX4_entry yX4_entry, Cond.code yX4_entry cX4_entry 4 (some .int), Cond.methodLink RX4 72 yX4_isPlace, Cond.instanceMethod yX4_isPlace, Cond.selects RX4 yX4_isPlace yX4_isPlace, Cond.code yX4_isPlace cX4_isPlace 2 (some .boolean), Cond.methodLink RX4 76 yX1_isFull, Cond.instanceMethod yX1_isFull]
def wsL_law_r6 : List Cond := [Cond.selects RX1 yX1_isFull yX1_isFull, Cond.code yX1_isFull cX1_isFull 1 (some .boolean), Cond.fieldLink RX1 26 "KrylovDesk$Matrix" "held" "I", Cond.methodLink RX4 80 yX2_reduce, Cond.instanceMethod yX2_reduce, Cond.selects RX2 yX2_reduce yX2_reduce, Cond.code yX2_reduce cX2_reduce 3 (some .int), Cond.methodLink RX4 83 yX1_put, Cond.instanceMethod yX1_put, Cond.selects RX1 yX1_put yX1_put, Cond.code yX1_put cX1_put 4 none, Cond.methodLink RX4 87 yX4_forgetResults, Cond.instanceMethod yX4_forgetResults, Cond.selects RX4 yX4_forgetResults yX4_forgetResults, Cond.code yX4_forgetResults cX4_forgetResults 1 none, Cond.fieldLink RX4 110 "KrylovDesk" "rowStands" "Z", Cond.fieldLink RX4 96 "KrylovDesk" "answerStands" "Z", Cond.methodLink RL 25 yX5_entry, Cond.instanceMethod yX5_entry, Cond.selects RX5 yX5_entry yX5_entry, Cond.code yX5_entry cX5_entry 4 (some .int), Cond.fieldLink RX5 76 "KrylovDeskModel" "entries" "I", Cond.methodLink RX5 79 yX5_within, Cond.instanceMethod yX5_within]
def wsL_law_r7 : List Cond := [Cond.selects RX5 yX5_within yX5_within, Cond.code yX5_within cX5_within 5 (some .long), Cond.methodLink RX5 83 yX5_forget, Cond.instanceMethod yX5_forget, Cond.selects RX5 yX5_forget yX5_forget, Cond.code yX5_forget cX5_forget 1 none, Cond.fieldLink RX5 69 "KrylovDeskModel" "solved" "Z", Cond.fieldLink RX5 73 "KrylovDeskModel" "hasRow" "Z", Cond.methodLink RL 26 yX4_side, Cond.instanceMethod yX4_side, Cond.selects RX4 yX4_side yX4_side, Cond.code yX4_side cX4_side 3 (some .int), Cond.methodLink RL 30 yX5_side, Cond.instanceMethod yX5_side, Cond.selects RX5 yX5_side yX5_side, Cond.code yX5_side cX5_side 3 (some .int), Cond.methodLink RL 31 yX4_seed, Cond.instanceMethod yX4_seed, Cond.selects RX4 yX4_seed yX4_seed, Cond.code yX4_seed cX4_seed 2 none, Cond.methodLink RX4 90 yX0_restart, Cond.instanceMethod yX0_restart, Cond.selects RX0 yX0_restart yX0_restart, Cond.code yX0_restart cX0_restart 2 none]
def wsL_law_r8 : List Cond := [Cond.constant RX0 13 (2147483647), Cond.methodLink RL 35 yX5_seed, Cond.instanceMethod yX5_seed, Cond.selects RX5 yX5_seed yX5_seed, Cond.code yX5_seed cX5_seed 2 none, Cond.constant RX5 86 (2147483647), Cond.methodLink RL 36 yX4_attempt, Cond.instanceMethod yX4_attempt, Cond.selects RX4 yX4_attempt yX4_attempt, Cond.code yX4_attempt cX4_attempt 1 (some .int), Cond.fieldLink RX4 93 "KrylovDesk" "attemptsMade" "I", Cond.fieldLink RX4 113 "KrylovDesk$Recurrence" "length" "I", Cond.methodLink RX4 100 yX4_drawChance, Cond.instanceMethod yX4_drawChance, Cond.selects RX4 yX4_drawChance yX4_drawChance, Cond.code yX4_drawChance cX4_drawChance 2 none, Cond.methodLink RX4 144 yX0_next, Cond.instanceMethod yX0_next, Cond.selects RX0 yX0_next yX0_next, Cond.code yX0_next cX0_next 1 (some .int), Cond.constant RX0 14 (1103515245), Cond.constant RX0 15 (65536), Cond.methodLink RX4 103 yX4_fillRow, Cond.instanceMethod yX4_fillRow]
def wsL_law_r9 : List Cond := [Cond.selects RX4 yX4_fillRow yX4_fillRow, Cond.code yX4_fillRow cX4_fillRow 2 none, Cond.methodLink RX4 147 arraycopyName, Cond.native arraycopyName, Cond.static arraycopyName, Cond.initialized "java/lang/System", Cond.methodLink RX4 153 yX4_chanceTimesWork, Cond.instanceMethod yX4_chanceTimesWork, Cond.selects RX4 yX4_chanceTimesWork yX4_chanceTimesWork, Cond.code yX4_chanceTimesWork cX4_chanceTimesWork 3 (some .int), Cond.methodLink RX4 159 yX2_plusProduct, Cond.instanceMethod yX2_plusProduct, Cond.selects RX2 yX2_plusProduct yX2_plusProduct, Cond.code yX2_plusProduct cX2_plusProduct 4 (some .int), Cond.methodLink RX4 156 yX1_apply, Cond.instanceMethod yX1_apply, Cond.selects RX1 yX1_apply yX1_apply, Cond.code yX1_apply cX1_apply 4 none, Cond.fieldLink RX1 30 "KrylovDesk$Matrix" "productsMade" "I", Cond.methodLink RX1 45 arraycopyName, Cond.methodLink RX1 33 yJ7_fill_53178, Cond.static yJ7_fill_53178, Cond.initialized RJ7, Cond.code yJ7_fill_53178 cJ7_fill_53178 4 none]
def wsL_law_r10 : List Cond := [Cond.methodLink RX1 39 yX2_plusProduct, Cond.methodLink RX4 106 yX3_find, Cond.instanceMethod yX3_find, Cond.selects RX3 yX3_find yX3_find, Cond.code yX3_find cX3_find 3 none, Cond.fieldLink RX3 29 "KrylovDesk$Recurrence" "length" "I", Cond.fieldLink RX3 43 "KrylovDesk$Recurrence" "shift" "I", Cond.fieldLink RX3 46 "KrylovDesk$Recurrence" "olderMiss" "I", Cond.methodLink RX3 37 yJ7_fill_53178, Cond.methodLink RX3 49 yX3_learn, Cond.instanceMethod yX3_learn, Cond.selects RX3 yX3_learn yX3_learn, Cond.code yX3_learn cX3_learn 5 none, Cond.methodLink RX3 65 arraycopyName, Cond.methodLink RX3 52 yX3_missAt, Cond.instanceMethod yX3_missAt, Cond.selects RX3 yX3_missAt yX3_missAt, Cond.code yX3_missAt cX3_missAt 5 (some .int), Cond.methodLink RX3 33 yX3_term, Cond.instanceMethod yX3_term, Cond.selects RX3 yX3_term yX3_term, Cond.code yX3_term cX3_term 2 (some .int), Cond.methodLink RX3 61 yX2_plusProduct, Cond.methodLink RX3 56 yX2_inverse]
def wsL_law_r11 : List Cond := [Cond.instanceMethod yX2_inverse, Cond.selects RX2 yX2_inverse yX2_inverse, Cond.code yX2_inverse cX2_inverse 5 (some .int), Cond.methodLink RX2 21 yX2_plusProduct, Cond.methodLink RX3 71 yX3_subtractOlder, Cond.instanceMethod yX3_subtractOlder, Cond.selects RX3 yX3_subtractOlder yX3_subtractOlder, Cond.code yX3_subtractOlder cX3_subtractOlder 4 none, Cond.methodLink RX3 75 yX2_negative, Cond.instanceMethod yX2_negative, Cond.selects RX2 yX2_negative yX2_negative, Cond.code yX2_negative cX2_negative 2 (some .int), Cond.methodLink RX4 116 yX3_lastTerm, Cond.instanceMethod yX3_lastTerm, Cond.selects RX3 yX3_lastTerm yX3_lastTerm, Cond.code yX3_lastTerm cX3_lastTerm 1 (some .int), Cond.methodLink RX4 120 yX4_makeCandidate, Cond.instanceMethod yX4_makeCandidate, Cond.selects RX4 yX4_makeCandidate yX4_makeCandidate, Cond.code yX4_makeCandidate cX4_makeCandidate 3 none, Cond.methodLink RX4 162 yJ7_fill_53178, Cond.methodLink RX4 129 yX3_term, Cond.methodLink RX4 168 yX4_addRightToWork, Cond.instanceMethod yX4_addRightToWork]
def wsL_law_r12 : List Cond := [Cond.selects RX4 yX4_addRightToWork yX4_addRightToWork, Cond.code yX4_addRightToWork cX4_addRightToWork 3 none, Cond.methodLink RX4 171 yX2_negative, Cond.methodLink RX4 174 yX2_inverse, Cond.methodLink RX4 123 yX4_answerMeetsRight, Cond.instanceMethod yX4_answerMeetsRight, Cond.selects RX4 yX4_answerMeetsRight yX4_answerMeetsRight, Cond.code yX4_answerMeetsRight cX4_answerMeetsRight 2 (some .boolean), Cond.methodLink RL 40 yX5_attempt, Cond.instanceMethod yX5_attempt, Cond.selects RX5 yX5_attempt yX5_attempt, Cond.code yX5_attempt cX5_attempt 1 (some .int), Cond.fieldLink RX5 112 "KrylovDeskModel" "attempts" "I", Cond.methodLink RX5 115 yX5_makeRow, Cond.instanceMethod yX5_makeRow, Cond.selects RX5 yX5_makeRow yX5_makeRow, Cond.code yX5_makeRow cX5_makeRow 5 none, Cond.methodLink RX5 102 yX5_draw, Cond.instanceMethod yX5_draw, Cond.selects RX5 yX5_draw yX5_draw, Cond.code yX5_draw cX5_draw 1 (some .long), Cond.constantLong RX5 87 (1103515245), Cond.constantLong RX5 89 (12345), Cond.constantLong RX5 91 (2147483648)]
def wsL_law_r13 : List Cond := [Cond.constantLong RX5 93 (65536), Cond.methodLink RX5 106 yX5_product, Cond.instanceMethod yX5_product, Cond.selects RX5 yX5_product yX5_product, Cond.code yX5_product cX5_product 2 none, Cond.fieldLink RX5 95 "KrylovDeskModel" "products" "I", Cond.methodLink RX5 118 yX5_recur, Cond.instanceMethod yX5_recur, Cond.selects RX5 yX5_recur yX5_recur, Cond.code yX5_recur cX5_recur 11 none, Cond.methodLink RX5 109 yX5_inverse, Cond.instanceMethod yX5_inverse, Cond.selects RX5 yX5_inverse yX5_inverse, Cond.code yX5_inverse cX5_inverse 3 (some .long), Cond.methodLink RX5 98 yX5_power, Cond.instanceMethod yX5_power, Cond.selects RX5 yX5_power yX5_power, Cond.code yX5_power cX5_power 7 (some .long), Cond.methodLink RX5 121 yX5_makeCandidate, Cond.instanceMethod yX5_makeCandidate, Cond.selects RX5 yX5_makeCandidate yX5_makeCandidate, Cond.code yX5_makeCandidate cX5_makeCandidate 4 none, Cond.methodLink RX5 124 yX5_holds, Cond.instanceMethod yX5_holds]
def wsL_law_r14 : List Cond := [Cond.selects RX5 yX5_holds yX5_holds, Cond.code yX5_holds cX5_holds 3 (some .boolean), Cond.methodLink RL 41 yX4_solve, Cond.instanceMethod yX4_solve, Cond.selects RX4 yX4_solve yX4_solve, Cond.code yX4_solve cX4_solve 4 (some .int), Cond.methodLink RX4 126 yX4_attempt, Cond.methodLink RL 45 yX5_solve, Cond.instanceMethod yX5_solve, Cond.selects RX5 yX5_solve yX5_solve, Cond.code yX5_solve cX5_solve 4 (some .int), Cond.methodLink RX5 128 yX5_attempt, Cond.methodLink RL 46 yX4_solution, Cond.instanceMethod yX4_solution, Cond.selects RX4 yX4_solution yX4_solution, Cond.code yX4_solution cX4_solution 2 (some .int), Cond.methodLink RL 49 yX5_solution, Cond.instanceMethod yX5_solution, Cond.selects RX5 yX5_solution yX5_solution, Cond.code yX5_solution cX5_solution 2 (some .int), Cond.methodLink RL 50 yX4_degree, Cond.instanceMethod yX4_degree, Cond.selects RX4 yX4_degree yX4_degree, Cond.code yX4_degree cX4_degree 1 (some .int)]
def wsL_law_r15 : List Cond := [Cond.methodLink RL 53 yX5_degree, Cond.instanceMethod yX5_degree, Cond.selects RX5 yX5_degree yX5_degree, Cond.code yX5_degree cX5_degree 1 (some .int), Cond.methodLink RL 54 yX4_coefficient, Cond.instanceMethod yX4_coefficient, Cond.selects RX4 yX4_coefficient yX4_coefficient, Cond.code yX4_coefficient cX4_coefficient 2 (some .int), Cond.methodLink RL 57 yX5_coefficient, Cond.instanceMethod yX5_coefficient, Cond.selects RX5 yX5_coefficient yX5_coefficient, Cond.code yX5_coefficient cX5_coefficient 2 (some .int), Cond.methodLink RL 58 yX4_number, Cond.instanceMethod yX4_number, Cond.selects RX4 yX4_number yX4_number, Cond.code yX4_number cX4_number 2 (some .int), Cond.methodLink RL 61 yX5_number, Cond.instanceMethod yX5_number, Cond.selects RX5 yX5_number yX5_number, Cond.code yX5_number cX5_number 2 (some .int), Cond.methodLink RL 62 yX4_verify, Cond.instanceMethod yX4_verify, Cond.selects RX4 yX4_verify yX4_verify, Cond.code yX4_verify cX4_verify 1 (some .boolean)]
def wsL_law_r16 : List Cond := [Cond.methodLink RL 66 yX5_verify, Cond.instanceMethod yX5_verify, Cond.selects RX5 yX5_verify yX5_verify, Cond.code yX5_verify cX5_verify 1 (some .boolean), Cond.methodLink RL 67 yX4_products, Cond.instanceMethod yX4_products, Cond.selects RX4 yX4_products yX4_products, Cond.code yX4_products cX4_products 1 (some .int), Cond.fieldLink RX4 132 "KrylovDesk$Matrix" "productsMade" "I", Cond.methodLink RL 70 yX5_products, Cond.instanceMethod yX5_products, Cond.selects RX5 yX5_products yX5_products, Cond.code yX5_products cX5_products 1 (some .int), Cond.methodLink RL 71 yX4_count, Cond.instanceMethod yX4_count, Cond.selects RX4 yX4_count yX4_count, Cond.code yX4_count cX4_count 2 (some .int), Cond.fieldLink RX4 135 "KrylovDesk$Modulus" "prime" "I", Cond.fieldLink RX4 138 "KrylovDesk$Matrix" "held" "I", Cond.fieldLink RX4 141 "KrylovDesk$Generator" "state" "I", Cond.methodLink RL 74 yX5_count, Cond.instanceMethod yX5_count, Cond.selects RX5 yX5_count yX5_count, Cond.code yX5_count cX5_count 2 (some .int)]
def wsL_law : List Cond := (wsL_law_r1 ++ (wsL_law_r2 ++ (wsL_law_r3 ++ (wsL_law_r4 ++ (wsL_law_r5 ++ (wsL_law_r6 ++ (wsL_law_r7 ++ (wsL_law_r8 ++ (wsL_law_r9 ++ (wsL_law_r10 ++ (wsL_law_r11 ++ (wsL_law_r12 ++ (wsL_law_r13 ++ (wsL_law_r14 ++ (wsL_law_r15 ++ wsL_law_r16))))))))))))))) ++ wsX40 ++ wsX50 ++ wsX20 ++ wsX10 ++ wsX00 ++ wsX30 ++ ([] : List Cond)
set_option maxRecDepth 20000 in
theorem wsL_law_in : ∀ w ∈ wsL_law, w ∈ lw_tbl := fun w h => (goodIn_p wsL_law [341, 35, 38, 41, 44, 47, 53, 56, 59, 71, 102, 113, 346, 351, 182, 186, 190, 194, 198, 202, 423, 427, 431, 206, 435, 210, 214, 439, 219, 223, 227, 233, 240, 244, 248, 251, 257, 262, 266, 270, 275, 281, 285, 289, 293, 299, 305, 444, 448, 452, 460, 464, 468, 472, 476, 480, 309, 484, 314, 489, 318, 493, 322, 497, 326, 501, 330, 505, 334, 509, 338, 513] (by decide +kernel) (by decide +kernel) w h).1
theorem inlX0 : ∀ w ∈ wsX00, w ∈ wsL_law := fun _ h => List.mem_append_left _ (List.mem_append_left _ (List.mem_append_right _ h))
theorem inX0 : ∀ w ∈ wsX00, w ∈ lw_tbl := fun w h => wsL_law_in w (inlX0 w h)
theorem inlX1 : ∀ w ∈ wsX10, w ∈ wsL_law := fun _ h => List.mem_append_left _ (List.mem_append_left _ (List.mem_append_left _ (List.mem_append_right _ h)))
theorem inX1 : ∀ w ∈ wsX10, w ∈ lw_tbl := fun w h => wsL_law_in w (inlX1 w h)
theorem inlX2 : ∀ w ∈ wsX20, w ∈ wsL_law := fun _ h => List.mem_append_left _ (List.mem_append_left _ (List.mem_append_left _ (List.mem_append_left _ (List.mem_append_right _ h))))
theorem inX2 : ∀ w ∈ wsX20, w ∈ lw_tbl := fun w h => wsL_law_in w (inlX2 w h)
theorem inlX3 : ∀ w ∈ wsX30, w ∈ wsL_law := fun _ h => List.mem_append_left _ (List.mem_append_right _ h)
theorem inX3 : ∀ w ∈ wsX30, w ∈ lw_tbl := fun w h => wsL_law_in w (inlX3 w h)
theorem inlX4 : ∀ w ∈ wsX40, w ∈ wsL_law := fun _ h => List.mem_append_left _ (List.mem_append_left _ (List.mem_append_left _ (List.mem_append_left _ (List.mem_append_left _ (List.mem_append_left _ (List.mem_append_right _ h))))))
theorem inX4 : ∀ w ∈ wsX40, w ∈ lw_tbl := fun w h => wsL_law_in w (inlX4 w h)
theorem inlX5 : ∀ w ∈ wsX50, w ∈ wsL_law := fun _ h => List.mem_append_left _ (List.mem_append_left _ (List.mem_append_left _ (List.mem_append_left _ (List.mem_append_left _ (List.mem_append_right _ h)))))
theorem inX5 : ∀ w ∈ wsX50, w ∈ lw_tbl := fun w h => wsL_law_in w (inlX5 w h)
theorem inJ9 : ∀ w ∈ wsJ90, w ∈ lw_tbl := by decide +kernel
theorem inJ10 : ∀ w ∈ wsJ100, w ∈ lw_tbl := by decide +kernel
theorem inJ7 : ∀ w ∈ wsJ70, w ∈ lw_tbl := by decide +kernel
theorem dX0_init_0 : decode cX0_init 0 = .ok (.aload_n 0, 1) := by decide +kernel
theorem dX0_init_1 : decode cX0_init 1 = .ok (.invokespecial 1, 3) := by decide +kernel
theorem dX0_init_4 : decode cX0_init 4 = .ok (.aload_n 0, 1) := by decide +kernel
theorem dX0_init_5 : decode cX0_init 5 = .ok (.iconst 1, 1) := by decide +kernel
theorem dX0_init_6 : decode cX0_init 6 = .ok (.putfield 7, 3) := by decide +kernel
theorem dX0_init_9 : decode cX0_init 9 = .ok (.return_, 1) := by decide +kernel
theorem dX0_restart_0 : decode cX0_restart 0 = .ok (.aload_n 0, 1) := by decide +kernel
theorem dX0_restart_1 : decode cX0_restart 1 = .ok (.iload_n 1, 1) := by decide +kernel
theorem dX0_restart_2 : decode cX0_restart 2 = .ok (.ldc 13, 2) := by decide +kernel
theorem dX0_restart_4 : decode cX0_restart 4 = .ok (.iand, 1) := by decide +kernel
theorem dX0_restart_5 : decode cX0_restart 5 = .ok (.putfield 7, 3) := by decide +kernel
theorem dX0_restart_8 : decode cX0_restart 8 = .ok (.return_, 1) := by decide +kernel
theorem dX0_next_0 : decode cX0_next 0 = .ok (.aload_n 0, 1) := by decide +kernel
theorem dX0_next_1 : decode cX0_next 1 = .ok (.ldc 14, 2) := by decide +kernel
theorem dX0_next_3 : decode cX0_next 3 = .ok (.aload_n 0, 1) := by decide +kernel
theorem dX0_next_4 : decode cX0_next 4 = .ok (.getfield 7, 3) := by decide +kernel
theorem dX0_next_7 : decode cX0_next 7 = .ok (.imul, 1) := by decide +kernel
theorem dX0_next_8 : decode cX0_next 8 = .ok (.sipush 12345, 3) := by decide +kernel
theorem dX0_next_11 : decode cX0_next 11 = .ok (.iadd, 1) := by decide +kernel
theorem dX0_next_12 : decode cX0_next 12 = .ok (.ldc 13, 2) := by decide +kernel
theorem dX0_next_14 : decode cX0_next 14 = .ok (.iand, 1) := by decide +kernel
theorem dX0_next_15 : decode cX0_next 15 = .ok (.putfield 7, 3) := by decide +kernel
theorem dX0_next_18 : decode cX0_next 18 = .ok (.aload_n 0, 1) := by decide +kernel
theorem dX0_next_19 : decode cX0_next 19 = .ok (.getfield 7, 3) := by decide +kernel
theorem dX0_next_22 : decode cX0_next 22 = .ok (.ldc 15, 2) := by decide +kernel
theorem dX0_next_24 : decode cX0_next 24 = .ok (.idiv, 1) := by decide +kernel
theorem dX0_next_25 : decode cX0_next 25 = .ok (.ireturn, 1) := by decide +kernel
theorem dX1_init_0 : decode cX1_init 0 = .ok (.aload_n 0, 1) := by decide +kernel
theorem dX1_init_1 : decode cX1_init 1 = .ok (.invokespecial 1, 3) := by decide +kernel
theorem dX1_init_4 : decode cX1_init 4 = .ok (.aload_n 0, 1) := by decide +kernel
theorem dX1_init_5 : decode cX1_init 5 = .ok (.aload_n 1, 1) := by decide +kernel
theorem dX1_init_6 : decode cX1_init 6 = .ok (.putfield 7, 3) := by decide +kernel
theorem dX1_init_9 : decode cX1_init 9 = .ok (.aload_n 0, 1) := by decide +kernel
theorem dX1_init_10 : decode cX1_init 10 = .ok (.iload_n 3, 1) := by decide +kernel
theorem dX1_init_11 : decode cX1_init 11 = .ok (.newarray .int, 2) := by decide +kernel
theorem dX1_init_13 : decode cX1_init 13 = .ok (.putfield 13, 3) := by decide +kernel
theorem dX1_init_16 : decode cX1_init 16 = .ok (.aload_n 0, 1) := by decide +kernel
theorem dX1_init_17 : decode cX1_init 17 = .ok (.iload_n 3, 1) := by decide +kernel
theorem dX1_init_18 : decode cX1_init 18 = .ok (.newarray .int, 2) := by decide +kernel
theorem dX1_init_20 : decode cX1_init 20 = .ok (.putfield 17, 3) := by decide +kernel
theorem dX1_init_23 : decode cX1_init 23 = .ok (.aload_n 0, 1) := by decide +kernel
theorem dX1_init_24 : decode cX1_init 24 = .ok (.iload_n 3, 1) := by decide +kernel
theorem dX1_init_25 : decode cX1_init 25 = .ok (.newarray .int, 2) := by decide +kernel
theorem dX1_init_27 : decode cX1_init 27 = .ok (.putfield 20, 3) := by decide +kernel
theorem dX1_init_30 : decode cX1_init 30 = .ok (.aload_n 0, 1) := by decide +kernel
theorem dX1_init_31 : decode cX1_init 31 = .ok (.iload_n 2, 1) := by decide +kernel
theorem dX1_init_32 : decode cX1_init 32 = .ok (.newarray .int, 2) := by decide +kernel
theorem dX1_init_34 : decode cX1_init 34 = .ok (.putfield 23, 3) := by decide +kernel
theorem dX1_init_37 : decode cX1_init 37 = .ok (.return_, 1) := by decide +kernel
theorem dX1_isFull_0 : decode cX1_isFull 0 = .ok (.aload_n 0, 1) := by decide +kernel
theorem dX1_isFull_1 : decode cX1_isFull 1 = .ok (.getfield 26, 3) := by decide +kernel
theorem dX1_isFull_4 : decode cX1_isFull 4 = .ok (.aload_n 0, 1) := by decide +kernel
theorem dX1_isFull_5 : decode cX1_isFull 5 = .ok (.getfield 20, 3) := by decide +kernel
theorem dX1_isFull_8 : decode cX1_isFull 8 = .ok (.arraylength, 1) := by decide +kernel
theorem dX1_isFull_9 : decode cX1_isFull 9 = .ok (.if_icmp .lt 7, 3) := by decide +kernel
theorem dX1_isFull_12 : decode cX1_isFull 12 = .ok (.iconst 1, 1) := by decide +kernel
theorem dX1_isFull_13 : decode cX1_isFull 13 = .ok (.goto 4, 3) := by decide +kernel
theorem dX1_isFull_16 : decode cX1_isFull 16 = .ok (.iconst 0, 1) := by decide +kernel
theorem dX1_isFull_17 : decode cX1_isFull 17 = .ok (.ireturn, 1) := by decide +kernel
theorem dX1_put_0 : decode cX1_put 0 = .ok (.aload_n 0, 1) := by decide +kernel
theorem dX1_put_1 : decode cX1_put 1 = .ok (.getfield 13, 3) := by decide +kernel
theorem dX1_put_4 : decode cX1_put 4 = .ok (.aload_n 0, 1) := by decide +kernel
theorem dX1_put_5 : decode cX1_put 5 = .ok (.getfield 26, 3) := by decide +kernel
theorem dX1_put_8 : decode cX1_put 8 = .ok (.iload_n 1, 1) := by decide +kernel
theorem dX1_put_9 : decode cX1_put 9 = .ok (.iastore, 1) := by decide +kernel
theorem dX1_put_10 : decode cX1_put 10 = .ok (.aload_n 0, 1) := by decide +kernel
theorem dX1_put_11 : decode cX1_put 11 = .ok (.getfield 17, 3) := by decide +kernel
theorem dX1_put_14 : decode cX1_put 14 = .ok (.aload_n 0, 1) := by decide +kernel
theorem dX1_put_15 : decode cX1_put 15 = .ok (.getfield 26, 3) := by decide +kernel
theorem dX1_put_18 : decode cX1_put 18 = .ok (.iload_n 2, 1) := by decide +kernel
theorem dX1_put_19 : decode cX1_put 19 = .ok (.iastore, 1) := by decide +kernel
theorem dX1_put_20 : decode cX1_put 20 = .ok (.aload_n 0, 1) := by decide +kernel
theorem dX1_put_21 : decode cX1_put 21 = .ok (.getfield 20, 3) := by decide +kernel
theorem dX1_put_24 : decode cX1_put 24 = .ok (.aload_n 0, 1) := by decide +kernel
theorem dX1_put_25 : decode cX1_put 25 = .ok (.getfield 26, 3) := by decide +kernel
theorem dX1_put_28 : decode cX1_put 28 = .ok (.iload_n 3, 1) := by decide +kernel
theorem dX1_put_29 : decode cX1_put 29 = .ok (.iastore, 1) := by decide +kernel
theorem dX1_put_30 : decode cX1_put 30 = .ok (.aload_n 0, 1) := by decide +kernel
theorem dX1_put_31 : decode cX1_put 31 = .ok (.dup, 1) := by decide +kernel
theorem dX1_put_32 : decode cX1_put 32 = .ok (.getfield 26, 3) := by decide +kernel
theorem dX1_put_35 : decode cX1_put 35 = .ok (.iconst 1, 1) := by decide +kernel
theorem dX1_put_36 : decode cX1_put 36 = .ok (.iadd, 1) := by decide +kernel
theorem dX1_put_37 : decode cX1_put 37 = .ok (.putfield 26, 3) := by decide +kernel
theorem dX1_put_40 : decode cX1_put 40 = .ok (.return_, 1) := by decide +kernel
set_option maxRecDepth 20000 in
theorem ggX1_apply_J7_fill_53178 : GoodIn wsX1_apply wsJ7_fill_53178 := goodIn_r _ [15] (by decide +kernel) (by decide +kernel)
set_option maxRecDepth 20000 in
theorem gX1_apply_J7_fill_53178 : GoodIn wsX1_apply (va_wsS RX1 33 yJ7_fill_53178 wsJ7_fill_53178) := goodIn_app (goodIn_of _ (by decide +kernel)) ggX1_apply_J7_fill_53178
set_option maxRecDepth 20000 in
theorem ggX1_apply_X2_plusProduct : GoodIn wsX1_apply wsX2_plusProduct := goodIn_r _ [20, 21, 29] (by decide +kernel) (by decide +kernel)
set_option maxRecDepth 20000 in
theorem gX1_apply_X2_plusProduct : GoodIn wsX1_apply (wsV RX1 39 RX2 yX2_plusProduct wsX2_plusProduct) := goodIn_app (goodIn_of _ (by decide +kernel)) ggX1_apply_X2_plusProduct
theorem dX1_apply_0 : decode cX1_apply 0 = .ok (.aload_n 0, 1) := by decide +kernel
theorem dX1_apply_1 : decode cX1_apply 1 = .ok (.dup, 1) := by decide +kernel
theorem dX1_apply_2 : decode cX1_apply 2 = .ok (.getfield 30, 3) := by decide +kernel
theorem dX1_apply_5 : decode cX1_apply 5 = .ok (.iconst 1, 1) := by decide +kernel
theorem dX1_apply_6 : decode cX1_apply 6 = .ok (.iadd, 1) := by decide +kernel
theorem dX1_apply_7 : decode cX1_apply 7 = .ok (.putfield 30, 3) := by decide +kernel
theorem dX1_apply_10 : decode cX1_apply 10 = .ok (.aload_n 0, 1) := by decide +kernel
theorem dX1_apply_11 : decode cX1_apply 11 = .ok (.getfield 23, 3) := by decide +kernel
theorem dX1_apply_14 : decode cX1_apply 14 = .ok (.iconst 0, 1) := by decide +kernel
theorem dX1_apply_15 : decode cX1_apply 15 = .ok (.invokestatic 33, 3) := by decide +kernel
theorem dX1_apply_18 : decode cX1_apply 18 = .ok (.iconst 0, 1) := by decide +kernel
theorem dX1_apply_19 : decode cX1_apply 19 = .ok (.istore_n 2, 1) := by decide +kernel
theorem dX1_apply_20 : decode cX1_apply 20 = .ok (.iload_n 2, 1) := by decide +kernel
theorem dX1_apply_21 : decode cX1_apply 21 = .ok (.aload_n 0, 1) := by decide +kernel
theorem dX1_apply_22 : decode cX1_apply 22 = .ok (.getfield 26, 3) := by decide +kernel
theorem dX1_apply_25 : decode cX1_apply 25 = .ok (.if_icmp .ge 49, 3) := by decide +kernel
theorem dX1_apply_28 : decode cX1_apply 28 = .ok (.aload_n 0, 1) := by decide +kernel
theorem dX1_apply_29 : decode cX1_apply 29 = .ok (.getfield 13, 3) := by decide +kernel
theorem dX1_apply_32 : decode cX1_apply 32 = .ok (.iload_n 2, 1) := by decide +kernel
theorem dX1_apply_33 : decode cX1_apply 33 = .ok (.iaload, 1) := by decide +kernel
theorem dX1_apply_34 : decode cX1_apply 34 = .ok (.istore_n 3, 1) := by decide +kernel
theorem dX1_apply_35 : decode cX1_apply 35 = .ok (.aload_n 0, 1) := by decide +kernel
theorem dX1_apply_36 : decode cX1_apply 36 = .ok (.getfield 23, 3) := by decide +kernel
theorem dX1_apply_39 : decode cX1_apply 39 = .ok (.iload_n 3, 1) := by decide +kernel
theorem dX1_apply_40 : decode cX1_apply 40 = .ok (.aload_n 0, 1) := by decide +kernel
theorem dX1_apply_41 : decode cX1_apply 41 = .ok (.getfield 7, 3) := by decide +kernel
theorem dX1_apply_44 : decode cX1_apply 44 = .ok (.aload_n 0, 1) := by decide +kernel
theorem dX1_apply_45 : decode cX1_apply 45 = .ok (.getfield 23, 3) := by decide +kernel
theorem dX1_apply_48 : decode cX1_apply 48 = .ok (.iload_n 3, 1) := by decide +kernel
theorem dX1_apply_49 : decode cX1_apply 49 = .ok (.iaload, 1) := by decide +kernel
theorem dX1_apply_50 : decode cX1_apply 50 = .ok (.aload_n 0, 1) := by decide +kernel
theorem dX1_apply_51 : decode cX1_apply 51 = .ok (.getfield 20, 3) := by decide +kernel
theorem dX1_apply_54 : decode cX1_apply 54 = .ok (.iload_n 2, 1) := by decide +kernel
theorem dX1_apply_55 : decode cX1_apply 55 = .ok (.iaload, 1) := by decide +kernel
theorem dX1_apply_56 : decode cX1_apply 56 = .ok (.aload_n 1, 1) := by decide +kernel
theorem dX1_apply_57 : decode cX1_apply 57 = .ok (.aload_n 0, 1) := by decide +kernel
theorem dX1_apply_58 : decode cX1_apply 58 = .ok (.getfield 17, 3) := by decide +kernel
theorem dX1_apply_61 : decode cX1_apply 61 = .ok (.iload_n 2, 1) := by decide +kernel
theorem dX1_apply_62 : decode cX1_apply 62 = .ok (.iaload, 1) := by decide +kernel
theorem dX1_apply_63 : decode cX1_apply 63 = .ok (.iaload, 1) := by decide +kernel
theorem dX1_apply_64 : decode cX1_apply 64 = .ok (.invokevirtual 39, 3) := by decide +kernel
theorem dX1_apply_67 : decode cX1_apply 67 = .ok (.iastore, 1) := by decide +kernel
theorem dX1_apply_68 : decode cX1_apply 68 = .ok (.iinc 2 1, 3) := by decide +kernel
theorem dX1_apply_71 : decode cX1_apply 71 = .ok (.goto (-51), 3) := by decide +kernel
theorem dX1_apply_74 : decode cX1_apply 74 = .ok (.aload_n 0, 1) := by decide +kernel
theorem dX1_apply_75 : decode cX1_apply 75 = .ok (.getfield 23, 3) := by decide +kernel
theorem dX1_apply_78 : decode cX1_apply 78 = .ok (.iconst 0, 1) := by decide +kernel
theorem dX1_apply_79 : decode cX1_apply 79 = .ok (.aload_n 1, 1) := by decide +kernel
theorem dX1_apply_80 : decode cX1_apply 80 = .ok (.iconst 0, 1) := by decide +kernel
theorem dX1_apply_81 : decode cX1_apply 81 = .ok (.aload_n 0, 1) := by decide +kernel
theorem dX1_apply_82 : decode cX1_apply 82 = .ok (.getfield 23, 3) := by decide +kernel
theorem dX1_apply_85 : decode cX1_apply 85 = .ok (.arraylength, 1) := by decide +kernel
theorem dX1_apply_86 : decode cX1_apply 86 = .ok (.invokestatic 45, 3) := by decide +kernel
theorem dX1_apply_89 : decode cX1_apply 89 = .ok (.return_, 1) := by decide +kernel
theorem dX2_init_0 : decode cX2_init 0 = .ok (.aload_n 0, 1) := by decide +kernel
theorem dX2_init_1 : decode cX2_init 1 = .ok (.invokespecial 3, 3) := by decide +kernel
theorem dX2_init_4 : decode cX2_init 4 = .ok (.aload_n 0, 1) := by decide +kernel
theorem dX2_init_5 : decode cX2_init 5 = .ok (.iconst 2, 1) := by decide +kernel
theorem dX2_init_6 : decode cX2_init 6 = .ok (.iload_n 1, 1) := by decide +kernel
theorem dX2_init_7 : decode cX2_init 7 = .ok (.invokestatic 9, 3) := by decide +kernel
theorem dX2_init_10 : decode cX2_init 10 = .ok (.putfield 15, 3) := by decide +kernel
theorem dX2_init_13 : decode cX2_init 13 = .ok (.return_, 1) := by decide +kernel
theorem dX2_reduce_0 : decode cX2_reduce 0 = .ok (.iload_n 1, 1) := by decide +kernel
theorem dX2_reduce_1 : decode cX2_reduce 1 = .ok (.aload_n 0, 1) := by decide +kernel
theorem dX2_reduce_2 : decode cX2_reduce 2 = .ok (.getfield 15, 3) := by decide +kernel
theorem dX2_reduce_5 : decode cX2_reduce 5 = .ok (.irem, 1) := by decide +kernel
theorem dX2_reduce_6 : decode cX2_reduce 6 = .ok (.istore_n 2, 1) := by decide +kernel
theorem dX2_reduce_7 : decode cX2_reduce 7 = .ok (.iload_n 2, 1) := by decide +kernel
theorem dX2_reduce_8 : decode cX2_reduce 8 = .ok (.ifCond .ge 12, 3) := by decide +kernel
theorem dX2_reduce_11 : decode cX2_reduce 11 = .ok (.iload_n 2, 1) := by decide +kernel
theorem dX2_reduce_12 : decode cX2_reduce 12 = .ok (.aload_n 0, 1) := by decide +kernel
theorem dX2_reduce_13 : decode cX2_reduce 13 = .ok (.getfield 15, 3) := by decide +kernel
theorem dX2_reduce_16 : decode cX2_reduce 16 = .ok (.iadd, 1) := by decide +kernel
theorem dX2_reduce_17 : decode cX2_reduce 17 = .ok (.goto 4, 3) := by decide +kernel
theorem dX2_reduce_20 : decode cX2_reduce 20 = .ok (.iload_n 2, 1) := by decide +kernel
theorem dX2_reduce_21 : decode cX2_reduce 21 = .ok (.ireturn, 1) := by decide +kernel
theorem dX2_negative_0 : decode cX2_negative 0 = .ok (.iload_n 1, 1) := by decide +kernel
theorem dX2_negative_1 : decode cX2_negative 1 = .ok (.ifCond .ne 7, 3) := by decide +kernel
theorem dX2_negative_4 : decode cX2_negative 4 = .ok (.iconst 0, 1) := by decide +kernel
theorem dX2_negative_5 : decode cX2_negative 5 = .ok (.goto 9, 3) := by decide +kernel
theorem dX2_negative_8 : decode cX2_negative 8 = .ok (.aload_n 0, 1) := by decide +kernel
theorem dX2_negative_9 : decode cX2_negative 9 = .ok (.getfield 15, 3) := by decide +kernel
theorem dX2_negative_12 : decode cX2_negative 12 = .ok (.iload_n 1, 1) := by decide +kernel
theorem dX2_negative_13 : decode cX2_negative 13 = .ok (.isub, 1) := by decide +kernel
theorem dX2_negative_14 : decode cX2_negative 14 = .ok (.ireturn, 1) := by decide +kernel
theorem dX2_plusProduct_0 : decode cX2_plusProduct 0 = .ok (.iload_n 1, 1) := by decide +kernel
theorem dX2_plusProduct_1 : decode cX2_plusProduct 1 = .ok (.i2l, 1) := by decide +kernel
theorem dX2_plusProduct_2 : decode cX2_plusProduct 2 = .ok (.iload_n 2, 1) := by decide +kernel
theorem dX2_plusProduct_3 : decode cX2_plusProduct 3 = .ok (.i2l, 1) := by decide +kernel
theorem dX2_plusProduct_4 : decode cX2_plusProduct 4 = .ok (.iload_n 3, 1) := by decide +kernel
theorem dX2_plusProduct_5 : decode cX2_plusProduct 5 = .ok (.i2l, 1) := by decide +kernel
theorem dX2_plusProduct_6 : decode cX2_plusProduct 6 = .ok (.lmul, 1) := by decide +kernel
theorem dX2_plusProduct_7 : decode cX2_plusProduct 7 = .ok (.ladd, 1) := by decide +kernel
theorem dX2_plusProduct_8 : decode cX2_plusProduct 8 = .ok (.aload_n 0, 1) := by decide +kernel
theorem dX2_plusProduct_9 : decode cX2_plusProduct 9 = .ok (.getfield 15, 3) := by decide +kernel
theorem dX2_plusProduct_12 : decode cX2_plusProduct 12 = .ok (.i2l, 1) := by decide +kernel
theorem dX2_plusProduct_13 : decode cX2_plusProduct 13 = .ok (.lrem, 1) := by decide +kernel
theorem dX2_plusProduct_14 : decode cX2_plusProduct 14 = .ok (.l2i, 1) := by decide +kernel
theorem dX2_plusProduct_15 : decode cX2_plusProduct 15 = .ok (.ireturn, 1) := by decide +kernel
set_option maxRecDepth 20000 in
theorem ggX2_inverse_X2_plusProduct : GoodIn wsX2_inverse wsX2_plusProduct := goodIn_r _ [6, 1, 7] (by decide +kernel) (by decide +kernel)
set_option maxRecDepth 20000 in
theorem gX2_inverse_X2_plusProduct : GoodIn wsX2_inverse (wsV RX2 21 RX2 yX2_plusProduct wsX2_plusProduct) := goodIn_app (goodIn_of _ (by decide +kernel)) ggX2_inverse_X2_plusProduct
theorem dX2_inverse_0 : decode cX2_inverse 0 = .ok (.iconst 1, 1) := by decide +kernel
theorem dX2_inverse_1 : decode cX2_inverse 1 = .ok (.istore_n 2, 1) := by decide +kernel
theorem dX2_inverse_2 : decode cX2_inverse 2 = .ok (.iload_n 1, 1) := by decide +kernel
theorem dX2_inverse_3 : decode cX2_inverse 3 = .ok (.istore_n 3, 1) := by decide +kernel
theorem dX2_inverse_4 : decode cX2_inverse 4 = .ok (.aload_n 0, 1) := by decide +kernel
theorem dX2_inverse_5 : decode cX2_inverse 5 = .ok (.getfield 15, 3) := by decide +kernel
theorem dX2_inverse_8 : decode cX2_inverse 8 = .ok (.iconst 2, 1) := by decide +kernel
theorem dX2_inverse_9 : decode cX2_inverse 9 = .ok (.isub, 1) := by decide +kernel
theorem dX2_inverse_10 : decode cX2_inverse 10 = .ok (.istore 4, 2) := by decide +kernel
theorem dX2_inverse_12 : decode cX2_inverse 12 = .ok (.iload 4, 2) := by decide +kernel
theorem dX2_inverse_14 : decode cX2_inverse 14 = .ok (.ifCond .le 36, 3) := by decide +kernel
theorem dX2_inverse_17 : decode cX2_inverse 17 = .ok (.iload 4, 2) := by decide +kernel
theorem dX2_inverse_19 : decode cX2_inverse 19 = .ok (.iconst 2, 1) := by decide +kernel
theorem dX2_inverse_20 : decode cX2_inverse 20 = .ok (.irem, 1) := by decide +kernel
theorem dX2_inverse_21 : decode cX2_inverse 21 = .ok (.iconst 1, 1) := by decide +kernel
theorem dX2_inverse_22 : decode cX2_inverse 22 = .ok (.if_icmp .ne 11, 3) := by decide +kernel
theorem dX2_inverse_25 : decode cX2_inverse 25 = .ok (.aload_n 0, 1) := by decide +kernel
theorem dX2_inverse_26 : decode cX2_inverse 26 = .ok (.iconst 0, 1) := by decide +kernel
theorem dX2_inverse_27 : decode cX2_inverse 27 = .ok (.iload_n 2, 1) := by decide +kernel
theorem dX2_inverse_28 : decode cX2_inverse 28 = .ok (.iload_n 3, 1) := by decide +kernel
theorem dX2_inverse_29 : decode cX2_inverse 29 = .ok (.invokevirtual 21, 3) := by decide +kernel
theorem dX2_inverse_32 : decode cX2_inverse 32 = .ok (.istore_n 2, 1) := by decide +kernel
theorem dX2_inverse_33 : decode cX2_inverse 33 = .ok (.aload_n 0, 1) := by decide +kernel
theorem dX2_inverse_34 : decode cX2_inverse 34 = .ok (.iconst 0, 1) := by decide +kernel
theorem dX2_inverse_35 : decode cX2_inverse 35 = .ok (.iload_n 3, 1) := by decide +kernel
theorem dX2_inverse_36 : decode cX2_inverse 36 = .ok (.iload_n 3, 1) := by decide +kernel
theorem dX2_inverse_37 : decode cX2_inverse 37 = .ok (.invokevirtual 21, 3) := by decide +kernel
theorem dX2_inverse_40 : decode cX2_inverse 40 = .ok (.istore_n 3, 1) := by decide +kernel
theorem dX2_inverse_41 : decode cX2_inverse 41 = .ok (.iload 4, 2) := by decide +kernel
theorem dX2_inverse_43 : decode cX2_inverse 43 = .ok (.iconst 2, 1) := by decide +kernel
theorem dX2_inverse_44 : decode cX2_inverse 44 = .ok (.idiv, 1) := by decide +kernel
theorem dX2_inverse_45 : decode cX2_inverse 45 = .ok (.istore 4, 2) := by decide +kernel
theorem dX2_inverse_47 : decode cX2_inverse 47 = .ok (.goto (-35), 3) := by decide +kernel
theorem dX2_inverse_50 : decode cX2_inverse 50 = .ok (.iload_n 2, 1) := by decide +kernel
theorem dX2_inverse_51 : decode cX2_inverse 51 = .ok (.ireturn, 1) := by decide +kernel
theorem dX3_init_0 : decode cX3_init 0 = .ok (.aload_n 0, 1) := by decide +kernel
theorem dX3_init_1 : decode cX3_init 1 = .ok (.invokespecial 1, 3) := by decide +kernel
theorem dX3_init_4 : decode cX3_init 4 = .ok (.aload_n 0, 1) := by decide +kernel
theorem dX3_init_5 : decode cX3_init 5 = .ok (.aload_n 1, 1) := by decide +kernel
theorem dX3_init_6 : decode cX3_init 6 = .ok (.putfield 7, 3) := by decide +kernel
theorem dX3_init_9 : decode cX3_init 9 = .ok (.iconst 0, 1) := by decide +kernel
theorem dX3_init_10 : decode cX3_init 10 = .ok (.iload_n 2, 1) := by decide +kernel
theorem dX3_init_11 : decode cX3_init 11 = .ok (.invokestatic 13, 3) := by decide +kernel
theorem dX3_init_14 : decode cX3_init 14 = .ok (.iconst 1, 1) := by decide +kernel
theorem dX3_init_15 : decode cX3_init 15 = .ok (.iadd, 1) := by decide +kernel
theorem dX3_init_16 : decode cX3_init 16 = .ok (.istore_n 3, 1) := by decide +kernel
theorem dX3_init_17 : decode cX3_init 17 = .ok (.aload_n 0, 1) := by decide +kernel
theorem dX3_init_18 : decode cX3_init 18 = .ok (.iload_n 3, 1) := by decide +kernel
theorem dX3_init_19 : decode cX3_init 19 = .ok (.newarray .int, 2) := by decide +kernel
theorem dX3_init_21 : decode cX3_init 21 = .ok (.putfield 19, 3) := by decide +kernel
theorem dX3_init_24 : decode cX3_init 24 = .ok (.aload_n 0, 1) := by decide +kernel
theorem dX3_init_25 : decode cX3_init 25 = .ok (.iload_n 3, 1) := by decide +kernel
theorem dX3_init_26 : decode cX3_init 26 = .ok (.newarray .int, 2) := by decide +kernel
theorem dX3_init_28 : decode cX3_init 28 = .ok (.putfield 23, 3) := by decide +kernel
theorem dX3_init_31 : decode cX3_init 31 = .ok (.aload_n 0, 1) := by decide +kernel
theorem dX3_init_32 : decode cX3_init 32 = .ok (.iload_n 3, 1) := by decide +kernel
theorem dX3_init_33 : decode cX3_init 33 = .ok (.newarray .int, 2) := by decide +kernel
theorem dX3_init_35 : decode cX3_init 35 = .ok (.putfield 26, 3) := by decide +kernel
theorem dX3_init_38 : decode cX3_init 38 = .ok (.return_, 1) := by decide +kernel
theorem dX3_term_0 : decode cX3_term 0 = .ok (.iload_n 1, 1) := by decide +kernel
theorem dX3_term_1 : decode cX3_term 1 = .ok (.ifCond .lt 21, 3) := by decide +kernel
theorem dX3_term_4 : decode cX3_term 4 = .ok (.iload_n 1, 1) := by decide +kernel
theorem dX3_term_5 : decode cX3_term 5 = .ok (.aload_n 0, 1) := by decide +kernel
theorem dX3_term_6 : decode cX3_term 6 = .ok (.getfield 19, 3) := by decide +kernel
theorem dX3_term_9 : decode cX3_term 9 = .ok (.arraylength, 1) := by decide +kernel
theorem dX3_term_10 : decode cX3_term 10 = .ok (.if_icmp .ge 12, 3) := by decide +kernel
theorem dX3_term_13 : decode cX3_term 13 = .ok (.aload_n 0, 1) := by decide +kernel
theorem dX3_term_14 : decode cX3_term 14 = .ok (.getfield 19, 3) := by decide +kernel
theorem dX3_term_17 : decode cX3_term 17 = .ok (.iload_n 1, 1) := by decide +kernel
theorem dX3_term_18 : decode cX3_term 18 = .ok (.iaload, 1) := by decide +kernel
theorem dX3_term_19 : decode cX3_term 19 = .ok (.goto 4, 3) := by decide +kernel
theorem dX3_term_22 : decode cX3_term 22 = .ok (.iconst 0, 1) := by decide +kernel
theorem dX3_term_23 : decode cX3_term 23 = .ok (.ireturn, 1) := by decide +kernel
set_option maxRecDepth 20000 in
theorem ggX3_lastTerm_X3_term : GoodIn wsX3_lastTerm wsX3_term := goodIn_r _ [6, 7, 8, 9, 10, 11, 12, 13, 14] (by decide +kernel) (by decide +kernel)
set_option maxRecDepth 20000 in
theorem gX3_lastTerm_X3_term : GoodIn wsX3_lastTerm (wsV RX3 33 RX3 yX3_term wsX3_term) := goodIn_app (goodIn_of _ (by decide +kernel)) ggX3_lastTerm_X3_term
theorem dX3_lastTerm_0 : decode cX3_lastTerm 0 = .ok (.aload_n 0, 1) := by decide +kernel
theorem dX3_lastTerm_1 : decode cX3_lastTerm 1 = .ok (.aload_n 0, 1) := by decide +kernel
theorem dX3_lastTerm_2 : decode cX3_lastTerm 2 = .ok (.getfield 29, 3) := by decide +kernel
theorem dX3_lastTerm_5 : decode cX3_lastTerm 5 = .ok (.invokevirtual 33, 3) := by decide +kernel
theorem dX3_lastTerm_8 : decode cX3_lastTerm 8 = .ok (.ireturn, 1) := by decide +kernel
set_option maxRecDepth 20000 in
theorem ggX3_find_J7_fill_53178 : GoodIn wsX3_find wsJ7_fill_53178 := goodIn_r _ [9] (by decide +kernel) (by decide +kernel)
set_option maxRecDepth 20000 in
theorem gX3_find_J7_fill_53178 : GoodIn wsX3_find (va_wsS RX3 37 yJ7_fill_53178 wsJ7_fill_53178) := goodIn_app (goodIn_of _ (by decide +kernel)) ggX3_find_J7_fill_53178
set_option maxRecDepth 20000 in
theorem ggX3_find_X3_learn : GoodIn wsX3_find wsX3_learn := goodIn_r _ [14, 4, 15, 5, 1, 16, 17, 18, 19, 20, 3, 2, 21, 22, 23, 13, 24, 25, 26, 27, 28, 29, 30, 31, 32, 33, 34, 35, 36, 37, 38, 39, 40, 41, 42, 43, 44, 45, 46, 47, 48, 49, 50, 51, 52, 53, 54, 55] (by decide +kernel) (by decide +kernel)
set_option maxRecDepth 20000 in
theorem gX3_find_X3_learn : GoodIn wsX3_find (wsV RX3 49 RX3 yX3_learn wsX3_learn) := goodIn_app (goodIn_of _ (by decide +kernel)) ggX3_find_X3_learn
theorem dX3_find_0 : decode cX3_find 0 = .ok (.aload_n 0, 1) := by decide +kernel
theorem dX3_find_1 : decode cX3_find 1 = .ok (.getfield 19, 3) := by decide +kernel
theorem dX3_find_4 : decode cX3_find 4 = .ok (.iconst 0, 1) := by decide +kernel
theorem dX3_find_5 : decode cX3_find 5 = .ok (.invokestatic 37, 3) := by decide +kernel
theorem dX3_find_8 : decode cX3_find 8 = .ok (.aload_n 0, 1) := by decide +kernel
theorem dX3_find_9 : decode cX3_find 9 = .ok (.getfield 23, 3) := by decide +kernel
theorem dX3_find_12 : decode cX3_find 12 = .ok (.iconst 0, 1) := by decide +kernel
theorem dX3_find_13 : decode cX3_find 13 = .ok (.invokestatic 37, 3) := by decide +kernel
theorem dX3_find_16 : decode cX3_find 16 = .ok (.aload_n 0, 1) := by decide +kernel
theorem dX3_find_17 : decode cX3_find 17 = .ok (.getfield 19, 3) := by decide +kernel
theorem dX3_find_20 : decode cX3_find 20 = .ok (.iconst 0, 1) := by decide +kernel
theorem dX3_find_21 : decode cX3_find 21 = .ok (.iconst 1, 1) := by decide +kernel
theorem dX3_find_22 : decode cX3_find 22 = .ok (.iastore, 1) := by decide +kernel
theorem dX3_find_23 : decode cX3_find 23 = .ok (.aload_n 0, 1) := by decide +kernel
theorem dX3_find_24 : decode cX3_find 24 = .ok (.getfield 23, 3) := by decide +kernel
theorem dX3_find_27 : decode cX3_find 27 = .ok (.iconst 0, 1) := by decide +kernel
theorem dX3_find_28 : decode cX3_find 28 = .ok (.iconst 1, 1) := by decide +kernel
theorem dX3_find_29 : decode cX3_find 29 = .ok (.iastore, 1) := by decide +kernel
theorem dX3_find_30 : decode cX3_find 30 = .ok (.aload_n 0, 1) := by decide +kernel
theorem dX3_find_31 : decode cX3_find 31 = .ok (.iconst 0, 1) := by decide +kernel
theorem dX3_find_32 : decode cX3_find 32 = .ok (.putfield 29, 3) := by decide +kernel
theorem dX3_find_35 : decode cX3_find 35 = .ok (.aload_n 0, 1) := by decide +kernel
theorem dX3_find_36 : decode cX3_find 36 = .ok (.iconst 1, 1) := by decide +kernel
theorem dX3_find_37 : decode cX3_find 37 = .ok (.putfield 43, 3) := by decide +kernel
theorem dX3_find_40 : decode cX3_find 40 = .ok (.aload_n 0, 1) := by decide +kernel
theorem dX3_find_41 : decode cX3_find 41 = .ok (.iconst 1, 1) := by decide +kernel
theorem dX3_find_42 : decode cX3_find 42 = .ok (.putfield 46, 3) := by decide +kernel
theorem dX3_find_45 : decode cX3_find 45 = .ok (.iconst 0, 1) := by decide +kernel
theorem dX3_find_46 : decode cX3_find 46 = .ok (.istore_n 2, 1) := by decide +kernel
theorem dX3_find_47 : decode cX3_find 47 = .ok (.iload_n 2, 1) := by decide +kernel
theorem dX3_find_48 : decode cX3_find 48 = .ok (.aload_n 1, 1) := by decide +kernel
theorem dX3_find_49 : decode cX3_find 49 = .ok (.arraylength, 1) := by decide +kernel
theorem dX3_find_50 : decode cX3_find 50 = .ok (.if_icmp .ge 15, 3) := by decide +kernel
theorem dX3_find_53 : decode cX3_find 53 = .ok (.aload_n 0, 1) := by decide +kernel
theorem dX3_find_54 : decode cX3_find 54 = .ok (.aload_n 1, 1) := by decide +kernel
theorem dX3_find_55 : decode cX3_find 55 = .ok (.iload_n 2, 1) := by decide +kernel
theorem dX3_find_56 : decode cX3_find 56 = .ok (.invokevirtual 49, 3) := by decide +kernel
theorem dX3_find_59 : decode cX3_find 59 = .ok (.iinc 2 1, 3) := by decide +kernel
theorem dX3_find_62 : decode cX3_find 62 = .ok (.goto (-15), 3) := by decide +kernel
theorem dX3_find_65 : decode cX3_find 65 = .ok (.return_, 1) := by decide +kernel
set_option maxRecDepth 20000 in
theorem ggX3_learn_X3_missAt : GoodIn wsX3_learn wsX3_missAt := goodIn_r _ [16, 10, 2, 17, 18, 19, 15, 20, 4, 21, 22, 23, 24, 25, 26, 40, 41, 42, 43, 44, 45, 46, 47] (by decide +kernel) (by decide +kernel)
set_option maxRecDepth 20000 in
theorem gX3_learn_X3_missAt : GoodIn wsX3_learn (wsV RX3 52 RX3 yX3_missAt wsX3_missAt) := goodIn_app (goodIn_of _ (by decide +kernel)) ggX3_learn_X3_missAt
set_option maxRecDepth 20000 in
theorem ggX3_learn_X2_inverse : GoodIn wsX3_learn wsX2_inverse := goodIn_r _ [30, 26, 31, 22, 23, 24, 25, 47] (by decide +kernel) (by decide +kernel)
set_option maxRecDepth 20000 in
theorem gX3_learn_X2_inverse : GoodIn wsX3_learn (wsV RX3 56 RX2 yX2_inverse wsX2_inverse) := goodIn_app (goodIn_of _ (by decide +kernel)) ggX3_learn_X2_inverse
set_option maxRecDepth 20000 in
theorem ggX3_learn_X2_plusProduct : GoodIn wsX3_learn wsX2_plusProduct := goodIn_r _ [25, 26, 47] (by decide +kernel) (by decide +kernel)
set_option maxRecDepth 20000 in
theorem gX3_learn_X2_plusProduct : GoodIn wsX3_learn (wsV RX3 61 RX2 yX2_plusProduct wsX2_plusProduct) := goodIn_app (goodIn_of _ (by decide +kernel)) ggX3_learn_X2_plusProduct
set_option maxRecDepth 20000 in
theorem ggX3_learn_X3_subtractOlder : GoodIn wsX3_learn wsX3_subtractOlder := goodIn_r _ [35, 2, 1, 4, 11, 36, 37, 38, 24, 39, 26, 21, 22, 23, 25, 40, 41, 42, 43, 44, 45, 46, 47] (by decide +kernel) (by decide +kernel)
set_option maxRecDepth 20000 in
theorem gX3_learn_X3_subtractOlder : GoodIn wsX3_learn (wsV RX3 71 RX3 yX3_subtractOlder wsX3_subtractOlder) := goodIn_app (goodIn_of _ (by decide +kernel)) ggX3_learn_X3_subtractOlder
theorem dX3_learn_0 : decode cX3_learn 0 = .ok (.aload_n 0, 1) := by decide +kernel
theorem dX3_learn_1 : decode cX3_learn 1 = .ok (.aload_n 1, 1) := by decide +kernel
theorem dX3_learn_2 : decode cX3_learn 2 = .ok (.iload_n 2, 1) := by decide +kernel
theorem dX3_learn_3 : decode cX3_learn 3 = .ok (.invokevirtual 52, 3) := by decide +kernel
theorem dX3_learn_6 : decode cX3_learn 6 = .ok (.istore_n 3, 1) := by decide +kernel
theorem dX3_learn_7 : decode cX3_learn 7 = .ok (.iload_n 3, 1) := by decide +kernel
theorem dX3_learn_8 : decode cX3_learn 8 = .ok (.ifCond .ne 14, 3) := by decide +kernel
theorem dX3_learn_11 : decode cX3_learn 11 = .ok (.aload_n 0, 1) := by decide +kernel
theorem dX3_learn_12 : decode cX3_learn 12 = .ok (.dup, 1) := by decide +kernel
theorem dX3_learn_13 : decode cX3_learn 13 = .ok (.getfield 43, 3) := by decide +kernel
theorem dX3_learn_16 : decode cX3_learn 16 = .ok (.iconst 1, 1) := by decide +kernel
theorem dX3_learn_17 : decode cX3_learn 17 = .ok (.iadd, 1) := by decide +kernel
theorem dX3_learn_18 : decode cX3_learn 18 = .ok (.putfield 43, 3) := by decide +kernel
theorem dX3_learn_21 : decode cX3_learn 21 = .ok (.return_, 1) := by decide +kernel
theorem dX3_learn_22 : decode cX3_learn 22 = .ok (.aload_n 0, 1) := by decide +kernel
theorem dX3_learn_23 : decode cX3_learn 23 = .ok (.getfield 7, 3) := by decide +kernel
theorem dX3_learn_26 : decode cX3_learn 26 = .ok (.iconst 0, 1) := by decide +kernel
theorem dX3_learn_27 : decode cX3_learn 27 = .ok (.iload_n 3, 1) := by decide +kernel
theorem dX3_learn_28 : decode cX3_learn 28 = .ok (.aload_n 0, 1) := by decide +kernel
theorem dX3_learn_29 : decode cX3_learn 29 = .ok (.getfield 7, 3) := by decide +kernel
theorem dX3_learn_32 : decode cX3_learn 32 = .ok (.aload_n 0, 1) := by decide +kernel
theorem dX3_learn_33 : decode cX3_learn 33 = .ok (.getfield 46, 3) := by decide +kernel
theorem dX3_learn_36 : decode cX3_learn 36 = .ok (.invokevirtual 56, 3) := by decide +kernel
theorem dX3_learn_39 : decode cX3_learn 39 = .ok (.invokevirtual 61, 3) := by decide +kernel
theorem dX3_learn_42 : decode cX3_learn 42 = .ok (.istore 4, 2) := by decide +kernel
theorem dX3_learn_44 : decode cX3_learn 44 = .ok (.aload_n 0, 1) := by decide +kernel
theorem dX3_learn_45 : decode cX3_learn 45 = .ok (.getfield 19, 3) := by decide +kernel
theorem dX3_learn_48 : decode cX3_learn 48 = .ok (.iconst 0, 1) := by decide +kernel
theorem dX3_learn_49 : decode cX3_learn 49 = .ok (.aload_n 0, 1) := by decide +kernel
theorem dX3_learn_50 : decode cX3_learn 50 = .ok (.getfield 26, 3) := by decide +kernel
theorem dX3_learn_53 : decode cX3_learn 53 = .ok (.iconst 0, 1) := by decide +kernel
theorem dX3_learn_54 : decode cX3_learn 54 = .ok (.aload_n 0, 1) := by decide +kernel
theorem dX3_learn_55 : decode cX3_learn 55 = .ok (.getfield 19, 3) := by decide +kernel
theorem dX3_learn_58 : decode cX3_learn 58 = .ok (.arraylength, 1) := by decide +kernel
theorem dX3_learn_59 : decode cX3_learn 59 = .ok (.invokestatic 65, 3) := by decide +kernel
theorem dX3_learn_62 : decode cX3_learn 62 = .ok (.aload_n 0, 1) := by decide +kernel
theorem dX3_learn_63 : decode cX3_learn 63 = .ok (.iload 4, 2) := by decide +kernel
theorem dX3_learn_65 : decode cX3_learn 65 = .ok (.invokevirtual 71, 3) := by decide +kernel
theorem dX3_learn_68 : decode cX3_learn 68 = .ok (.iconst 2, 1) := by decide +kernel
theorem dX3_learn_69 : decode cX3_learn 69 = .ok (.aload_n 0, 1) := by decide +kernel
theorem dX3_learn_70 : decode cX3_learn 70 = .ok (.getfield 29, 3) := by decide +kernel
theorem dX3_learn_73 : decode cX3_learn 73 = .ok (.imul, 1) := by decide +kernel
theorem dX3_learn_74 : decode cX3_learn 74 = .ok (.iload_n 2, 1) := by decide +kernel
theorem dX3_learn_75 : decode cX3_learn 75 = .ok (.if_icmp .le 14, 3) := by decide +kernel
theorem dX3_learn_78 : decode cX3_learn 78 = .ok (.aload_n 0, 1) := by decide +kernel
theorem dX3_learn_79 : decode cX3_learn 79 = .ok (.dup, 1) := by decide +kernel
theorem dX3_learn_80 : decode cX3_learn 80 = .ok (.getfield 43, 3) := by decide +kernel
theorem dX3_learn_83 : decode cX3_learn 83 = .ok (.iconst 1, 1) := by decide +kernel
theorem dX3_learn_84 : decode cX3_learn 84 = .ok (.iadd, 1) := by decide +kernel
theorem dX3_learn_85 : decode cX3_learn 85 = .ok (.putfield 43, 3) := by decide +kernel
theorem dX3_learn_88 : decode cX3_learn 88 = .ok (.return_, 1) := by decide +kernel
theorem dX3_learn_89 : decode cX3_learn 89 = .ok (.aload_n 0, 1) := by decide +kernel
theorem dX3_learn_90 : decode cX3_learn 90 = .ok (.iload_n 2, 1) := by decide +kernel
theorem dX3_learn_91 : decode cX3_learn 91 = .ok (.iconst 1, 1) := by decide +kernel
theorem dX3_learn_92 : decode cX3_learn 92 = .ok (.iadd, 1) := by decide +kernel
theorem dX3_learn_93 : decode cX3_learn 93 = .ok (.aload_n 0, 1) := by decide +kernel
theorem dX3_learn_94 : decode cX3_learn 94 = .ok (.getfield 29, 3) := by decide +kernel
theorem dX3_learn_97 : decode cX3_learn 97 = .ok (.isub, 1) := by decide +kernel
theorem dX3_learn_98 : decode cX3_learn 98 = .ok (.putfield 29, 3) := by decide +kernel
theorem dX3_learn_101 : decode cX3_learn 101 = .ok (.aload_n 0, 1) := by decide +kernel
theorem dX3_learn_102 : decode cX3_learn 102 = .ok (.getfield 26, 3) := by decide +kernel
theorem dX3_learn_105 : decode cX3_learn 105 = .ok (.iconst 0, 1) := by decide +kernel
theorem dX3_learn_106 : decode cX3_learn 106 = .ok (.aload_n 0, 1) := by decide +kernel
theorem dX3_learn_107 : decode cX3_learn 107 = .ok (.getfield 23, 3) := by decide +kernel
theorem dX3_learn_110 : decode cX3_learn 110 = .ok (.iconst 0, 1) := by decide +kernel
theorem dX3_learn_111 : decode cX3_learn 111 = .ok (.aload_n 0, 1) := by decide +kernel
theorem dX3_learn_112 : decode cX3_learn 112 = .ok (.getfield 26, 3) := by decide +kernel
theorem dX3_learn_115 : decode cX3_learn 115 = .ok (.arraylength, 1) := by decide +kernel
theorem dX3_learn_116 : decode cX3_learn 116 = .ok (.invokestatic 65, 3) := by decide +kernel
theorem dX3_learn_119 : decode cX3_learn 119 = .ok (.aload_n 0, 1) := by decide +kernel
theorem dX3_learn_120 : decode cX3_learn 120 = .ok (.iload_n 3, 1) := by decide +kernel
theorem dX3_learn_121 : decode cX3_learn 121 = .ok (.putfield 46, 3) := by decide +kernel
theorem dX3_learn_124 : decode cX3_learn 124 = .ok (.aload_n 0, 1) := by decide +kernel
theorem dX3_learn_125 : decode cX3_learn 125 = .ok (.iconst 1, 1) := by decide +kernel
theorem dX3_learn_126 : decode cX3_learn 126 = .ok (.putfield 43, 3) := by decide +kernel
theorem dX3_learn_129 : decode cX3_learn 129 = .ok (.return_, 1) := by decide +kernel
set_option maxRecDepth 20000 in
theorem ggX3_missAt_X3_term : GoodIn wsX3_missAt wsX3_term := goodIn_r _ [7, 8, 15, 16, 17, 18, 19, 20, 21] (by decide +kernel) (by decide +kernel)
set_option maxRecDepth 20000 in
theorem gX3_missAt_X3_term : GoodIn wsX3_missAt (wsV RX3 33 RX3 yX3_term wsX3_term) := goodIn_app (goodIn_of _ (by decide +kernel)) ggX3_missAt_X3_term
set_option maxRecDepth 20000 in
theorem ggX3_missAt_X2_plusProduct : GoodIn wsX3_missAt wsX2_plusProduct := goodIn_r _ [13, 14, 22] (by decide +kernel) (by decide +kernel)
set_option maxRecDepth 20000 in
theorem gX3_missAt_X2_plusProduct : GoodIn wsX3_missAt (wsV RX3 61 RX2 yX2_plusProduct wsX2_plusProduct) := goodIn_app (goodIn_of _ (by decide +kernel)) ggX3_missAt_X2_plusProduct
theorem dX3_missAt_0 : decode cX3_missAt 0 = .ok (.aload_n 1, 1) := by decide +kernel
theorem dX3_missAt_1 : decode cX3_missAt 1 = .ok (.iload_n 2, 1) := by decide +kernel
theorem dX3_missAt_2 : decode cX3_missAt 2 = .ok (.iaload, 1) := by decide +kernel
theorem dX3_missAt_3 : decode cX3_missAt 3 = .ok (.istore_n 3, 1) := by decide +kernel
theorem dX3_missAt_4 : decode cX3_missAt 4 = .ok (.iconst 1, 1) := by decide +kernel
theorem dX3_missAt_5 : decode cX3_missAt 5 = .ok (.istore 4, 2) := by decide +kernel
theorem dX3_missAt_7 : decode cX3_missAt 7 = .ok (.iload 4, 2) := by decide +kernel
theorem dX3_missAt_9 : decode cX3_missAt 9 = .ok (.aload_n 0, 1) := by decide +kernel
theorem dX3_missAt_10 : decode cX3_missAt 10 = .ok (.getfield 29, 3) := by decide +kernel
theorem dX3_missAt_13 : decode cX3_missAt 13 = .ok (.if_icmp .gt 36, 3) := by decide +kernel
theorem dX3_missAt_16 : decode cX3_missAt 16 = .ok (.iload 4, 2) := by decide +kernel
theorem dX3_missAt_18 : decode cX3_missAt 18 = .ok (.iload_n 2, 1) := by decide +kernel
theorem dX3_missAt_19 : decode cX3_missAt 19 = .ok (.if_icmp .gt 30, 3) := by decide +kernel
theorem dX3_missAt_22 : decode cX3_missAt 22 = .ok (.aload_n 0, 1) := by decide +kernel
theorem dX3_missAt_23 : decode cX3_missAt 23 = .ok (.getfield 7, 3) := by decide +kernel
theorem dX3_missAt_26 : decode cX3_missAt 26 = .ok (.iload_n 3, 1) := by decide +kernel
theorem dX3_missAt_27 : decode cX3_missAt 27 = .ok (.aload_n 0, 1) := by decide +kernel
theorem dX3_missAt_28 : decode cX3_missAt 28 = .ok (.iload 4, 2) := by decide +kernel
theorem dX3_missAt_30 : decode cX3_missAt 30 = .ok (.invokevirtual 33, 3) := by decide +kernel
theorem dX3_missAt_33 : decode cX3_missAt 33 = .ok (.aload_n 1, 1) := by decide +kernel
theorem dX3_missAt_34 : decode cX3_missAt 34 = .ok (.iload_n 2, 1) := by decide +kernel
theorem dX3_missAt_35 : decode cX3_missAt 35 = .ok (.iload 4, 2) := by decide +kernel
theorem dX3_missAt_37 : decode cX3_missAt 37 = .ok (.isub, 1) := by decide +kernel
theorem dX3_missAt_38 : decode cX3_missAt 38 = .ok (.iaload, 1) := by decide +kernel
theorem dX3_missAt_39 : decode cX3_missAt 39 = .ok (.invokevirtual 61, 3) := by decide +kernel
theorem dX3_missAt_42 : decode cX3_missAt 42 = .ok (.istore_n 3, 1) := by decide +kernel
theorem dX3_missAt_43 : decode cX3_missAt 43 = .ok (.iinc 4 1, 3) := by decide +kernel
theorem dX3_missAt_46 : decode cX3_missAt 46 = .ok (.goto (-39), 3) := by decide +kernel
theorem dX3_missAt_49 : decode cX3_missAt 49 = .ok (.iload_n 3, 1) := by decide +kernel
theorem dX3_missAt_50 : decode cX3_missAt 50 = .ok (.ireturn, 1) := by decide +kernel
set_option maxRecDepth 20000 in
theorem ggX3_subtractOlder_X2_negative : GoodIn wsX3_subtractOlder wsX2_negative := goodIn_r _ [9, 10, 22] (by decide +kernel) (by decide +kernel)
set_option maxRecDepth 20000 in
theorem gX3_subtractOlder_X2_negative : GoodIn wsX3_subtractOlder (wsV RX3 75 RX2 yX2_negative wsX2_negative) := goodIn_app (goodIn_of _ (by decide +kernel)) ggX3_subtractOlder_X2_negative
set_option maxRecDepth 20000 in
theorem ggX3_subtractOlder_X2_plusProduct : GoodIn wsX3_subtractOlder wsX2_plusProduct := goodIn_r _ [14, 10, 22] (by decide +kernel) (by decide +kernel)
set_option maxRecDepth 20000 in
theorem gX3_subtractOlder_X2_plusProduct : GoodIn wsX3_subtractOlder (wsV RX3 61 RX2 yX2_plusProduct wsX2_plusProduct) := goodIn_app (goodIn_of _ (by decide +kernel)) ggX3_subtractOlder_X2_plusProduct
theorem dX3_subtractOlder_0 : decode cX3_subtractOlder 0 = .ok (.aload_n 0, 1) := by decide +kernel
theorem dX3_subtractOlder_1 : decode cX3_subtractOlder 1 = .ok (.getfield 7, 3) := by decide +kernel
theorem dX3_subtractOlder_4 : decode cX3_subtractOlder 4 = .ok (.iload_n 1, 1) := by decide +kernel
theorem dX3_subtractOlder_5 : decode cX3_subtractOlder 5 = .ok (.invokevirtual 75, 3) := by decide +kernel
theorem dX3_subtractOlder_8 : decode cX3_subtractOlder 8 = .ok (.istore_n 2, 1) := by decide +kernel
theorem dX3_subtractOlder_9 : decode cX3_subtractOlder 9 = .ok (.iconst 0, 1) := by decide +kernel
theorem dX3_subtractOlder_10 : decode cX3_subtractOlder 10 = .ok (.istore_n 3, 1) := by decide +kernel
theorem dX3_subtractOlder_11 : decode cX3_subtractOlder 11 = .ok (.iload_n 3, 1) := by decide +kernel
theorem dX3_subtractOlder_12 : decode cX3_subtractOlder 12 = .ok (.aload_n 0, 1) := by decide +kernel
theorem dX3_subtractOlder_13 : decode cX3_subtractOlder 13 = .ok (.getfield 43, 3) := by decide +kernel
theorem dX3_subtractOlder_16 : decode cX3_subtractOlder 16 = .ok (.iadd, 1) := by decide +kernel
theorem dX3_subtractOlder_17 : decode cX3_subtractOlder 17 = .ok (.aload_n 0, 1) := by decide +kernel
theorem dX3_subtractOlder_18 : decode cX3_subtractOlder 18 = .ok (.getfield 19, 3) := by decide +kernel
theorem dX3_subtractOlder_21 : decode cX3_subtractOlder 21 = .ok (.arraylength, 1) := by decide +kernel
theorem dX3_subtractOlder_22 : decode cX3_subtractOlder 22 = .ok (.if_icmp .ge 45, 3) := by decide +kernel
theorem dX3_subtractOlder_25 : decode cX3_subtractOlder 25 = .ok (.aload_n 0, 1) := by decide +kernel
theorem dX3_subtractOlder_26 : decode cX3_subtractOlder 26 = .ok (.getfield 19, 3) := by decide +kernel
theorem dX3_subtractOlder_29 : decode cX3_subtractOlder 29 = .ok (.iload_n 3, 1) := by decide +kernel
theorem dX3_subtractOlder_30 : decode cX3_subtractOlder 30 = .ok (.aload_n 0, 1) := by decide +kernel
theorem dX3_subtractOlder_31 : decode cX3_subtractOlder 31 = .ok (.getfield 43, 3) := by decide +kernel
theorem dX3_subtractOlder_34 : decode cX3_subtractOlder 34 = .ok (.iadd, 1) := by decide +kernel
theorem dX3_subtractOlder_35 : decode cX3_subtractOlder 35 = .ok (.aload_n 0, 1) := by decide +kernel
theorem dX3_subtractOlder_36 : decode cX3_subtractOlder 36 = .ok (.getfield 7, 3) := by decide +kernel
theorem dX3_subtractOlder_39 : decode cX3_subtractOlder 39 = .ok (.aload_n 0, 1) := by decide +kernel
theorem dX3_subtractOlder_40 : decode cX3_subtractOlder 40 = .ok (.getfield 19, 3) := by decide +kernel
theorem dX3_subtractOlder_43 : decode cX3_subtractOlder 43 = .ok (.iload_n 3, 1) := by decide +kernel
theorem dX3_subtractOlder_44 : decode cX3_subtractOlder 44 = .ok (.aload_n 0, 1) := by decide +kernel
theorem dX3_subtractOlder_45 : decode cX3_subtractOlder 45 = .ok (.getfield 43, 3) := by decide +kernel
theorem dX3_subtractOlder_48 : decode cX3_subtractOlder 48 = .ok (.iadd, 1) := by decide +kernel
theorem dX3_subtractOlder_49 : decode cX3_subtractOlder 49 = .ok (.iaload, 1) := by decide +kernel
theorem dX3_subtractOlder_50 : decode cX3_subtractOlder 50 = .ok (.iload_n 2, 1) := by decide +kernel
theorem dX3_subtractOlder_51 : decode cX3_subtractOlder 51 = .ok (.aload_n 0, 1) := by decide +kernel
theorem dX3_subtractOlder_52 : decode cX3_subtractOlder 52 = .ok (.getfield 23, 3) := by decide +kernel
theorem dX3_subtractOlder_55 : decode cX3_subtractOlder 55 = .ok (.iload_n 3, 1) := by decide +kernel
theorem dX3_subtractOlder_56 : decode cX3_subtractOlder 56 = .ok (.iaload, 1) := by decide +kernel
theorem dX3_subtractOlder_57 : decode cX3_subtractOlder 57 = .ok (.invokevirtual 61, 3) := by decide +kernel
theorem dX3_subtractOlder_60 : decode cX3_subtractOlder 60 = .ok (.iastore, 1) := by decide +kernel
theorem dX3_subtractOlder_61 : decode cX3_subtractOlder 61 = .ok (.iinc 3 1, 3) := by decide +kernel
theorem dX3_subtractOlder_64 : decode cX3_subtractOlder 64 = .ok (.goto (-53), 3) := by decide +kernel
theorem dX3_subtractOlder_67 : decode cX3_subtractOlder 67 = .ok (.return_, 1) := by decide +kernel
set_option maxRecDepth 20000 in
theorem ggX4_init_X4_broughtWithin : GoodIn wsX4_init wsX4_broughtWithin := goodIn_r _ [31, 32, 33, 34, 35, 36, 37, 38] (by decide +kernel) (by decide +kernel)
set_option maxRecDepth 20000 in
theorem gX4_init_X4_broughtWithin : GoodIn wsX4_init (va_wsS RX4 9 yX4_broughtWithin wsX4_broughtWithin) := goodIn_app (goodIn_of _ (by decide +kernel)) ggX4_init_X4_broughtWithin
set_option maxRecDepth 20000 in
theorem ggX4_init_X4_leastPrimeFrom : GoodIn wsX4_init wsX4_leastPrimeFrom := goodIn_r _ [41, 8, 42, 43, 30, 44] (by decide +kernel) (by decide +kernel)
set_option maxRecDepth 20000 in
theorem gX4_init_X4_leastPrimeFrom : GoodIn wsX4_init (va_wsS RX4 20 yX4_leastPrimeFrom wsX4_leastPrimeFrom) := goodIn_app (goodIn_of _ (by decide +kernel)) ggX4_init_X4_leastPrimeFrom
set_option maxRecDepth 20000 in
theorem ggX4_init_X2_init : GoodIn wsX4_init wsX2_init := goodIn_r _ [47, 48, 2, 3, 49, 37, 34, 38, 50, 86] (by decide +kernel) (by decide +kernel)
set_option maxRecDepth 20000 in
theorem gX4_init_X2_init : GoodIn wsX4_init (wsX2_init) := ggX4_init_X2_init
set_option maxRecDepth 20000 in
theorem ggX4_init_X1_init : GoodIn wsX4_init wsX1_init := goodIn_r _ [53, 54, 2, 3, 55, 22, 56, 57, 58, 59, 87, 88, 89, 90, 91, 92, 93] (by decide +kernel) (by decide +kernel)
set_option maxRecDepth 20000 in
theorem gX4_init_X1_init : GoodIn wsX4_init (wsX1_init) := ggX4_init_X1_init
set_option maxRecDepth 20000 in
theorem ggX4_init_X0_init : GoodIn wsX4_init wsX0_init := goodIn_r _ [61, 62, 2, 3, 63, 94] (by decide +kernel) (by decide +kernel)
set_option maxRecDepth 20000 in
theorem gX4_init_X0_init_n42 : GoodIn wsX4_init (wsX0_init) := ggX4_init_X0_init
set_option maxRecDepth 20000 in
theorem ggX4_init_X3_init : GoodIn wsX4_init wsX3_init := goodIn_r _ [66, 67, 2, 3, 68, 69, 37, 34, 38, 22, 70, 71, 72, 95, 96, 97, 98, 99, 100, 101] (by decide +kernel) (by decide +kernel)
set_option maxRecDepth 20000 in
theorem gX4_init_X3_init : GoodIn wsX4_init (wsX3_init) := ggX4_init_X3_init
theorem dX4_init_0 : decode cX4_init 0 = .ok (.aload_n 0, 1) := by decide +kernel
theorem dX4_init_1 : decode cX4_init 1 = .ok (.invokespecial 1, 3) := by decide +kernel
theorem dX4_init_4 : decode cX4_init 4 = .ok (.aload_n 0, 1) := by decide +kernel
theorem dX4_init_5 : decode cX4_init 5 = .ok (.iload_n 2, 1) := by decide +kernel
theorem dX4_init_6 : decode cX4_init 6 = .ok (.iconst 1, 1) := by decide +kernel
theorem dX4_init_7 : decode cX4_init 7 = .ok (.bipush 16, 2) := by decide +kernel
theorem dX4_init_9 : decode cX4_init 9 = .ok (.invokestatic 9, 3) := by decide +kernel
theorem dX4_init_12 : decode cX4_init 12 = .ok (.putfield 13, 3) := by decide +kernel
theorem dX4_init_15 : decode cX4_init 15 = .ok (.aload_n 0, 1) := by decide +kernel
theorem dX4_init_16 : decode cX4_init 16 = .ok (.new 17, 3) := by decide +kernel
theorem dX4_init_19 : decode cX4_init 19 = .ok (.dup, 1) := by decide +kernel
theorem dX4_init_20 : decode cX4_init 20 = .ok (.iload_n 1, 1) := by decide +kernel
theorem dX4_init_21 : decode cX4_init 21 = .ok (.iconst 2, 1) := by decide +kernel
theorem dX4_init_22 : decode cX4_init 22 = .ok (.ldc 19, 2) := by decide +kernel
theorem dX4_init_24 : decode cX4_init 24 = .ok (.invokestatic 9, 3) := by decide +kernel
theorem dX4_init_27 : decode cX4_init 27 = .ok (.invokestatic 20, 3) := by decide +kernel
theorem dX4_init_30 : decode cX4_init 30 = .ok (.invokespecial 24, 3) := by decide +kernel
theorem dX4_init_33 : decode cX4_init 33 = .ok (.putfield 27, 3) := by decide +kernel
theorem dX4_init_36 : decode cX4_init 36 = .ok (.aload_n 0, 1) := by decide +kernel
theorem dX4_init_37 : decode cX4_init 37 = .ok (.new 31, 3) := by decide +kernel
theorem dX4_init_40 : decode cX4_init 40 = .ok (.dup, 1) := by decide +kernel
theorem dX4_init_41 : decode cX4_init 41 = .ok (.aload_n 0, 1) := by decide +kernel
theorem dX4_init_42 : decode cX4_init 42 = .ok (.getfield 27, 3) := by decide +kernel
theorem dX4_init_45 : decode cX4_init 45 = .ok (.aload_n 0, 1) := by decide +kernel
theorem dX4_init_46 : decode cX4_init 46 = .ok (.getfield 13, 3) := by decide +kernel
theorem dX4_init_49 : decode cX4_init 49 = .ok (.iload_n 3, 1) := by decide +kernel
theorem dX4_init_50 : decode cX4_init 50 = .ok (.iconst 1, 1) := by decide +kernel
theorem dX4_init_51 : decode cX4_init 51 = .ok (.bipush 100, 2) := by decide +kernel
theorem dX4_init_53 : decode cX4_init 53 = .ok (.invokestatic 9, 3) := by decide +kernel
theorem dX4_init_56 : decode cX4_init 56 = .ok (.invokespecial 33, 3) := by decide +kernel
theorem dX4_init_59 : decode cX4_init 59 = .ok (.putfield 36, 3) := by decide +kernel
theorem dX4_init_62 : decode cX4_init 62 = .ok (.aload_n 0, 1) := by decide +kernel
theorem dX4_init_63 : decode cX4_init 63 = .ok (.new 40, 3) := by decide +kernel
theorem dX4_init_66 : decode cX4_init 66 = .ok (.dup, 1) := by decide +kernel
theorem dX4_init_67 : decode cX4_init 67 = .ok (.invokespecial 42, 3) := by decide +kernel
theorem dX4_init_70 : decode cX4_init 70 = .ok (.putfield 43, 3) := by decide +kernel
theorem dX4_init_73 : decode cX4_init 73 = .ok (.aload_n 0, 1) := by decide +kernel
theorem dX4_init_74 : decode cX4_init 74 = .ok (.new 47, 3) := by decide +kernel
theorem dX4_init_77 : decode cX4_init 77 = .ok (.dup, 1) := by decide +kernel
theorem dX4_init_78 : decode cX4_init 78 = .ok (.aload_n 0, 1) := by decide +kernel
theorem dX4_init_79 : decode cX4_init 79 = .ok (.getfield 27, 3) := by decide +kernel
theorem dX4_init_82 : decode cX4_init 82 = .ok (.iconst 2, 1) := by decide +kernel
theorem dX4_init_83 : decode cX4_init 83 = .ok (.aload_n 0, 1) := by decide +kernel
theorem dX4_init_84 : decode cX4_init 84 = .ok (.getfield 13, 3) := by decide +kernel
theorem dX4_init_87 : decode cX4_init 87 = .ok (.imul, 1) := by decide +kernel
theorem dX4_init_88 : decode cX4_init 88 = .ok (.invokespecial 49, 3) := by decide +kernel
theorem dX4_init_91 : decode cX4_init 91 = .ok (.putfield 52, 3) := by decide +kernel
theorem dX4_init_94 : decode cX4_init 94 = .ok (.aload_n 0, 1) := by decide +kernel
theorem dX4_init_95 : decode cX4_init 95 = .ok (.aload_n 0, 1) := by decide +kernel
theorem dX4_init_96 : decode cX4_init 96 = .ok (.getfield 13, 3) := by decide +kernel
theorem dX4_init_99 : decode cX4_init 99 = .ok (.newarray .int, 2) := by decide +kernel
theorem dX4_init_101 : decode cX4_init 101 = .ok (.putfield 56, 3) := by decide +kernel
theorem dX4_init_104 : decode cX4_init 104 = .ok (.aload_n 0, 1) := by decide +kernel
theorem dX4_init_105 : decode cX4_init 105 = .ok (.aload_n 0, 1) := by decide +kernel
theorem dX4_init_106 : decode cX4_init 106 = .ok (.getfield 13, 3) := by decide +kernel
theorem dX4_init_109 : decode cX4_init 109 = .ok (.newarray .int, 2) := by decide +kernel
theorem dX4_init_111 : decode cX4_init 111 = .ok (.putfield 60, 3) := by decide +kernel
theorem dX4_init_114 : decode cX4_init 114 = .ok (.aload_n 0, 1) := by decide +kernel
theorem dX4_init_115 : decode cX4_init 115 = .ok (.aload_n 0, 1) := by decide +kernel
theorem dX4_init_116 : decode cX4_init 116 = .ok (.getfield 13, 3) := by decide +kernel
theorem dX4_init_119 : decode cX4_init 119 = .ok (.newarray .int, 2) := by decide +kernel
theorem dX4_init_121 : decode cX4_init 121 = .ok (.putfield 63, 3) := by decide +kernel
theorem dX4_init_124 : decode cX4_init 124 = .ok (.aload_n 0, 1) := by decide +kernel
theorem dX4_init_125 : decode cX4_init 125 = .ok (.iconst 2, 1) := by decide +kernel
theorem dX4_init_126 : decode cX4_init 126 = .ok (.aload_n 0, 1) := by decide +kernel
theorem dX4_init_127 : decode cX4_init 127 = .ok (.getfield 13, 3) := by decide +kernel
theorem dX4_init_130 : decode cX4_init 130 = .ok (.imul, 1) := by decide +kernel
theorem dX4_init_131 : decode cX4_init 131 = .ok (.newarray .int, 2) := by decide +kernel
theorem dX4_init_133 : decode cX4_init 133 = .ok (.putfield 66, 3) := by decide +kernel
theorem dX4_init_136 : decode cX4_init 136 = .ok (.aload_n 0, 1) := by decide +kernel
theorem dX4_init_137 : decode cX4_init 137 = .ok (.aload_n 0, 1) := by decide +kernel
theorem dX4_init_138 : decode cX4_init 138 = .ok (.getfield 13, 3) := by decide +kernel
theorem dX4_init_141 : decode cX4_init 141 = .ok (.newarray .int, 2) := by decide +kernel
theorem dX4_init_143 : decode cX4_init 143 = .ok (.putfield 69, 3) := by decide +kernel
theorem dX4_init_146 : decode cX4_init 146 = .ok (.return_, 1) := by decide +kernel
set_option maxRecDepth 20000 in
theorem ggX4_entry_X4_isPlace : GoodIn wsX4_entry wsX4_isPlace := goodIn_r _ [7, 8, 34, 35, 36, 37, 38, 39, 40, 41, 42, 43, 44, 45, 46] (by decide +kernel) (by decide +kernel)
set_option maxRecDepth 20000 in
theorem gX4_entry_X4_isPlace : GoodIn wsX4_entry (wsV RX4 72 RX4 yX4_isPlace wsX4_isPlace) := goodIn_app (goodIn_of _ (by decide +kernel)) ggX4_entry_X4_isPlace
set_option maxRecDepth 20000 in
theorem ggX4_entry_X1_isFull : GoodIn wsX4_entry wsX1_isFull := goodIn_r _ [13, 14, 15, 47, 48, 49, 50, 51, 52, 53] (by decide +kernel) (by decide +kernel)
set_option maxRecDepth 20000 in
theorem gX4_entry_X1_isFull : GoodIn wsX4_entry (wsV RX4 76 RX1 yX1_isFull wsX1_isFull) := goodIn_app (goodIn_of _ (by decide +kernel)) ggX4_entry_X1_isFull
set_option maxRecDepth 20000 in
theorem ggX4_entry_X2_reduce : GoodIn wsX4_entry wsX2_reduce := goodIn_r _ [20, 21, 54] (by decide +kernel) (by decide +kernel)
set_option maxRecDepth 20000 in
theorem gX4_entry_X2_reduce : GoodIn wsX4_entry (wsV RX4 80 RX2 yX2_reduce wsX2_reduce) := goodIn_app (goodIn_of _ (by decide +kernel)) ggX4_entry_X2_reduce
set_option maxRecDepth 20000 in
theorem ggX4_entry_X1_put : GoodIn wsX4_entry wsX1_put := goodIn_r _ [25, 26, 14, 27, 15, 47, 48, 49, 50, 51, 52, 53] (by decide +kernel) (by decide +kernel)
set_option maxRecDepth 20000 in
theorem gX4_entry_X1_put : GoodIn wsX4_entry (wsV RX4 83 RX1 yX1_put wsX1_put) := goodIn_app (goodIn_of _ (by decide +kernel)) ggX4_entry_X1_put
set_option maxRecDepth 20000 in
theorem ggX4_entry_X4_forgetResults : GoodIn wsX4_entry wsX4_forgetResults := goodIn_r _ [31, 32, 33, 34, 35, 36, 37, 38, 39, 40, 41, 42, 43, 44, 45, 46] (by decide +kernel) (by decide +kernel)
set_option maxRecDepth 20000 in
theorem gX4_entry_X4_forgetResults : GoodIn wsX4_entry (wsV RX4 87 RX4 yX4_forgetResults wsX4_forgetResults) := goodIn_app (goodIn_of _ (by decide +kernel)) ggX4_entry_X4_forgetResults
theorem dX4_entry_0 : decode cX4_entry 0 = .ok (.aload_n 0, 1) := by decide +kernel
theorem dX4_entry_1 : decode cX4_entry 1 = .ok (.iload_n 1, 1) := by decide +kernel
theorem dX4_entry_2 : decode cX4_entry 2 = .ok (.invokevirtual 72, 3) := by decide +kernel
theorem dX4_entry_5 : decode cX4_entry 5 = .ok (.ifCond .eq 11, 3) := by decide +kernel
theorem dX4_entry_8 : decode cX4_entry 8 = .ok (.aload_n 0, 1) := by decide +kernel
theorem dX4_entry_9 : decode cX4_entry 9 = .ok (.iload_n 2, 1) := by decide +kernel
theorem dX4_entry_10 : decode cX4_entry 10 = .ok (.invokevirtual 72, 3) := by decide +kernel
theorem dX4_entry_13 : decode cX4_entry 13 = .ok (.ifCond .ne 5, 3) := by decide +kernel
theorem dX4_entry_16 : decode cX4_entry 16 = .ok (.iconst 1, 1) := by decide +kernel
theorem dX4_entry_17 : decode cX4_entry 17 = .ok (.ireturn, 1) := by decide +kernel
theorem dX4_entry_18 : decode cX4_entry 18 = .ok (.aload_n 0, 1) := by decide +kernel
theorem dX4_entry_19 : decode cX4_entry 19 = .ok (.getfield 36, 3) := by decide +kernel
theorem dX4_entry_22 : decode cX4_entry 22 = .ok (.invokevirtual 76, 3) := by decide +kernel
theorem dX4_entry_25 : decode cX4_entry 25 = .ok (.ifCond .eq 5, 3) := by decide +kernel
theorem dX4_entry_28 : decode cX4_entry 28 = .ok (.iconst 2, 1) := by decide +kernel
theorem dX4_entry_29 : decode cX4_entry 29 = .ok (.ireturn, 1) := by decide +kernel
theorem dX4_entry_30 : decode cX4_entry 30 = .ok (.aload_n 0, 1) := by decide +kernel
theorem dX4_entry_31 : decode cX4_entry 31 = .ok (.getfield 36, 3) := by decide +kernel
theorem dX4_entry_34 : decode cX4_entry 34 = .ok (.iload_n 1, 1) := by decide +kernel
theorem dX4_entry_35 : decode cX4_entry 35 = .ok (.iload_n 2, 1) := by decide +kernel
theorem dX4_entry_36 : decode cX4_entry 36 = .ok (.aload_n 0, 1) := by decide +kernel
theorem dX4_entry_37 : decode cX4_entry 37 = .ok (.getfield 27, 3) := by decide +kernel
theorem dX4_entry_40 : decode cX4_entry 40 = .ok (.iload_n 3, 1) := by decide +kernel
theorem dX4_entry_41 : decode cX4_entry 41 = .ok (.invokevirtual 80, 3) := by decide +kernel
theorem dX4_entry_44 : decode cX4_entry 44 = .ok (.invokevirtual 83, 3) := by decide +kernel
theorem dX4_entry_47 : decode cX4_entry 47 = .ok (.aload_n 0, 1) := by decide +kernel
theorem dX4_entry_48 : decode cX4_entry 48 = .ok (.invokevirtual 87, 3) := by decide +kernel
theorem dX4_entry_51 : decode cX4_entry 51 = .ok (.iconst 0, 1) := by decide +kernel
theorem dX4_entry_52 : decode cX4_entry 52 = .ok (.ireturn, 1) := by decide +kernel
set_option maxRecDepth 20000 in
theorem ggX4_side_X4_isPlace : GoodIn wsX4_side wsX4_isPlace := goodIn_r _ [7, 8, 21, 22, 23, 24, 25, 26, 27, 28, 29, 30, 31, 32, 33] (by decide +kernel) (by decide +kernel)
set_option maxRecDepth 20000 in
theorem gX4_side_X4_isPlace : GoodIn wsX4_side (wsV RX4 72 RX4 yX4_isPlace wsX4_isPlace) := goodIn_app (goodIn_of _ (by decide +kernel)) ggX4_side_X4_isPlace
set_option maxRecDepth 20000 in
theorem ggX4_side_X2_reduce : GoodIn wsX4_side wsX2_reduce := goodIn_r _ [13, 14, 34] (by decide +kernel) (by decide +kernel)
set_option maxRecDepth 20000 in
theorem gX4_side_X2_reduce : GoodIn wsX4_side (wsV RX4 80 RX2 yX2_reduce wsX2_reduce) := goodIn_app (goodIn_of _ (by decide +kernel)) ggX4_side_X2_reduce
set_option maxRecDepth 20000 in
theorem ggX4_side_X4_forgetResults : GoodIn wsX4_side wsX4_forgetResults := goodIn_r _ [18, 19, 20, 21, 22, 23, 24, 25, 26, 27, 28, 29, 30, 31, 32, 33] (by decide +kernel) (by decide +kernel)
set_option maxRecDepth 20000 in
theorem gX4_side_X4_forgetResults : GoodIn wsX4_side (wsV RX4 87 RX4 yX4_forgetResults wsX4_forgetResults) := goodIn_app (goodIn_of _ (by decide +kernel)) ggX4_side_X4_forgetResults
theorem dX4_side_0 : decode cX4_side 0 = .ok (.aload_n 0, 1) := by decide +kernel
theorem dX4_side_1 : decode cX4_side 1 = .ok (.iload_n 1, 1) := by decide +kernel
theorem dX4_side_2 : decode cX4_side 2 = .ok (.invokevirtual 72, 3) := by decide +kernel
theorem dX4_side_5 : decode cX4_side 5 = .ok (.ifCond .ne 5, 3) := by decide +kernel
theorem dX4_side_8 : decode cX4_side 8 = .ok (.iconst 1, 1) := by decide +kernel
theorem dX4_side_9 : decode cX4_side 9 = .ok (.ireturn, 1) := by decide +kernel
theorem dX4_side_10 : decode cX4_side 10 = .ok (.aload_n 0, 1) := by decide +kernel
theorem dX4_side_11 : decode cX4_side 11 = .ok (.getfield 56, 3) := by decide +kernel
theorem dX4_side_14 : decode cX4_side 14 = .ok (.iload_n 1, 1) := by decide +kernel
theorem dX4_side_15 : decode cX4_side 15 = .ok (.aload_n 0, 1) := by decide +kernel
theorem dX4_side_16 : decode cX4_side 16 = .ok (.getfield 27, 3) := by decide +kernel
theorem dX4_side_19 : decode cX4_side 19 = .ok (.iload_n 2, 1) := by decide +kernel
theorem dX4_side_20 : decode cX4_side 20 = .ok (.invokevirtual 80, 3) := by decide +kernel
theorem dX4_side_23 : decode cX4_side 23 = .ok (.iastore, 1) := by decide +kernel
theorem dX4_side_24 : decode cX4_side 24 = .ok (.aload_n 0, 1) := by decide +kernel
theorem dX4_side_25 : decode cX4_side 25 = .ok (.invokevirtual 87, 3) := by decide +kernel
theorem dX4_side_28 : decode cX4_side 28 = .ok (.iconst 0, 1) := by decide +kernel
theorem dX4_side_29 : decode cX4_side 29 = .ok (.ireturn, 1) := by decide +kernel
set_option maxRecDepth 20000 in
theorem ggX4_seed_X0_restart : GoodIn wsX4_seed wsX0_restart := goodIn_r _ [6, 7, 8, 22] (by decide +kernel) (by decide +kernel)
set_option maxRecDepth 20000 in
theorem gX4_seed_X0_restart : GoodIn wsX4_seed (wsV RX4 90 RX0 yX0_restart wsX0_restart) := goodIn_app (goodIn_of _ (by decide +kernel)) ggX4_seed_X0_restart
theorem dX4_seed_0 : decode cX4_seed 0 = .ok (.aload_n 0, 1) := by decide +kernel
theorem dX4_seed_1 : decode cX4_seed 1 = .ok (.getfield 43, 3) := by decide +kernel
theorem dX4_seed_4 : decode cX4_seed 4 = .ok (.iload_n 1, 1) := by decide +kernel
theorem dX4_seed_5 : decode cX4_seed 5 = .ok (.invokevirtual 90, 3) := by decide +kernel
theorem dX4_seed_8 : decode cX4_seed 8 = .ok (.return_, 1) := by decide +kernel
set_option maxRecDepth 20000 in
theorem ggX4_attempt_X4_drawChance : GoodIn wsX4_attempt wsX4_drawChance := goodIn_r _ [11, 12, 13, 14, 15, 16, 17, 18, 19, 20, 21, 22, 23, 24, 25, 26, 27, 28, 29, 30, 129, 130, 131, 132, 133, 134, 135, 136, 137, 138, 139, 140, 141, 149, 150] (by decide +kernel) (by decide +kernel)
set_option maxRecDepth 20000 in
theorem gX4_attempt_X4_drawChance : GoodIn wsX4_attempt (wsV RX4 100 RX4 yX4_drawChance wsX4_drawChance) := goodIn_app (goodIn_of _ (by decide +kernel)) ggX4_attempt_X4_drawChance
set_option maxRecDepth 20000 in
theorem ggX4_attempt_X4_fillRow : GoodIn wsX4_attempt wsX4_fillRow := goodIn_r _ [34, 35, 36, 12, 37, 38, 39, 40, 4, 41, 42, 43, 44, 10, 45, 14, 13, 46, 47, 48, 28, 49, 30, 50, 51, 52, 53, 54, 55, 56, 57, 58, 59, 60, 61, 62, 63, 64, 65, 66, 67, 129, 130, 131, 132, 133, 134, 135, 136, 137, 138, 139, 140, 141, 150, 151, 152, 153, 154, 155, 156, 157] (by decide +kernel) (by decide +kernel)
set_option maxRecDepth 20000 in
theorem gX4_attempt_X4_fillRow : GoodIn wsX4_attempt (wsV RX4 103 RX4 yX4_fillRow wsX4_fillRow) := goodIn_app (goodIn_of _ (by decide +kernel)) ggX4_attempt_X4_fillRow
set_option maxRecDepth 20000 in
theorem ggX4_attempt_X3_find : GoodIn wsX4_attempt wsX3_find := goodIn_r _ [72, 73, 74, 75, 76, 77, 78, 64, 65, 66, 79, 80, 81, 71, 82, 83, 84, 85, 38, 39, 40, 86, 87, 88, 89, 90, 91, 92, 93, 94, 47, 48, 28, 49, 30, 95, 96, 97, 98, 99, 100, 101, 102, 103, 104, 105, 106, 107, 142, 143, 144, 145, 146, 147, 148, 150] (by decide +kernel) (by decide +kernel)
set_option maxRecDepth 20000 in
theorem gX4_attempt_X3_find : GoodIn wsX4_attempt (wsV RX4 106 RX3 yX3_find wsX3_find) := goodIn_app (goodIn_of _ (by decide +kernel)) ggX4_attempt_X3_find
set_option maxRecDepth 20000 in
theorem ggX4_attempt_X3_lastTerm : GoodIn wsX4_attempt wsX3_lastTerm := goodIn_r _ [111, 75, 90, 91, 92, 71, 93, 73, 142, 143, 144, 145, 146, 147, 148] (by decide +kernel) (by decide +kernel)
set_option maxRecDepth 20000 in
theorem gX4_attempt_X3_lastTerm : GoodIn wsX4_attempt (wsV RX4 116 RX3 yX3_lastTerm wsX3_lastTerm) := goodIn_app (goodIn_of _ (by decide +kernel)) ggX4_attempt_X3_lastTerm
set_option maxRecDepth 20000 in
theorem ggX4_attempt_X4_makeCandidate : GoodIn wsX4_attempt wsX4_makeCandidate := goodIn_r _ [115, 3, 6, 116, 35, 36, 12, 37, 38, 39, 40, 41, 14, 117, 64, 65, 66, 50, 51, 52, 53, 54, 55, 56, 57, 58, 59, 60, 61, 62, 63, 67, 47, 48, 28, 49, 30, 118, 91, 92, 71, 93, 73, 119, 120, 121, 10, 122, 46, 108, 109, 110, 111, 75, 90, 123, 105, 106, 107, 124, 96, 97, 98, 99, 129, 130, 131, 132, 133, 134, 135, 136, 137, 138, 139, 140, 141, 142, 143, 144, 145, 146, 147, 148, 151, 152, 153, 154, 155, 156, 157, 150] (by decide +kernel) (by decide +kernel)
set_option maxRecDepth 20000 in
theorem gX4_attempt_X4_makeCandidate : GoodIn wsX4_attempt (wsV RX4 120 RX4 yX4_makeCandidate wsX4_makeCandidate) := goodIn_app (goodIn_of _ (by decide +kernel)) ggX4_attempt_X4_makeCandidate
set_option maxRecDepth 20000 in
theorem ggX4_attempt_X4_answerMeetsRight : GoodIn wsX4_attempt wsX4_answerMeetsRight := goodIn_r _ [128, 116, 36, 12, 37, 38, 39, 40, 41, 35, 50, 51, 52, 53, 54, 55, 56, 57, 58, 59, 60, 61, 62, 63, 64, 65, 66, 67, 47, 48, 28, 49, 30, 129, 130, 131, 132, 133, 134, 135, 136, 137, 138, 139, 140, 141, 151, 152, 153, 154, 155, 156, 157, 150] (by decide +kernel) (by decide +kernel)
set_option maxRecDepth 20000 in
theorem gX4_attempt_X4_answerMeetsRight : GoodIn wsX4_attempt (wsV RX4 123 RX4 yX4_answerMeetsRight wsX4_answerMeetsRight) := goodIn_app (goodIn_of _ (by decide +kernel)) ggX4_attempt_X4_answerMeetsRight
theorem dX4_attempt_0 : decode cX4_attempt 0 = .ok (.aload_n 0, 1) := by decide +kernel
theorem dX4_attempt_1 : decode cX4_attempt 1 = .ok (.dup, 1) := by decide +kernel
theorem dX4_attempt_2 : decode cX4_attempt 2 = .ok (.getfield 93, 3) := by decide +kernel
theorem dX4_attempt_5 : decode cX4_attempt 5 = .ok (.iconst 1, 1) := by decide +kernel
theorem dX4_attempt_6 : decode cX4_attempt 6 = .ok (.iadd, 1) := by decide +kernel
theorem dX4_attempt_7 : decode cX4_attempt 7 = .ok (.putfield 93, 3) := by decide +kernel
theorem dX4_attempt_10 : decode cX4_attempt 10 = .ok (.aload_n 0, 1) := by decide +kernel
theorem dX4_attempt_11 : decode cX4_attempt 11 = .ok (.iconst 0, 1) := by decide +kernel
theorem dX4_attempt_12 : decode cX4_attempt 12 = .ok (.putfield 96, 3) := by decide +kernel
theorem dX4_attempt_15 : decode cX4_attempt 15 = .ok (.aload_n 0, 1) := by decide +kernel
theorem dX4_attempt_16 : decode cX4_attempt 16 = .ok (.invokevirtual 100, 3) := by decide +kernel
theorem dX4_attempt_19 : decode cX4_attempt 19 = .ok (.aload_n 0, 1) := by decide +kernel
theorem dX4_attempt_20 : decode cX4_attempt 20 = .ok (.invokevirtual 103, 3) := by decide +kernel
theorem dX4_attempt_23 : decode cX4_attempt 23 = .ok (.aload_n 0, 1) := by decide +kernel
theorem dX4_attempt_24 : decode cX4_attempt 24 = .ok (.getfield 52, 3) := by decide +kernel
theorem dX4_attempt_27 : decode cX4_attempt 27 = .ok (.aload_n 0, 1) := by decide +kernel
theorem dX4_attempt_28 : decode cX4_attempt 28 = .ok (.getfield 66, 3) := by decide +kernel
theorem dX4_attempt_31 : decode cX4_attempt 31 = .ok (.invokevirtual 106, 3) := by decide +kernel
theorem dX4_attempt_34 : decode cX4_attempt 34 = .ok (.aload_n 0, 1) := by decide +kernel
theorem dX4_attempt_35 : decode cX4_attempt 35 = .ok (.iconst 1, 1) := by decide +kernel
theorem dX4_attempt_36 : decode cX4_attempt 36 = .ok (.putfield 110, 3) := by decide +kernel
theorem dX4_attempt_39 : decode cX4_attempt 39 = .ok (.aload_n 0, 1) := by decide +kernel
theorem dX4_attempt_40 : decode cX4_attempt 40 = .ok (.getfield 52, 3) := by decide +kernel
theorem dX4_attempt_43 : decode cX4_attempt 43 = .ok (.getfield 113, 3) := by decide +kernel
theorem dX4_attempt_46 : decode cX4_attempt 46 = .ok (.ifCond .le 15, 3) := by decide +kernel
theorem dX4_attempt_49 : decode cX4_attempt 49 = .ok (.aload_n 0, 1) := by decide +kernel
theorem dX4_attempt_50 : decode cX4_attempt 50 = .ok (.getfield 52, 3) := by decide +kernel
theorem dX4_attempt_53 : decode cX4_attempt 53 = .ok (.invokevirtual 116, 3) := by decide +kernel
theorem dX4_attempt_56 : decode cX4_attempt 56 = .ok (.ifCond .ne 5, 3) := by decide +kernel
theorem dX4_attempt_59 : decode cX4_attempt 59 = .ok (.iconst 3, 1) := by decide +kernel
theorem dX4_attempt_60 : decode cX4_attempt 60 = .ok (.ireturn, 1) := by decide +kernel
theorem dX4_attempt_61 : decode cX4_attempt 61 = .ok (.aload_n 0, 1) := by decide +kernel
theorem dX4_attempt_62 : decode cX4_attempt 62 = .ok (.invokevirtual 120, 3) := by decide +kernel
theorem dX4_attempt_65 : decode cX4_attempt 65 = .ok (.aload_n 0, 1) := by decide +kernel
theorem dX4_attempt_66 : decode cX4_attempt 66 = .ok (.aload_n 0, 1) := by decide +kernel
theorem dX4_attempt_67 : decode cX4_attempt 67 = .ok (.invokevirtual 123, 3) := by decide +kernel
theorem dX4_attempt_70 : decode cX4_attempt 70 = .ok (.putfield 96, 3) := by decide +kernel
theorem dX4_attempt_73 : decode cX4_attempt 73 = .ok (.aload_n 0, 1) := by decide +kernel
theorem dX4_attempt_74 : decode cX4_attempt 74 = .ok (.getfield 96, 3) := by decide +kernel
theorem dX4_attempt_77 : decode cX4_attempt 77 = .ok (.ifCond .eq 7, 3) := by decide +kernel
theorem dX4_attempt_80 : decode cX4_attempt 80 = .ok (.iconst 0, 1) := by decide +kernel
theorem dX4_attempt_81 : decode cX4_attempt 81 = .ok (.goto 4, 3) := by decide +kernel
theorem dX4_attempt_84 : decode cX4_attempt 84 = .ok (.iconst 4, 1) := by decide +kernel
theorem dX4_attempt_85 : decode cX4_attempt 85 = .ok (.ireturn, 1) := by decide +kernel
set_option maxRecDepth 20000 in
theorem ggX4_solve_X4_attempt : GoodIn wsX4_solve wsX4_attempt := goodIn_r _ [5, 6, 7, 8, 9, 10, 11, 12, 13, 14, 4, 15, 16, 17, 18, 19, 20, 21, 22, 23, 24, 25, 26, 27, 28, 29, 30, 31, 32, 33, 34, 35, 36, 37, 38, 39, 40, 41, 42, 43, 44, 45, 46, 47, 48, 49, 50, 51, 52, 53, 54, 55, 56, 57, 58, 59, 60, 61, 62, 63, 64, 65, 66, 67, 68, 69, 70, 71, 72, 73, 74, 75, 76, 77, 78, 79, 80, 81, 82, 83, 84, 85, 86, 87, 88, 89, 90, 91, 92, 93, 94, 95, 96, 97, 98, 99, 100, 101, 102, 103, 104, 105, 106, 107, 108, 109, 110, 111, 112, 113, 114, 115, 116, 117, 118, 119, 120, 121, 122, 123, 124, 125, 126, 127, 128, 129, 130, 131, 132, 133, 134, 135, 136, 137, 138, 139, 140, 141, 142, 143, 144, 145, 146, 147, 148, 149, 150, 151, 152, 153, 154, 155, 156, 157, 158, 159, 160, 161] (by decide +kernel) (by decide +kernel)
set_option maxRecDepth 20000 in
theorem gX4_solve_X4_attempt : GoodIn wsX4_solve (wsV RX4 126 RX4 yX4_attempt wsX4_attempt) := goodIn_app (goodIn_of _ (by decide +kernel)) ggX4_solve_X4_attempt
theorem dX4_solve_0 : decode cX4_solve 0 = .ok (.iload_n 1, 1) := by decide +kernel
theorem dX4_solve_1 : decode cX4_solve 1 = .ok (.iconst 1, 1) := by decide +kernel
theorem dX4_solve_2 : decode cX4_solve 2 = .ok (.if_icmp .lt 9, 3) := by decide +kernel
theorem dX4_solve_5 : decode cX4_solve 5 = .ok (.iload_n 1, 1) := by decide +kernel
theorem dX4_solve_6 : decode cX4_solve 6 = .ok (.bipush 50, 2) := by decide +kernel
theorem dX4_solve_8 : decode cX4_solve 8 = .ok (.if_icmp .le 5, 3) := by decide +kernel
theorem dX4_solve_11 : decode cX4_solve 11 = .ok (.iconst 5, 1) := by decide +kernel
theorem dX4_solve_12 : decode cX4_solve 12 = .ok (.ireturn, 1) := by decide +kernel
theorem dX4_solve_13 : decode cX4_solve 13 = .ok (.iconst 5, 1) := by decide +kernel
theorem dX4_solve_14 : decode cX4_solve 14 = .ok (.istore_n 2, 1) := by decide +kernel
theorem dX4_solve_15 : decode cX4_solve 15 = .ok (.iconst 0, 1) := by decide +kernel
theorem dX4_solve_16 : decode cX4_solve 16 = .ok (.istore_n 3, 1) := by decide +kernel
theorem dX4_solve_17 : decode cX4_solve 17 = .ok (.iload_n 3, 1) := by decide +kernel
theorem dX4_solve_18 : decode cX4_solve 18 = .ok (.iload_n 1, 1) := by decide +kernel
theorem dX4_solve_19 : decode cX4_solve 19 = .ok (.if_icmp .ge 18, 3) := by decide +kernel
theorem dX4_solve_22 : decode cX4_solve 22 = .ok (.iload_n 2, 1) := by decide +kernel
theorem dX4_solve_23 : decode cX4_solve 23 = .ok (.ifCond .eq 14, 3) := by decide +kernel
theorem dX4_solve_26 : decode cX4_solve 26 = .ok (.aload_n 0, 1) := by decide +kernel
theorem dX4_solve_27 : decode cX4_solve 27 = .ok (.invokevirtual 126, 3) := by decide +kernel
theorem dX4_solve_30 : decode cX4_solve 30 = .ok (.istore_n 2, 1) := by decide +kernel
theorem dX4_solve_31 : decode cX4_solve 31 = .ok (.iinc 3 1, 3) := by decide +kernel
theorem dX4_solve_34 : decode cX4_solve 34 = .ok (.goto (-17), 3) := by decide +kernel
theorem dX4_solve_37 : decode cX4_solve 37 = .ok (.iload_n 2, 1) := by decide +kernel
theorem dX4_solve_38 : decode cX4_solve 38 = .ok (.ireturn, 1) := by decide +kernel
set_option maxRecDepth 20000 in
theorem ggX4_solution_X4_isPlace : GoodIn wsX4_solution wsX4_isPlace := goodIn_r _ [7, 8, 9, 10, 11, 12, 13, 14, 15, 16, 17, 18, 19, 20, 21] (by decide +kernel) (by decide +kernel)
set_option maxRecDepth 20000 in
theorem gX4_solution_X4_isPlace : GoodIn wsX4_solution (wsV RX4 72 RX4 yX4_isPlace wsX4_isPlace) := goodIn_app (goodIn_of _ (by decide +kernel)) ggX4_solution_X4_isPlace
theorem dX4_solution_0 : decode cX4_solution 0 = .ok (.aload_n 0, 1) := by decide +kernel
theorem dX4_solution_1 : decode cX4_solution 1 = .ok (.getfield 96, 3) := by decide +kernel
theorem dX4_solution_4 : decode cX4_solution 4 = .ok (.ifCond .eq 20, 3) := by decide +kernel
theorem dX4_solution_7 : decode cX4_solution 7 = .ok (.aload_n 0, 1) := by decide +kernel
theorem dX4_solution_8 : decode cX4_solution 8 = .ok (.iload_n 1, 1) := by decide +kernel
theorem dX4_solution_9 : decode cX4_solution 9 = .ok (.invokevirtual 72, 3) := by decide +kernel
theorem dX4_solution_12 : decode cX4_solution 12 = .ok (.ifCond .eq 12, 3) := by decide +kernel
theorem dX4_solution_15 : decode cX4_solution 15 = .ok (.aload_n 0, 1) := by decide +kernel
theorem dX4_solution_16 : decode cX4_solution 16 = .ok (.getfield 69, 3) := by decide +kernel
theorem dX4_solution_19 : decode cX4_solution 19 = .ok (.iload_n 1, 1) := by decide +kernel
theorem dX4_solution_20 : decode cX4_solution 20 = .ok (.iaload, 1) := by decide +kernel
theorem dX4_solution_21 : decode cX4_solution 21 = .ok (.goto 4, 3) := by decide +kernel
theorem dX4_solution_24 : decode cX4_solution 24 = .ok (.iconst (-1), 1) := by decide +kernel
theorem dX4_solution_25 : decode cX4_solution 25 = .ok (.ireturn, 1) := by decide +kernel
theorem dX4_degree_0 : decode cX4_degree 0 = .ok (.aload_n 0, 1) := by decide +kernel
theorem dX4_degree_1 : decode cX4_degree 1 = .ok (.getfield 110, 3) := by decide +kernel
theorem dX4_degree_4 : decode cX4_degree 4 = .ok (.ifCond .eq 13, 3) := by decide +kernel
theorem dX4_degree_7 : decode cX4_degree 7 = .ok (.aload_n 0, 1) := by decide +kernel
theorem dX4_degree_8 : decode cX4_degree 8 = .ok (.getfield 52, 3) := by decide +kernel
theorem dX4_degree_11 : decode cX4_degree 11 = .ok (.getfield 113, 3) := by decide +kernel
theorem dX4_degree_14 : decode cX4_degree 14 = .ok (.goto 4, 3) := by decide +kernel
theorem dX4_degree_17 : decode cX4_degree 17 = .ok (.iconst (-1), 1) := by decide +kernel
theorem dX4_degree_18 : decode cX4_degree 18 = .ok (.ireturn, 1) := by decide +kernel
set_option maxRecDepth 20000 in
theorem ggX4_coefficient_X3_term : GoodIn wsX4_coefficient wsX3_term := goodIn_r _ [8, 9, 23, 24, 25, 26, 27, 28, 29] (by decide +kernel) (by decide +kernel)
set_option maxRecDepth 20000 in
theorem gX4_coefficient_X3_term : GoodIn wsX4_coefficient (wsV RX4 129 RX3 yX3_term wsX3_term) := goodIn_app (goodIn_of _ (by decide +kernel)) ggX4_coefficient_X3_term
theorem dX4_coefficient_0 : decode cX4_coefficient 0 = .ok (.aload_n 0, 1) := by decide +kernel
theorem dX4_coefficient_1 : decode cX4_coefficient 1 = .ok (.getfield 110, 3) := by decide +kernel
theorem dX4_coefficient_4 : decode cX4_coefficient 4 = .ok (.ifCond .eq 18, 3) := by decide +kernel
theorem dX4_coefficient_7 : decode cX4_coefficient 7 = .ok (.iload_n 1, 1) := by decide +kernel
theorem dX4_coefficient_8 : decode cX4_coefficient 8 = .ok (.ifCond .lt 14, 3) := by decide +kernel
theorem dX4_coefficient_11 : decode cX4_coefficient 11 = .ok (.iload_n 1, 1) := by decide +kernel
theorem dX4_coefficient_12 : decode cX4_coefficient 12 = .ok (.aload_n 0, 1) := by decide +kernel
theorem dX4_coefficient_13 : decode cX4_coefficient 13 = .ok (.getfield 52, 3) := by decide +kernel
theorem dX4_coefficient_16 : decode cX4_coefficient 16 = .ok (.getfield 113, 3) := by decide +kernel
theorem dX4_coefficient_19 : decode cX4_coefficient 19 = .ok (.if_icmp .le 5, 3) := by decide +kernel
theorem dX4_coefficient_22 : decode cX4_coefficient 22 = .ok (.iconst (-1), 1) := by decide +kernel
theorem dX4_coefficient_23 : decode cX4_coefficient 23 = .ok (.ireturn, 1) := by decide +kernel
theorem dX4_coefficient_24 : decode cX4_coefficient 24 = .ok (.aload_n 0, 1) := by decide +kernel
theorem dX4_coefficient_25 : decode cX4_coefficient 25 = .ok (.getfield 52, 3) := by decide +kernel
theorem dX4_coefficient_28 : decode cX4_coefficient 28 = .ok (.aload_n 0, 1) := by decide +kernel
theorem dX4_coefficient_29 : decode cX4_coefficient 29 = .ok (.getfield 52, 3) := by decide +kernel
theorem dX4_coefficient_32 : decode cX4_coefficient 32 = .ok (.getfield 113, 3) := by decide +kernel
theorem dX4_coefficient_35 : decode cX4_coefficient 35 = .ok (.iload_n 1, 1) := by decide +kernel
theorem dX4_coefficient_36 : decode cX4_coefficient 36 = .ok (.isub, 1) := by decide +kernel
theorem dX4_coefficient_37 : decode cX4_coefficient 37 = .ok (.invokevirtual 129, 3) := by decide +kernel
theorem dX4_coefficient_40 : decode cX4_coefficient 40 = .ok (.ireturn, 1) := by decide +kernel
theorem dX4_number_0 : decode cX4_number 0 = .ok (.aload_n 0, 1) := by decide +kernel
theorem dX4_number_1 : decode cX4_number 1 = .ok (.getfield 110, 3) := by decide +kernel
theorem dX4_number_4 : decode cX4_number 4 = .ok (.ifCond .eq 25, 3) := by decide +kernel
theorem dX4_number_7 : decode cX4_number 7 = .ok (.iload_n 1, 1) := by decide +kernel
theorem dX4_number_8 : decode cX4_number 8 = .ok (.ifCond .lt 21, 3) := by decide +kernel
theorem dX4_number_11 : decode cX4_number 11 = .ok (.iload_n 1, 1) := by decide +kernel
theorem dX4_number_12 : decode cX4_number 12 = .ok (.aload_n 0, 1) := by decide +kernel
theorem dX4_number_13 : decode cX4_number 13 = .ok (.getfield 66, 3) := by decide +kernel
theorem dX4_number_16 : decode cX4_number 16 = .ok (.arraylength, 1) := by decide +kernel
theorem dX4_number_17 : decode cX4_number 17 = .ok (.if_icmp .ge 12, 3) := by decide +kernel
theorem dX4_number_20 : decode cX4_number 20 = .ok (.aload_n 0, 1) := by decide +kernel
theorem dX4_number_21 : decode cX4_number 21 = .ok (.getfield 66, 3) := by decide +kernel
theorem dX4_number_24 : decode cX4_number 24 = .ok (.iload_n 1, 1) := by decide +kernel
theorem dX4_number_25 : decode cX4_number 25 = .ok (.iaload, 1) := by decide +kernel
theorem dX4_number_26 : decode cX4_number 26 = .ok (.goto 4, 3) := by decide +kernel
theorem dX4_number_29 : decode cX4_number 29 = .ok (.iconst (-1), 1) := by decide +kernel
theorem dX4_number_30 : decode cX4_number 30 = .ok (.ireturn, 1) := by decide +kernel
set_option maxRecDepth 20000 in
theorem ggX4_verify_X4_answerMeetsRight : GoodIn wsX4_verify wsX4_answerMeetsRight := goodIn_r _ [6, 7, 8, 9, 10, 11, 12, 13, 14, 15, 16, 17, 18, 19, 20, 21, 22, 23, 24, 25, 26, 27, 28, 29, 30, 31, 32, 33, 34, 35, 36, 37, 38, 39, 40, 41, 42, 43, 44, 45, 46, 47, 48, 49, 50, 51, 52, 53, 54, 55, 56, 57, 58, 59] (by decide +kernel) (by decide +kernel)
set_option maxRecDepth 20000 in
theorem gX4_verify_X4_answerMeetsRight : GoodIn wsX4_verify (wsV RX4 123 RX4 yX4_answerMeetsRight wsX4_answerMeetsRight) := goodIn_app (goodIn_of _ (by decide +kernel)) ggX4_verify_X4_answerMeetsRight
theorem dX4_verify_0 : decode cX4_verify 0 = .ok (.aload_n 0, 1) := by decide +kernel
theorem dX4_verify_1 : decode cX4_verify 1 = .ok (.getfield 96, 3) := by decide +kernel
theorem dX4_verify_4 : decode cX4_verify 4 = .ok (.ifCond .eq 14, 3) := by decide +kernel
theorem dX4_verify_7 : decode cX4_verify 7 = .ok (.aload_n 0, 1) := by decide +kernel
theorem dX4_verify_8 : decode cX4_verify 8 = .ok (.invokevirtual 123, 3) := by decide +kernel
theorem dX4_verify_11 : decode cX4_verify 11 = .ok (.ifCond .eq 7, 3) := by decide +kernel
theorem dX4_verify_14 : decode cX4_verify 14 = .ok (.iconst 1, 1) := by decide +kernel
theorem dX4_verify_15 : decode cX4_verify 15 = .ok (.goto 4, 3) := by decide +kernel
theorem dX4_verify_18 : decode cX4_verify 18 = .ok (.iconst 0, 1) := by decide +kernel
theorem dX4_verify_19 : decode cX4_verify 19 = .ok (.ireturn, 1) := by decide +kernel
theorem dX4_products_0 : decode cX4_products 0 = .ok (.aload_n 0, 1) := by decide +kernel
theorem dX4_products_1 : decode cX4_products 1 = .ok (.getfield 36, 3) := by decide +kernel
theorem dX4_products_4 : decode cX4_products 4 = .ok (.getfield 132, 3) := by decide +kernel
theorem dX4_products_7 : decode cX4_products 7 = .ok (.ireturn, 1) := by decide +kernel
theorem dX4_count_0 : decode cX4_count 0 = .ok (.iload_n 1, 1) := by decide +kernel
theorem dX4_count_1 : decode cX4_count 1 = .ok (.tableswitch 69 0 4 #[35, 43, 48, 56, 64], 35) := by decide +kernel
theorem dX4_count_36 : decode cX4_count 36 = .ok (.aload_n 0, 1) := by decide +kernel
theorem dX4_count_37 : decode cX4_count 37 = .ok (.getfield 27, 3) := by decide +kernel
theorem dX4_count_40 : decode cX4_count 40 = .ok (.getfield 135, 3) := by decide +kernel
theorem dX4_count_43 : decode cX4_count 43 = .ok (.ireturn, 1) := by decide +kernel
theorem dX4_count_44 : decode cX4_count 44 = .ok (.aload_n 0, 1) := by decide +kernel
theorem dX4_count_45 : decode cX4_count 45 = .ok (.getfield 13, 3) := by decide +kernel
theorem dX4_count_48 : decode cX4_count 48 = .ok (.ireturn, 1) := by decide +kernel
theorem dX4_count_49 : decode cX4_count 49 = .ok (.aload_n 0, 1) := by decide +kernel
theorem dX4_count_50 : decode cX4_count 50 = .ok (.getfield 36, 3) := by decide +kernel
theorem dX4_count_53 : decode cX4_count 53 = .ok (.getfield 138, 3) := by decide +kernel
theorem dX4_count_56 : decode cX4_count 56 = .ok (.ireturn, 1) := by decide +kernel
theorem dX4_count_57 : decode cX4_count 57 = .ok (.aload_n 0, 1) := by decide +kernel
theorem dX4_count_58 : decode cX4_count 58 = .ok (.getfield 43, 3) := by decide +kernel
theorem dX4_count_61 : decode cX4_count 61 = .ok (.getfield 141, 3) := by decide +kernel
theorem dX4_count_64 : decode cX4_count 64 = .ok (.ireturn, 1) := by decide +kernel
theorem dX4_count_65 : decode cX4_count 65 = .ok (.aload_n 0, 1) := by decide +kernel
theorem dX4_count_66 : decode cX4_count 66 = .ok (.getfield 93, 3) := by decide +kernel
theorem dX4_count_69 : decode cX4_count 69 = .ok (.ireturn, 1) := by decide +kernel
theorem dX4_count_70 : decode cX4_count 70 = .ok (.iconst (-1), 1) := by decide +kernel
theorem dX4_count_71 : decode cX4_count 71 = .ok (.ireturn, 1) := by decide +kernel
theorem dX4_isPlace_0 : decode cX4_isPlace 0 = .ok (.iload_n 1, 1) := by decide +kernel
theorem dX4_isPlace_1 : decode cX4_isPlace 1 = .ok (.ifCond .lt 15, 3) := by decide +kernel
theorem dX4_isPlace_4 : decode cX4_isPlace 4 = .ok (.iload_n 1, 1) := by decide +kernel
theorem dX4_isPlace_5 : decode cX4_isPlace 5 = .ok (.aload_n 0, 1) := by decide +kernel
theorem dX4_isPlace_6 : decode cX4_isPlace 6 = .ok (.getfield 13, 3) := by decide +kernel
theorem dX4_isPlace_9 : decode cX4_isPlace 9 = .ok (.if_icmp .ge 7, 3) := by decide +kernel
theorem dX4_isPlace_12 : decode cX4_isPlace 12 = .ok (.iconst 1, 1) := by decide +kernel
theorem dX4_isPlace_13 : decode cX4_isPlace 13 = .ok (.goto 4, 3) := by decide +kernel
theorem dX4_isPlace_16 : decode cX4_isPlace 16 = .ok (.iconst 0, 1) := by decide +kernel
theorem dX4_isPlace_17 : decode cX4_isPlace 17 = .ok (.ireturn, 1) := by decide +kernel
theorem dX4_forgetResults_0 : decode cX4_forgetResults 0 = .ok (.aload_n 0, 1) := by decide +kernel
theorem dX4_forgetResults_1 : decode cX4_forgetResults 1 = .ok (.iconst 0, 1) := by decide +kernel
theorem dX4_forgetResults_2 : decode cX4_forgetResults 2 = .ok (.putfield 110, 3) := by decide +kernel
theorem dX4_forgetResults_5 : decode cX4_forgetResults 5 = .ok (.aload_n 0, 1) := by decide +kernel
theorem dX4_forgetResults_6 : decode cX4_forgetResults 6 = .ok (.iconst 0, 1) := by decide +kernel
theorem dX4_forgetResults_7 : decode cX4_forgetResults 7 = .ok (.putfield 96, 3) := by decide +kernel
theorem dX4_forgetResults_10 : decode cX4_forgetResults 10 = .ok (.return_, 1) := by decide +kernel
set_option maxRecDepth 20000 in
theorem ggX4_drawChance_X0_next : GoodIn wsX4_drawChance wsX0_next := goodIn_r _ [9, 10, 11, 12, 13, 33] (by decide +kernel) (by decide +kernel)
set_option maxRecDepth 20000 in
theorem gX4_drawChance_X0_next : GoodIn wsX4_drawChance (wsV RX4 144 RX0 yX0_next wsX0_next) := goodIn_app (goodIn_of _ (by decide +kernel)) ggX4_drawChance_X0_next
set_option maxRecDepth 20000 in
theorem ggX4_drawChance_X2_reduce : GoodIn wsX4_drawChance wsX2_reduce := goodIn_r _ [18, 19, 34] (by decide +kernel) (by decide +kernel)
set_option maxRecDepth 20000 in
theorem gX4_drawChance_X2_reduce : GoodIn wsX4_drawChance (wsV RX4 80 RX2 yX2_reduce wsX2_reduce) := goodIn_app (goodIn_of _ (by decide +kernel)) ggX4_drawChance_X2_reduce
theorem dX4_drawChance_0 : decode cX4_drawChance 0 = .ok (.iconst 0, 1) := by decide +kernel
theorem dX4_drawChance_1 : decode cX4_drawChance 1 = .ok (.istore_n 1, 1) := by decide +kernel
theorem dX4_drawChance_2 : decode cX4_drawChance 2 = .ok (.iload_n 1, 1) := by decide +kernel
theorem dX4_drawChance_3 : decode cX4_drawChance 3 = .ok (.aload_n 0, 1) := by decide +kernel
theorem dX4_drawChance_4 : decode cX4_drawChance 4 = .ok (.getfield 13, 3) := by decide +kernel
theorem dX4_drawChance_7 : decode cX4_drawChance 7 = .ok (.if_icmp .ge 29, 3) := by decide +kernel
theorem dX4_drawChance_10 : decode cX4_drawChance 10 = .ok (.aload_n 0, 1) := by decide +kernel
theorem dX4_drawChance_11 : decode cX4_drawChance 11 = .ok (.getfield 60, 3) := by decide +kernel
theorem dX4_drawChance_14 : decode cX4_drawChance 14 = .ok (.iload_n 1, 1) := by decide +kernel
theorem dX4_drawChance_15 : decode cX4_drawChance 15 = .ok (.aload_n 0, 1) := by decide +kernel
theorem dX4_drawChance_16 : decode cX4_drawChance 16 = .ok (.getfield 27, 3) := by decide +kernel
theorem dX4_drawChance_19 : decode cX4_drawChance 19 = .ok (.aload_n 0, 1) := by decide +kernel
theorem dX4_drawChance_20 : decode cX4_drawChance 20 = .ok (.getfield 43, 3) := by decide +kernel
theorem dX4_drawChance_23 : decode cX4_drawChance 23 = .ok (.invokevirtual 144, 3) := by decide +kernel
theorem dX4_drawChance_26 : decode cX4_drawChance 26 = .ok (.invokevirtual 80, 3) := by decide +kernel
theorem dX4_drawChance_29 : decode cX4_drawChance 29 = .ok (.iastore, 1) := by decide +kernel
theorem dX4_drawChance_30 : decode cX4_drawChance 30 = .ok (.iinc 1 1, 3) := by decide +kernel
theorem dX4_drawChance_33 : decode cX4_drawChance 33 = .ok (.goto (-31), 3) := by decide +kernel
theorem dX4_drawChance_36 : decode cX4_drawChance 36 = .ok (.return_, 1) := by decide +kernel
set_option maxRecDepth 20000 in
theorem ggX4_fillRow_X4_chanceTimesWork : GoodIn wsX4_fillRow wsX4_chanceTimesWork := goodIn_r _ [14, 3, 15, 16, 2, 17, 18, 19, 20, 21, 22, 41, 42, 43, 44, 45, 46, 47, 48, 49, 50, 51, 52, 53, 54] (by decide +kernel) (by decide +kernel)
set_option maxRecDepth 20000 in
theorem gX4_fillRow_X4_chanceTimesWork : GoodIn wsX4_fillRow (wsV RX4 153 RX4 yX4_chanceTimesWork wsX4_chanceTimesWork) := goodIn_app (goodIn_of _ (by decide +kernel)) ggX4_fillRow_X4_chanceTimesWork
set_option maxRecDepth 20000 in
theorem ggX4_fillRow_X1_apply : GoodIn wsX4_fillRow wsX1_apply := goodIn_r _ [27, 28, 29, 30, 31, 32, 33, 34, 35, 5, 6, 7, 36, 37, 38, 39, 40, 18, 19, 20, 21, 22, 55, 56, 57, 58, 59, 60, 61, 54] (by decide +kernel) (by decide +kernel)
set_option maxRecDepth 20000 in
theorem gX4_fillRow_X1_apply : GoodIn wsX4_fillRow (wsV RX4 156 RX1 yX1_apply wsX1_apply) := goodIn_app (goodIn_of _ (by decide +kernel)) ggX4_fillRow_X1_apply
theorem dX4_fillRow_0 : decode cX4_fillRow 0 = .ok (.aload_n 0, 1) := by decide +kernel
theorem dX4_fillRow_1 : decode cX4_fillRow 1 = .ok (.getfield 56, 3) := by decide +kernel
theorem dX4_fillRow_4 : decode cX4_fillRow 4 = .ok (.iconst 0, 1) := by decide +kernel
theorem dX4_fillRow_5 : decode cX4_fillRow 5 = .ok (.aload_n 0, 1) := by decide +kernel
theorem dX4_fillRow_6 : decode cX4_fillRow 6 = .ok (.getfield 63, 3) := by decide +kernel
theorem dX4_fillRow_9 : decode cX4_fillRow 9 = .ok (.iconst 0, 1) := by decide +kernel
theorem dX4_fillRow_10 : decode cX4_fillRow 10 = .ok (.aload_n 0, 1) := by decide +kernel
theorem dX4_fillRow_11 : decode cX4_fillRow 11 = .ok (.getfield 13, 3) := by decide +kernel
theorem dX4_fillRow_14 : decode cX4_fillRow 14 = .ok (.invokestatic 147, 3) := by decide +kernel
theorem dX4_fillRow_17 : decode cX4_fillRow 17 = .ok (.aload_n 0, 1) := by decide +kernel
theorem dX4_fillRow_18 : decode cX4_fillRow 18 = .ok (.getfield 66, 3) := by decide +kernel
theorem dX4_fillRow_21 : decode cX4_fillRow 21 = .ok (.iconst 0, 1) := by decide +kernel
theorem dX4_fillRow_22 : decode cX4_fillRow 22 = .ok (.aload_n 0, 1) := by decide +kernel
theorem dX4_fillRow_23 : decode cX4_fillRow 23 = .ok (.invokevirtual 153, 3) := by decide +kernel
theorem dX4_fillRow_26 : decode cX4_fillRow 26 = .ok (.iastore, 1) := by decide +kernel
theorem dX4_fillRow_27 : decode cX4_fillRow 27 = .ok (.iconst 1, 1) := by decide +kernel
theorem dX4_fillRow_28 : decode cX4_fillRow 28 = .ok (.istore_n 1, 1) := by decide +kernel
theorem dX4_fillRow_29 : decode cX4_fillRow 29 = .ok (.iload_n 1, 1) := by decide +kernel
theorem dX4_fillRow_30 : decode cX4_fillRow 30 = .ok (.aload_n 0, 1) := by decide +kernel
theorem dX4_fillRow_31 : decode cX4_fillRow 31 = .ok (.getfield 66, 3) := by decide +kernel
theorem dX4_fillRow_34 : decode cX4_fillRow 34 = .ok (.arraylength, 1) := by decide +kernel
theorem dX4_fillRow_35 : decode cX4_fillRow 35 = .ok (.if_icmp .ge 30, 3) := by decide +kernel
theorem dX4_fillRow_38 : decode cX4_fillRow 38 = .ok (.aload_n 0, 1) := by decide +kernel
theorem dX4_fillRow_39 : decode cX4_fillRow 39 = .ok (.getfield 36, 3) := by decide +kernel
theorem dX4_fillRow_42 : decode cX4_fillRow 42 = .ok (.aload_n 0, 1) := by decide +kernel
theorem dX4_fillRow_43 : decode cX4_fillRow 43 = .ok (.getfield 63, 3) := by decide +kernel
theorem dX4_fillRow_46 : decode cX4_fillRow 46 = .ok (.invokevirtual 156, 3) := by decide +kernel
theorem dX4_fillRow_49 : decode cX4_fillRow 49 = .ok (.aload_n 0, 1) := by decide +kernel
theorem dX4_fillRow_50 : decode cX4_fillRow 50 = .ok (.getfield 66, 3) := by decide +kernel
theorem dX4_fillRow_53 : decode cX4_fillRow 53 = .ok (.iload_n 1, 1) := by decide +kernel
theorem dX4_fillRow_54 : decode cX4_fillRow 54 = .ok (.aload_n 0, 1) := by decide +kernel
theorem dX4_fillRow_55 : decode cX4_fillRow 55 = .ok (.invokevirtual 153, 3) := by decide +kernel
theorem dX4_fillRow_58 : decode cX4_fillRow 58 = .ok (.iastore, 1) := by decide +kernel
theorem dX4_fillRow_59 : decode cX4_fillRow 59 = .ok (.iinc 1 1, 3) := by decide +kernel
theorem dX4_fillRow_62 : decode cX4_fillRow 62 = .ok (.goto (-33), 3) := by decide +kernel
theorem dX4_fillRow_65 : decode cX4_fillRow 65 = .ok (.return_, 1) := by decide +kernel
set_option maxRecDepth 20000 in
theorem ggX4_chanceTimesWork_X2_plusProduct : GoodIn wsX4_chanceTimesWork wsX2_plusProduct := goodIn_r _ [9, 10, 24] (by decide +kernel) (by decide +kernel)
set_option maxRecDepth 20000 in
theorem gX4_chanceTimesWork_X2_plusProduct : GoodIn wsX4_chanceTimesWork (wsV RX4 159 RX2 yX2_plusProduct wsX2_plusProduct) := goodIn_app (goodIn_of _ (by decide +kernel)) ggX4_chanceTimesWork_X2_plusProduct
theorem dX4_chanceTimesWork_0 : decode cX4_chanceTimesWork 0 = .ok (.iconst 0, 1) := by decide +kernel
theorem dX4_chanceTimesWork_1 : decode cX4_chanceTimesWork 1 = .ok (.istore_n 1, 1) := by decide +kernel
theorem dX4_chanceTimesWork_2 : decode cX4_chanceTimesWork 2 = .ok (.iconst 0, 1) := by decide +kernel
theorem dX4_chanceTimesWork_3 : decode cX4_chanceTimesWork 3 = .ok (.istore_n 2, 1) := by decide +kernel
theorem dX4_chanceTimesWork_4 : decode cX4_chanceTimesWork 4 = .ok (.iload_n 2, 1) := by decide +kernel
theorem dX4_chanceTimesWork_5 : decode cX4_chanceTimesWork 5 = .ok (.aload_n 0, 1) := by decide +kernel
theorem dX4_chanceTimesWork_6 : decode cX4_chanceTimesWork 6 = .ok (.getfield 13, 3) := by decide +kernel
theorem dX4_chanceTimesWork_9 : decode cX4_chanceTimesWork 9 = .ok (.if_icmp .ge 30, 3) := by decide +kernel
theorem dX4_chanceTimesWork_12 : decode cX4_chanceTimesWork 12 = .ok (.aload_n 0, 1) := by decide +kernel
theorem dX4_chanceTimesWork_13 : decode cX4_chanceTimesWork 13 = .ok (.getfield 27, 3) := by decide +kernel
theorem dX4_chanceTimesWork_16 : decode cX4_chanceTimesWork 16 = .ok (.iload_n 1, 1) := by decide +kernel
theorem dX4_chanceTimesWork_17 : decode cX4_chanceTimesWork 17 = .ok (.aload_n 0, 1) := by decide +kernel
theorem dX4_chanceTimesWork_18 : decode cX4_chanceTimesWork 18 = .ok (.getfield 60, 3) := by decide +kernel
theorem dX4_chanceTimesWork_21 : decode cX4_chanceTimesWork 21 = .ok (.iload_n 2, 1) := by decide +kernel
theorem dX4_chanceTimesWork_22 : decode cX4_chanceTimesWork 22 = .ok (.iaload, 1) := by decide +kernel
theorem dX4_chanceTimesWork_23 : decode cX4_chanceTimesWork 23 = .ok (.aload_n 0, 1) := by decide +kernel
theorem dX4_chanceTimesWork_24 : decode cX4_chanceTimesWork 24 = .ok (.getfield 63, 3) := by decide +kernel
theorem dX4_chanceTimesWork_27 : decode cX4_chanceTimesWork 27 = .ok (.iload_n 2, 1) := by decide +kernel
theorem dX4_chanceTimesWork_28 : decode cX4_chanceTimesWork 28 = .ok (.iaload, 1) := by decide +kernel
theorem dX4_chanceTimesWork_29 : decode cX4_chanceTimesWork 29 = .ok (.invokevirtual 159, 3) := by decide +kernel
theorem dX4_chanceTimesWork_32 : decode cX4_chanceTimesWork 32 = .ok (.istore_n 1, 1) := by decide +kernel
theorem dX4_chanceTimesWork_33 : decode cX4_chanceTimesWork 33 = .ok (.iinc 2 1, 3) := by decide +kernel
theorem dX4_chanceTimesWork_36 : decode cX4_chanceTimesWork 36 = .ok (.goto (-32), 3) := by decide +kernel
theorem dX4_chanceTimesWork_39 : decode cX4_chanceTimesWork 39 = .ok (.iload_n 1, 1) := by decide +kernel
theorem dX4_chanceTimesWork_40 : decode cX4_chanceTimesWork 40 = .ok (.ireturn, 1) := by decide +kernel
set_option maxRecDepth 20000 in
theorem ggX4_makeCandidate_J7_fill_53178 : GoodIn wsX4_makeCandidate wsJ7_fill_53178 := goodIn_r _ [16] (by decide +kernel) (by decide +kernel)
set_option maxRecDepth 20000 in
theorem gX4_makeCandidate_J7_fill_53178 : GoodIn wsX4_makeCandidate (va_wsS RX4 162 yJ7_fill_53178 wsJ7_fill_53178) := goodIn_app (goodIn_of _ (by decide +kernel)) ggX4_makeCandidate_J7_fill_53178
set_option maxRecDepth 20000 in
theorem ggX4_makeCandidate_X1_apply : GoodIn wsX4_makeCandidate wsX1_apply := goodIn_r _ [21, 22, 23, 24, 25, 26, 27, 28, 29, 8, 9, 10, 30, 14, 15, 16, 31, 32, 33, 34, 35, 36, 84, 85, 86, 87, 88, 89, 90, 91] (by decide +kernel) (by decide +kernel)
set_option maxRecDepth 20000 in
theorem gX4_makeCandidate_X1_apply : GoodIn wsX4_makeCandidate (wsV RX4 156 RX1 yX1_apply wsX1_apply) := goodIn_app (goodIn_of _ (by decide +kernel)) ggX4_makeCandidate_X1_apply
set_option maxRecDepth 20000 in
theorem ggX4_makeCandidate_X3_term : GoodIn wsX4_makeCandidate wsX3_term := goodIn_r _ [41, 42, 77, 78, 79, 80, 81, 82, 83] (by decide +kernel) (by decide +kernel)
set_option maxRecDepth 20000 in
theorem gX4_makeCandidate_X3_term : GoodIn wsX4_makeCandidate (wsV RX4 129 RX3 yX3_term wsX3_term) := goodIn_app (goodIn_of _ (by decide +kernel)) ggX4_makeCandidate_X3_term
set_option maxRecDepth 20000 in
theorem ggX4_makeCandidate_X4_addRightToWork : GoodIn wsX4_makeCandidate wsX4_addRightToWork := goodIn_r _ [47, 6, 5, 12, 4, 48, 32, 33, 34, 35, 36, 64, 65, 66, 67, 68, 69, 70, 71, 72, 73, 74, 75, 76, 91] (by decide +kernel) (by decide +kernel)
set_option maxRecDepth 20000 in
theorem gX4_makeCandidate_X4_addRightToWork : GoodIn wsX4_makeCandidate (wsV RX4 168 RX4 yX4_addRightToWork wsX4_addRightToWork) := goodIn_app (goodIn_of _ (by decide +kernel)) ggX4_makeCandidate_X4_addRightToWork
set_option maxRecDepth 20000 in
theorem ggX4_makeCandidate_X3_lastTerm : GoodIn wsX4_makeCandidate wsX3_lastTerm := goodIn_r _ [52, 53, 54, 38, 39, 40, 41, 42, 77, 78, 79, 80, 81, 82, 83] (by decide +kernel) (by decide +kernel)
set_option maxRecDepth 20000 in
theorem gX4_makeCandidate_X3_lastTerm : GoodIn wsX4_makeCandidate (wsV RX4 116 RX3 yX3_lastTerm wsX3_lastTerm) := goodIn_app (goodIn_of _ (by decide +kernel)) ggX4_makeCandidate_X3_lastTerm
set_option maxRecDepth 20000 in
theorem ggX4_makeCandidate_X2_negative : GoodIn wsX4_makeCandidate wsX2_negative := goodIn_r _ [58, 36, 91] (by decide +kernel) (by decide +kernel)
set_option maxRecDepth 20000 in
theorem gX4_makeCandidate_X2_negative : GoodIn wsX4_makeCandidate (wsV RX4 171 RX2 yX2_negative wsX2_negative) := goodIn_app (goodIn_of _ (by decide +kernel)) ggX4_makeCandidate_X2_negative
set_option maxRecDepth 20000 in
theorem ggX4_makeCandidate_X2_inverse : GoodIn wsX4_makeCandidate wsX2_inverse := goodIn_r _ [62, 36, 63, 32, 33, 34, 35, 91] (by decide +kernel) (by decide +kernel)
set_option maxRecDepth 20000 in
theorem gX4_makeCandidate_X2_inverse : GoodIn wsX4_makeCandidate (wsV RX4 174 RX2 yX2_inverse wsX2_inverse) := goodIn_app (goodIn_of _ (by decide +kernel)) ggX4_makeCandidate_X2_inverse
set_option maxRecDepth 20000 in
theorem ggX4_makeCandidate_X2_plusProduct : GoodIn wsX4_makeCandidate wsX2_plusProduct := goodIn_r _ [35, 36, 91] (by decide +kernel) (by decide +kernel)
set_option maxRecDepth 20000 in
theorem gX4_makeCandidate_X2_plusProduct : GoodIn wsX4_makeCandidate (wsV RX4 159 RX2 yX2_plusProduct wsX2_plusProduct) := goodIn_app (goodIn_of _ (by decide +kernel)) ggX4_makeCandidate_X2_plusProduct
theorem dX4_makeCandidate_0 : decode cX4_makeCandidate 0 = .ok (.aload_n 0, 1) := by decide +kernel
theorem dX4_makeCandidate_1 : decode cX4_makeCandidate 1 = .ok (.getfield 52, 3) := by decide +kernel
theorem dX4_makeCandidate_4 : decode cX4_makeCandidate 4 = .ok (.getfield 113, 3) := by decide +kernel
theorem dX4_makeCandidate_7 : decode cX4_makeCandidate 7 = .ok (.ifCond .ne 12, 3) := by decide +kernel
theorem dX4_makeCandidate_10 : decode cX4_makeCandidate 10 = .ok (.aload_n 0, 1) := by decide +kernel
theorem dX4_makeCandidate_11 : decode cX4_makeCandidate 11 = .ok (.getfield 69, 3) := by decide +kernel
theorem dX4_makeCandidate_14 : decode cX4_makeCandidate 14 = .ok (.iconst 0, 1) := by decide +kernel
theorem dX4_makeCandidate_15 : decode cX4_makeCandidate 15 = .ok (.invokestatic 162, 3) := by decide +kernel
theorem dX4_makeCandidate_18 : decode cX4_makeCandidate 18 = .ok (.return_, 1) := by decide +kernel
theorem dX4_makeCandidate_19 : decode cX4_makeCandidate 19 = .ok (.aload_n 0, 1) := by decide +kernel
theorem dX4_makeCandidate_20 : decode cX4_makeCandidate 20 = .ok (.getfield 56, 3) := by decide +kernel
theorem dX4_makeCandidate_23 : decode cX4_makeCandidate 23 = .ok (.iconst 0, 1) := by decide +kernel
theorem dX4_makeCandidate_24 : decode cX4_makeCandidate 24 = .ok (.aload_n 0, 1) := by decide +kernel
theorem dX4_makeCandidate_25 : decode cX4_makeCandidate 25 = .ok (.getfield 63, 3) := by decide +kernel
theorem dX4_makeCandidate_28 : decode cX4_makeCandidate 28 = .ok (.iconst 0, 1) := by decide +kernel
theorem dX4_makeCandidate_29 : decode cX4_makeCandidate 29 = .ok (.aload_n 0, 1) := by decide +kernel
theorem dX4_makeCandidate_30 : decode cX4_makeCandidate 30 = .ok (.getfield 13, 3) := by decide +kernel
theorem dX4_makeCandidate_33 : decode cX4_makeCandidate 33 = .ok (.invokestatic 147, 3) := by decide +kernel
theorem dX4_makeCandidate_36 : decode cX4_makeCandidate 36 = .ok (.iconst 1, 1) := by decide +kernel
theorem dX4_makeCandidate_37 : decode cX4_makeCandidate 37 = .ok (.istore_n 1, 1) := by decide +kernel
theorem dX4_makeCandidate_38 : decode cX4_makeCandidate 38 = .ok (.iload_n 1, 1) := by decide +kernel
theorem dX4_makeCandidate_39 : decode cX4_makeCandidate 39 = .ok (.aload_n 0, 1) := by decide +kernel
theorem dX4_makeCandidate_40 : decode cX4_makeCandidate 40 = .ok (.getfield 52, 3) := by decide +kernel
theorem dX4_makeCandidate_43 : decode cX4_makeCandidate 43 = .ok (.getfield 113, 3) := by decide +kernel
theorem dX4_makeCandidate_46 : decode cX4_makeCandidate 46 = .ok (.if_icmp .ge 32, 3) := by decide +kernel
theorem dX4_makeCandidate_49 : decode cX4_makeCandidate 49 = .ok (.aload_n 0, 1) := by decide +kernel
theorem dX4_makeCandidate_50 : decode cX4_makeCandidate 50 = .ok (.getfield 36, 3) := by decide +kernel
theorem dX4_makeCandidate_53 : decode cX4_makeCandidate 53 = .ok (.aload_n 0, 1) := by decide +kernel
theorem dX4_makeCandidate_54 : decode cX4_makeCandidate 54 = .ok (.getfield 63, 3) := by decide +kernel
theorem dX4_makeCandidate_57 : decode cX4_makeCandidate 57 = .ok (.invokevirtual 156, 3) := by decide +kernel
theorem dX4_makeCandidate_60 : decode cX4_makeCandidate 60 = .ok (.aload_n 0, 1) := by decide +kernel
theorem dX4_makeCandidate_61 : decode cX4_makeCandidate 61 = .ok (.aload_n 0, 1) := by decide +kernel
theorem dX4_makeCandidate_62 : decode cX4_makeCandidate 62 = .ok (.getfield 52, 3) := by decide +kernel
theorem dX4_makeCandidate_65 : decode cX4_makeCandidate 65 = .ok (.iload_n 1, 1) := by decide +kernel
theorem dX4_makeCandidate_66 : decode cX4_makeCandidate 66 = .ok (.invokevirtual 129, 3) := by decide +kernel
theorem dX4_makeCandidate_69 : decode cX4_makeCandidate 69 = .ok (.invokevirtual 168, 3) := by decide +kernel
theorem dX4_makeCandidate_72 : decode cX4_makeCandidate 72 = .ok (.iinc 1 1, 3) := by decide +kernel
theorem dX4_makeCandidate_75 : decode cX4_makeCandidate 75 = .ok (.goto (-37), 3) := by decide +kernel
theorem dX4_makeCandidate_78 : decode cX4_makeCandidate 78 = .ok (.aload_n 0, 1) := by decide +kernel
theorem dX4_makeCandidate_79 : decode cX4_makeCandidate 79 = .ok (.getfield 27, 3) := by decide +kernel
theorem dX4_makeCandidate_82 : decode cX4_makeCandidate 82 = .ok (.aload_n 0, 1) := by decide +kernel
theorem dX4_makeCandidate_83 : decode cX4_makeCandidate 83 = .ok (.getfield 27, 3) := by decide +kernel
theorem dX4_makeCandidate_86 : decode cX4_makeCandidate 86 = .ok (.aload_n 0, 1) := by decide +kernel
theorem dX4_makeCandidate_87 : decode cX4_makeCandidate 87 = .ok (.getfield 52, 3) := by decide +kernel
theorem dX4_makeCandidate_90 : decode cX4_makeCandidate 90 = .ok (.invokevirtual 116, 3) := by decide +kernel
theorem dX4_makeCandidate_93 : decode cX4_makeCandidate 93 = .ok (.invokevirtual 171, 3) := by decide +kernel
theorem dX4_makeCandidate_96 : decode cX4_makeCandidate 96 = .ok (.invokevirtual 174, 3) := by decide +kernel
theorem dX4_makeCandidate_99 : decode cX4_makeCandidate 99 = .ok (.istore_n 1, 1) := by decide +kernel
theorem dX4_makeCandidate_100 : decode cX4_makeCandidate 100 = .ok (.iconst 0, 1) := by decide +kernel
theorem dX4_makeCandidate_101 : decode cX4_makeCandidate 101 = .ok (.istore_n 2, 1) := by decide +kernel
theorem dX4_makeCandidate_102 : decode cX4_makeCandidate 102 = .ok (.iload_n 2, 1) := by decide +kernel
theorem dX4_makeCandidate_103 : decode cX4_makeCandidate 103 = .ok (.aload_n 0, 1) := by decide +kernel
theorem dX4_makeCandidate_104 : decode cX4_makeCandidate 104 = .ok (.getfield 13, 3) := by decide +kernel
theorem dX4_makeCandidate_107 : decode cX4_makeCandidate 107 = .ok (.if_icmp .ge 30, 3) := by decide +kernel
theorem dX4_makeCandidate_110 : decode cX4_makeCandidate 110 = .ok (.aload_n 0, 1) := by decide +kernel
theorem dX4_makeCandidate_111 : decode cX4_makeCandidate 111 = .ok (.getfield 69, 3) := by decide +kernel
theorem dX4_makeCandidate_114 : decode cX4_makeCandidate 114 = .ok (.iload_n 2, 1) := by decide +kernel
theorem dX4_makeCandidate_115 : decode cX4_makeCandidate 115 = .ok (.aload_n 0, 1) := by decide +kernel
theorem dX4_makeCandidate_116 : decode cX4_makeCandidate 116 = .ok (.getfield 27, 3) := by decide +kernel
theorem dX4_makeCandidate_119 : decode cX4_makeCandidate 119 = .ok (.iconst 0, 1) := by decide +kernel
theorem dX4_makeCandidate_120 : decode cX4_makeCandidate 120 = .ok (.aload_n 0, 1) := by decide +kernel
theorem dX4_makeCandidate_121 : decode cX4_makeCandidate 121 = .ok (.getfield 63, 3) := by decide +kernel
theorem dX4_makeCandidate_124 : decode cX4_makeCandidate 124 = .ok (.iload_n 2, 1) := by decide +kernel
theorem dX4_makeCandidate_125 : decode cX4_makeCandidate 125 = .ok (.iaload, 1) := by decide +kernel
theorem dX4_makeCandidate_126 : decode cX4_makeCandidate 126 = .ok (.iload_n 1, 1) := by decide +kernel
theorem dX4_makeCandidate_127 : decode cX4_makeCandidate 127 = .ok (.invokevirtual 159, 3) := by decide +kernel
theorem dX4_makeCandidate_130 : decode cX4_makeCandidate 130 = .ok (.iastore, 1) := by decide +kernel
theorem dX4_makeCandidate_131 : decode cX4_makeCandidate 131 = .ok (.iinc 2 1, 3) := by decide +kernel
theorem dX4_makeCandidate_134 : decode cX4_makeCandidate 134 = .ok (.goto (-32), 3) := by decide +kernel
theorem dX4_makeCandidate_137 : decode cX4_makeCandidate 137 = .ok (.return_, 1) := by decide +kernel
set_option maxRecDepth 20000 in
theorem ggX4_addRightToWork_X2_plusProduct : GoodIn wsX4_addRightToWork wsX2_plusProduct := goodIn_r _ [9, 10, 24] (by decide +kernel) (by decide +kernel)
set_option maxRecDepth 20000 in
theorem gX4_addRightToWork_X2_plusProduct : GoodIn wsX4_addRightToWork (wsV RX4 159 RX2 yX2_plusProduct wsX2_plusProduct) := goodIn_app (goodIn_of _ (by decide +kernel)) ggX4_addRightToWork_X2_plusProduct
theorem dX4_addRightToWork_0 : decode cX4_addRightToWork 0 = .ok (.iconst 0, 1) := by decide +kernel
theorem dX4_addRightToWork_1 : decode cX4_addRightToWork 1 = .ok (.istore_n 2, 1) := by decide +kernel
theorem dX4_addRightToWork_2 : decode cX4_addRightToWork 2 = .ok (.iload_n 2, 1) := by decide +kernel
theorem dX4_addRightToWork_3 : decode cX4_addRightToWork 3 = .ok (.aload_n 0, 1) := by decide +kernel
theorem dX4_addRightToWork_4 : decode cX4_addRightToWork 4 = .ok (.getfield 13, 3) := by decide +kernel
theorem dX4_addRightToWork_7 : decode cX4_addRightToWork 7 = .ok (.if_icmp .ge 35, 3) := by decide +kernel
theorem dX4_addRightToWork_10 : decode cX4_addRightToWork 10 = .ok (.aload_n 0, 1) := by decide +kernel
theorem dX4_addRightToWork_11 : decode cX4_addRightToWork 11 = .ok (.getfield 63, 3) := by decide +kernel
theorem dX4_addRightToWork_14 : decode cX4_addRightToWork 14 = .ok (.iload_n 2, 1) := by decide +kernel
theorem dX4_addRightToWork_15 : decode cX4_addRightToWork 15 = .ok (.aload_n 0, 1) := by decide +kernel
theorem dX4_addRightToWork_16 : decode cX4_addRightToWork 16 = .ok (.getfield 27, 3) := by decide +kernel
theorem dX4_addRightToWork_19 : decode cX4_addRightToWork 19 = .ok (.aload_n 0, 1) := by decide +kernel
theorem dX4_addRightToWork_20 : decode cX4_addRightToWork 20 = .ok (.getfield 63, 3) := by decide +kernel
theorem dX4_addRightToWork_23 : decode cX4_addRightToWork 23 = .ok (.iload_n 2, 1) := by decide +kernel
theorem dX4_addRightToWork_24 : decode cX4_addRightToWork 24 = .ok (.iaload, 1) := by decide +kernel
theorem dX4_addRightToWork_25 : decode cX4_addRightToWork 25 = .ok (.iload_n 1, 1) := by decide +kernel
theorem dX4_addRightToWork_26 : decode cX4_addRightToWork 26 = .ok (.aload_n 0, 1) := by decide +kernel
theorem dX4_addRightToWork_27 : decode cX4_addRightToWork 27 = .ok (.getfield 56, 3) := by decide +kernel
theorem dX4_addRightToWork_30 : decode cX4_addRightToWork 30 = .ok (.iload_n 2, 1) := by decide +kernel
theorem dX4_addRightToWork_31 : decode cX4_addRightToWork 31 = .ok (.iaload, 1) := by decide +kernel
theorem dX4_addRightToWork_32 : decode cX4_addRightToWork 32 = .ok (.invokevirtual 159, 3) := by decide +kernel
theorem dX4_addRightToWork_35 : decode cX4_addRightToWork 35 = .ok (.iastore, 1) := by decide +kernel
theorem dX4_addRightToWork_36 : decode cX4_addRightToWork 36 = .ok (.iinc 2 1, 3) := by decide +kernel
theorem dX4_addRightToWork_39 : decode cX4_addRightToWork 39 = .ok (.goto (-37), 3) := by decide +kernel
theorem dX4_addRightToWork_42 : decode cX4_addRightToWork 42 = .ok (.return_, 1) := by decide +kernel
set_option maxRecDepth 20000 in
theorem ggX4_answerMeetsRight_X1_apply : GoodIn wsX4_answerMeetsRight wsX1_apply := goodIn_r _ [14, 15, 16, 17, 18, 19, 20, 21, 22, 5, 6, 7, 23, 24, 25, 26, 27, 28, 29, 30, 31, 32, 46, 47, 48, 49, 50, 51, 52, 53] (by decide +kernel) (by decide +kernel)
set_option maxRecDepth 20000 in
theorem gX4_answerMeetsRight_X1_apply : GoodIn wsX4_answerMeetsRight (wsV RX4 156 RX1 yX1_apply wsX1_apply) := goodIn_app (goodIn_of _ (by decide +kernel)) ggX4_answerMeetsRight_X1_apply
theorem dX4_answerMeetsRight_0 : decode cX4_answerMeetsRight 0 = .ok (.aload_n 0, 1) := by decide +kernel
theorem dX4_answerMeetsRight_1 : decode cX4_answerMeetsRight 1 = .ok (.getfield 69, 3) := by decide +kernel
theorem dX4_answerMeetsRight_4 : decode cX4_answerMeetsRight 4 = .ok (.iconst 0, 1) := by decide +kernel
theorem dX4_answerMeetsRight_5 : decode cX4_answerMeetsRight 5 = .ok (.aload_n 0, 1) := by decide +kernel
theorem dX4_answerMeetsRight_6 : decode cX4_answerMeetsRight 6 = .ok (.getfield 63, 3) := by decide +kernel
theorem dX4_answerMeetsRight_9 : decode cX4_answerMeetsRight 9 = .ok (.iconst 0, 1) := by decide +kernel
theorem dX4_answerMeetsRight_10 : decode cX4_answerMeetsRight 10 = .ok (.aload_n 0, 1) := by decide +kernel
theorem dX4_answerMeetsRight_11 : decode cX4_answerMeetsRight 11 = .ok (.getfield 13, 3) := by decide +kernel
theorem dX4_answerMeetsRight_14 : decode cX4_answerMeetsRight 14 = .ok (.invokestatic 147, 3) := by decide +kernel
theorem dX4_answerMeetsRight_17 : decode cX4_answerMeetsRight 17 = .ok (.aload_n 0, 1) := by decide +kernel
theorem dX4_answerMeetsRight_18 : decode cX4_answerMeetsRight 18 = .ok (.getfield 36, 3) := by decide +kernel
theorem dX4_answerMeetsRight_21 : decode cX4_answerMeetsRight 21 = .ok (.aload_n 0, 1) := by decide +kernel
theorem dX4_answerMeetsRight_22 : decode cX4_answerMeetsRight 22 = .ok (.getfield 63, 3) := by decide +kernel
theorem dX4_answerMeetsRight_25 : decode cX4_answerMeetsRight 25 = .ok (.invokevirtual 156, 3) := by decide +kernel
theorem dX4_answerMeetsRight_28 : decode cX4_answerMeetsRight 28 = .ok (.iconst 0, 1) := by decide +kernel
theorem dX4_answerMeetsRight_29 : decode cX4_answerMeetsRight 29 = .ok (.istore_n 1, 1) := by decide +kernel
theorem dX4_answerMeetsRight_30 : decode cX4_answerMeetsRight 30 = .ok (.iload_n 1, 1) := by decide +kernel
theorem dX4_answerMeetsRight_31 : decode cX4_answerMeetsRight 31 = .ok (.aload_n 0, 1) := by decide +kernel
theorem dX4_answerMeetsRight_32 : decode cX4_answerMeetsRight 32 = .ok (.getfield 13, 3) := by decide +kernel
theorem dX4_answerMeetsRight_35 : decode cX4_answerMeetsRight 35 = .ok (.if_icmp .ge 26, 3) := by decide +kernel
theorem dX4_answerMeetsRight_38 : decode cX4_answerMeetsRight 38 = .ok (.aload_n 0, 1) := by decide +kernel
theorem dX4_answerMeetsRight_39 : decode cX4_answerMeetsRight 39 = .ok (.getfield 63, 3) := by decide +kernel
theorem dX4_answerMeetsRight_42 : decode cX4_answerMeetsRight 42 = .ok (.iload_n 1, 1) := by decide +kernel
theorem dX4_answerMeetsRight_43 : decode cX4_answerMeetsRight 43 = .ok (.iaload, 1) := by decide +kernel
theorem dX4_answerMeetsRight_44 : decode cX4_answerMeetsRight 44 = .ok (.aload_n 0, 1) := by decide +kernel
theorem dX4_answerMeetsRight_45 : decode cX4_answerMeetsRight 45 = .ok (.getfield 56, 3) := by decide +kernel
theorem dX4_answerMeetsRight_48 : decode cX4_answerMeetsRight 48 = .ok (.iload_n 1, 1) := by decide +kernel
theorem dX4_answerMeetsRight_49 : decode cX4_answerMeetsRight 49 = .ok (.iaload, 1) := by decide +kernel
theorem dX4_answerMeetsRight_50 : decode cX4_answerMeetsRight 50 = .ok (.if_icmp .eq 5, 3) := by decide +kernel
theorem dX4_answerMeetsRight_53 : decode cX4_answerMeetsRight 53 = .ok (.iconst 0, 1) := by decide +kernel
theorem dX4_answerMeetsRight_54 : decode cX4_answerMeetsRight 54 = .ok (.ireturn, 1) := by decide +kernel
theorem dX4_answerMeetsRight_55 : decode cX4_answerMeetsRight 55 = .ok (.iinc 1 1, 3) := by decide +kernel
theorem dX4_answerMeetsRight_58 : decode cX4_answerMeetsRight 58 = .ok (.goto (-28), 3) := by decide +kernel
theorem dX4_answerMeetsRight_61 : decode cX4_answerMeetsRight 61 = .ok (.iconst 1, 1) := by decide +kernel
theorem dX4_answerMeetsRight_62 : decode cX4_answerMeetsRight 62 = .ok (.ireturn, 1) := by decide +kernel
theorem dX4_broughtWithin_0 : decode cX4_broughtWithin 0 = .ok (.iload_n 1, 1) := by decide +kernel
theorem dX4_broughtWithin_1 : decode cX4_broughtWithin 1 = .ok (.iload_n 2, 1) := by decide +kernel
theorem dX4_broughtWithin_2 : decode cX4_broughtWithin 2 = .ok (.iload_n 0, 1) := by decide +kernel
theorem dX4_broughtWithin_3 : decode cX4_broughtWithin 3 = .ok (.invokestatic 177, 3) := by decide +kernel
theorem dX4_broughtWithin_6 : decode cX4_broughtWithin 6 = .ok (.invokestatic 183, 3) := by decide +kernel
theorem dX4_broughtWithin_9 : decode cX4_broughtWithin 9 = .ok (.ireturn, 1) := by decide +kernel
set_option maxRecDepth 20000 in
theorem ggX4_leastPrimeFrom_X4_isPrime : GoodIn wsX4_leastPrimeFrom wsX4_isPrime := goodIn_r _ [5] (by decide +kernel) (by decide +kernel)
set_option maxRecDepth 20000 in
theorem gX4_leastPrimeFrom_X4_isPrime : GoodIn wsX4_leastPrimeFrom (va_wsS RX4 186 yX4_isPrime wsX4_isPrime) := goodIn_app (goodIn_of _ (by decide +kernel)) ggX4_leastPrimeFrom_X4_isPrime
theorem dX4_leastPrimeFrom_0 : decode cX4_leastPrimeFrom 0 = .ok (.iload_n 0, 1) := by decide +kernel
theorem dX4_leastPrimeFrom_1 : decode cX4_leastPrimeFrom 1 = .ok (.istore_n 1, 1) := by decide +kernel
theorem dX4_leastPrimeFrom_2 : decode cX4_leastPrimeFrom 2 = .ok (.iload_n 1, 1) := by decide +kernel
theorem dX4_leastPrimeFrom_3 : decode cX4_leastPrimeFrom 3 = .ok (.ldc 19, 2) := by decide +kernel
theorem dX4_leastPrimeFrom_5 : decode cX4_leastPrimeFrom 5 = .ok (.if_icmp .ge 18, 3) := by decide +kernel
theorem dX4_leastPrimeFrom_8 : decode cX4_leastPrimeFrom 8 = .ok (.iload_n 1, 1) := by decide +kernel
theorem dX4_leastPrimeFrom_9 : decode cX4_leastPrimeFrom 9 = .ok (.invokestatic 186, 3) := by decide +kernel
theorem dX4_leastPrimeFrom_12 : decode cX4_leastPrimeFrom 12 = .ok (.ifCond .eq 5, 3) := by decide +kernel
theorem dX4_leastPrimeFrom_15 : decode cX4_leastPrimeFrom 15 = .ok (.iload_n 1, 1) := by decide +kernel
theorem dX4_leastPrimeFrom_16 : decode cX4_leastPrimeFrom 16 = .ok (.ireturn, 1) := by decide +kernel
theorem dX4_leastPrimeFrom_17 : decode cX4_leastPrimeFrom 17 = .ok (.iinc 1 1, 3) := by decide +kernel
theorem dX4_leastPrimeFrom_20 : decode cX4_leastPrimeFrom 20 = .ok (.goto (-18), 3) := by decide +kernel
theorem dX4_leastPrimeFrom_23 : decode cX4_leastPrimeFrom 23 = .ok (.ldc 19, 2) := by decide +kernel
theorem dX4_leastPrimeFrom_25 : decode cX4_leastPrimeFrom 25 = .ok (.ireturn, 1) := by decide +kernel
theorem dX4_isPrime_0 : decode cX4_isPrime 0 = .ok (.iconst 2, 1) := by decide +kernel
theorem dX4_isPrime_1 : decode cX4_isPrime 1 = .ok (.istore_n 1, 1) := by decide +kernel
theorem dX4_isPrime_2 : decode cX4_isPrime 2 = .ok (.iload_n 1, 1) := by decide +kernel
theorem dX4_isPrime_3 : decode cX4_isPrime 3 = .ok (.iload_n 1, 1) := by decide +kernel
theorem dX4_isPrime_4 : decode cX4_isPrime 4 = .ok (.imul, 1) := by decide +kernel
theorem dX4_isPrime_5 : decode cX4_isPrime 5 = .ok (.iload_n 0, 1) := by decide +kernel
theorem dX4_isPrime_6 : decode cX4_isPrime 6 = .ok (.if_icmp .gt 17, 3) := by decide +kernel
theorem dX4_isPrime_9 : decode cX4_isPrime 9 = .ok (.iload_n 0, 1) := by decide +kernel
theorem dX4_isPrime_10 : decode cX4_isPrime 10 = .ok (.iload_n 1, 1) := by decide +kernel
theorem dX4_isPrime_11 : decode cX4_isPrime 11 = .ok (.irem, 1) := by decide +kernel
theorem dX4_isPrime_12 : decode cX4_isPrime 12 = .ok (.ifCond .ne 5, 3) := by decide +kernel
theorem dX4_isPrime_15 : decode cX4_isPrime 15 = .ok (.iconst 0, 1) := by decide +kernel
theorem dX4_isPrime_16 : decode cX4_isPrime 16 = .ok (.ireturn, 1) := by decide +kernel
theorem dX4_isPrime_17 : decode cX4_isPrime 17 = .ok (.iinc 1 1, 3) := by decide +kernel
theorem dX4_isPrime_20 : decode cX4_isPrime 20 = .ok (.goto (-18), 3) := by decide +kernel
theorem dX4_isPrime_23 : decode cX4_isPrime 23 = .ok (.iload_n 0, 1) := by decide +kernel
theorem dX4_isPrime_24 : decode cX4_isPrime 24 = .ok (.iconst 1, 1) := by decide +kernel
theorem dX4_isPrime_25 : decode cX4_isPrime 25 = .ok (.if_icmp .le 7, 3) := by decide +kernel
theorem dX4_isPrime_28 : decode cX4_isPrime 28 = .ok (.iconst 1, 1) := by decide +kernel
theorem dX4_isPrime_29 : decode cX4_isPrime 29 = .ok (.goto 4, 3) := by decide +kernel
theorem dX4_isPrime_32 : decode cX4_isPrime 32 = .ok (.iconst 0, 1) := by decide +kernel
theorem dX4_isPrime_33 : decode cX4_isPrime 33 = .ok (.ireturn, 1) := by decide +kernel
set_option maxRecDepth 20000 in
theorem ggX5_init_X5_isPrime : GoodIn wsX5_init wsX5_isPrime := goodIn_r _ [27] (by decide +kernel) (by decide +kernel)
set_option maxRecDepth 20000 in
theorem gX5_init_X5_isPrime : GoodIn wsX5_init (va_wsS RX5 56 yX5_isPrime wsX5_isPrime) := goodIn_app (goodIn_of _ (by decide +kernel)) ggX5_init_X5_isPrime
theorem dX5_init_0 : decode cX5_init 0 = .ok (.aload_n 0, 1) := by decide +kernel
theorem dX5_init_1 : decode cX5_init 1 = .ok (.invokespecial 1, 3) := by decide +kernel
theorem dX5_init_4 : decode cX5_init 4 = .ok (.aload_n 0, 1) := by decide +kernel
theorem dX5_init_5 : decode cX5_init 5 = .ok (.bipush 100, 2) := by decide +kernel
theorem dX5_init_7 : decode cX5_init 7 = .ok (.newarray .int, 2) := by decide +kernel
theorem dX5_init_9 : decode cX5_init 9 = .ok (.putfield 7, 3) := by decide +kernel
theorem dX5_init_12 : decode cX5_init 12 = .ok (.aload_n 0, 1) := by decide +kernel
theorem dX5_init_13 : decode cX5_init 13 = .ok (.bipush 100, 2) := by decide +kernel
theorem dX5_init_15 : decode cX5_init 15 = .ok (.newarray .int, 2) := by decide +kernel
theorem dX5_init_17 : decode cX5_init 17 = .ok (.putfield 13, 3) := by decide +kernel
theorem dX5_init_20 : decode cX5_init 20 = .ok (.aload_n 0, 1) := by decide +kernel
theorem dX5_init_21 : decode cX5_init 21 = .ok (.bipush 100, 2) := by decide +kernel
theorem dX5_init_23 : decode cX5_init 23 = .ok (.newarray .long, 2) := by decide +kernel
theorem dX5_init_25 : decode cX5_init 25 = .ok (.putfield 16, 3) := by decide +kernel
theorem dX5_init_28 : decode cX5_init 28 = .ok (.aload_n 0, 1) := by decide +kernel
theorem dX5_init_29 : decode cX5_init 29 = .ok (.bipush 16, 2) := by decide +kernel
theorem dX5_init_31 : decode cX5_init 31 = .ok (.newarray .long, 2) := by decide +kernel
theorem dX5_init_33 : decode cX5_init 33 = .ok (.putfield 20, 3) := by decide +kernel
theorem dX5_init_36 : decode cX5_init 36 = .ok (.aload_n 0, 1) := by decide +kernel
theorem dX5_init_37 : decode cX5_init 37 = .ok (.lconst 1, 1) := by decide +kernel
theorem dX5_init_38 : decode cX5_init 38 = .ok (.putfield 23, 3) := by decide +kernel
theorem dX5_init_41 : decode cX5_init 41 = .ok (.aload_n 0, 1) := by decide +kernel
theorem dX5_init_42 : decode cX5_init 42 = .ok (.bipush 16, 2) := by decide +kernel
theorem dX5_init_44 : decode cX5_init 44 = .ok (.newarray .long, 2) := by decide +kernel
theorem dX5_init_46 : decode cX5_init 46 = .ok (.putfield 27, 3) := by decide +kernel
theorem dX5_init_49 : decode cX5_init 49 = .ok (.aload_n 0, 1) := by decide +kernel
theorem dX5_init_50 : decode cX5_init 50 = .ok (.bipush 16, 2) := by decide +kernel
theorem dX5_init_52 : decode cX5_init 52 = .ok (.newarray .long, 2) := by decide +kernel
theorem dX5_init_54 : decode cX5_init 54 = .ok (.putfield 30, 3) := by decide +kernel
theorem dX5_init_57 : decode cX5_init 57 = .ok (.aload_n 0, 1) := by decide +kernel
theorem dX5_init_58 : decode cX5_init 58 = .ok (.bipush 16, 2) := by decide +kernel
theorem dX5_init_60 : decode cX5_init 60 = .ok (.newarray .long, 2) := by decide +kernel
theorem dX5_init_62 : decode cX5_init 62 = .ok (.putfield 33, 3) := by decide +kernel
theorem dX5_init_65 : decode cX5_init 65 = .ok (.aload_n 0, 1) := by decide +kernel
theorem dX5_init_66 : decode cX5_init 66 = .ok (.bipush 32, 2) := by decide +kernel
theorem dX5_init_68 : decode cX5_init 68 = .ok (.newarray .long, 2) := by decide +kernel
theorem dX5_init_70 : decode cX5_init 70 = .ok (.putfield 36, 3) := by decide +kernel
theorem dX5_init_73 : decode cX5_init 73 = .ok (.aload_n 0, 1) := by decide +kernel
theorem dX5_init_74 : decode cX5_init 74 = .ok (.bipush 100, 2) := by decide +kernel
theorem dX5_init_76 : decode cX5_init 76 = .ok (.newarray .long, 2) := by decide +kernel
theorem dX5_init_78 : decode cX5_init 78 = .ok (.putfield 39, 3) := by decide +kernel
theorem dX5_init_81 : decode cX5_init 81 = .ok (.aload_n 0, 1) := by decide +kernel
theorem dX5_init_82 : decode cX5_init 82 = .ok (.bipush 100, 2) := by decide +kernel
theorem dX5_init_84 : decode cX5_init 84 = .ok (.newarray .long, 2) := by decide +kernel
theorem dX5_init_86 : decode cX5_init 86 = .ok (.putfield 42, 3) := by decide +kernel
theorem dX5_init_89 : decode cX5_init 89 = .ok (.aload_n 0, 1) := by decide +kernel
theorem dX5_init_90 : decode cX5_init 90 = .ok (.bipush 100, 2) := by decide +kernel
theorem dX5_init_92 : decode cX5_init 92 = .ok (.newarray .long, 2) := by decide +kernel
theorem dX5_init_94 : decode cX5_init 94 = .ok (.putfield 45, 3) := by decide +kernel
theorem dX5_init_97 : decode cX5_init 97 = .ok (.aload_n 0, 1) := by decide +kernel
theorem dX5_init_98 : decode cX5_init 98 = .ok (.iconst (-1), 1) := by decide +kernel
theorem dX5_init_99 : decode cX5_init 99 = .ok (.putfield 48, 3) := by decide +kernel
theorem dX5_init_102 : decode cX5_init 102 = .ok (.aload_n 0, 1) := by decide +kernel
theorem dX5_init_103 : decode cX5_init 103 = .ok (.bipush 16, 2) := by decide +kernel
theorem dX5_init_105 : decode cX5_init 105 = .ok (.newarray .long, 2) := by decide +kernel
theorem dX5_init_107 : decode cX5_init 107 = .ok (.putfield 52, 3) := by decide +kernel
theorem dX5_init_110 : decode cX5_init 110 = .ok (.iload_n 1, 1) := by decide +kernel
theorem dX5_init_111 : decode cX5_init 111 = .ok (.iconst 2, 1) := by decide +kernel
theorem dX5_init_112 : decode cX5_init 112 = .ok (.if_icmp .ge 7, 3) := by decide +kernel
theorem dX5_init_115 : decode cX5_init 115 = .ok (.iconst 2, 1) := by decide +kernel
theorem dX5_init_116 : decode cX5_init 116 = .ok (.goto 15, 3) := by decide +kernel
theorem dX5_init_119 : decode cX5_init 119 = .ok (.iload_n 1, 1) := by decide +kernel
theorem dX5_init_120 : decode cX5_init 120 = .ok (.ldc 55, 2) := by decide +kernel
theorem dX5_init_122 : decode cX5_init 122 = .ok (.if_icmp .le 8, 3) := by decide +kernel
theorem dX5_init_125 : decode cX5_init 125 = .ok (.ldc 55, 2) := by decide +kernel
theorem dX5_init_127 : decode cX5_init 127 = .ok (.goto 4, 3) := by decide +kernel
theorem dX5_init_130 : decode cX5_init 130 = .ok (.iload_n 1, 1) := by decide +kernel
theorem dX5_init_131 : decode cX5_init 131 = .ok (.istore 4, 2) := by decide +kernel
theorem dX5_init_133 : decode cX5_init 133 = .ok (.iload 4, 2) := by decide +kernel
theorem dX5_init_135 : decode cX5_init 135 = .ok (.invokestatic 56, 3) := by decide +kernel
theorem dX5_init_138 : decode cX5_init 138 = .ok (.ifCond .ne 9, 3) := by decide +kernel
theorem dX5_init_141 : decode cX5_init 141 = .ok (.iinc 4 1, 3) := by decide +kernel
theorem dX5_init_144 : decode cX5_init 144 = .ok (.goto (-11), 3) := by decide +kernel
theorem dX5_init_147 : decode cX5_init 147 = .ok (.aload_n 0, 1) := by decide +kernel
theorem dX5_init_148 : decode cX5_init 148 = .ok (.iload 4, 2) := by decide +kernel
theorem dX5_init_150 : decode cX5_init 150 = .ok (.putfield 60, 3) := by decide +kernel
theorem dX5_init_153 : decode cX5_init 153 = .ok (.aload_n 0, 1) := by decide +kernel
theorem dX5_init_154 : decode cX5_init 154 = .ok (.iload_n 2, 1) := by decide +kernel
theorem dX5_init_155 : decode cX5_init 155 = .ok (.iconst 1, 1) := by decide +kernel
theorem dX5_init_156 : decode cX5_init 156 = .ok (.if_icmp .ge 7, 3) := by decide +kernel
theorem dX5_init_159 : decode cX5_init 159 = .ok (.iconst 1, 1) := by decide +kernel
theorem dX5_init_160 : decode cX5_init 160 = .ok (.goto 15, 3) := by decide +kernel
theorem dX5_init_163 : decode cX5_init 163 = .ok (.iload_n 2, 1) := by decide +kernel
theorem dX5_init_164 : decode cX5_init 164 = .ok (.bipush 16, 2) := by decide +kernel
theorem dX5_init_166 : decode cX5_init 166 = .ok (.if_icmp .le 8, 3) := by decide +kernel
theorem dX5_init_169 : decode cX5_init 169 = .ok (.bipush 16, 2) := by decide +kernel
theorem dX5_init_171 : decode cX5_init 171 = .ok (.goto 4, 3) := by decide +kernel
theorem dX5_init_174 : decode cX5_init 174 = .ok (.iload_n 2, 1) := by decide +kernel
theorem dX5_init_175 : decode cX5_init 175 = .ok (.putfield 63, 3) := by decide +kernel
theorem dX5_init_178 : decode cX5_init 178 = .ok (.aload_n 0, 1) := by decide +kernel
theorem dX5_init_179 : decode cX5_init 179 = .ok (.iload_n 3, 1) := by decide +kernel
theorem dX5_init_180 : decode cX5_init 180 = .ok (.iconst 1, 1) := by decide +kernel
theorem dX5_init_181 : decode cX5_init 181 = .ok (.if_icmp .ge 7, 3) := by decide +kernel
theorem dX5_init_184 : decode cX5_init 184 = .ok (.iconst 1, 1) := by decide +kernel
theorem dX5_init_185 : decode cX5_init 185 = .ok (.goto 15, 3) := by decide +kernel
theorem dX5_init_188 : decode cX5_init 188 = .ok (.iload_n 3, 1) := by decide +kernel
theorem dX5_init_189 : decode cX5_init 189 = .ok (.bipush 100, 2) := by decide +kernel
theorem dX5_init_191 : decode cX5_init 191 = .ok (.if_icmp .le 8, 3) := by decide +kernel
theorem dX5_init_194 : decode cX5_init 194 = .ok (.bipush 100, 2) := by decide +kernel
theorem dX5_init_196 : decode cX5_init 196 = .ok (.goto 4, 3) := by decide +kernel
theorem dX5_init_199 : decode cX5_init 199 = .ok (.iload_n 3, 1) := by decide +kernel
theorem dX5_init_200 : decode cX5_init 200 = .ok (.putfield 66, 3) := by decide +kernel
theorem dX5_init_203 : decode cX5_init 203 = .ok (.return_, 1) := by decide +kernel
theorem dX5_isPrime_0 : decode cX5_isPrime 0 = .ok (.iconst 1, 1) := by decide +kernel
theorem dX5_isPrime_1 : decode cX5_isPrime 1 = .ok (.istore_n 1, 1) := by decide +kernel
theorem dX5_isPrime_2 : decode cX5_isPrime 2 = .ok (.iconst 2, 1) := by decide +kernel
theorem dX5_isPrime_3 : decode cX5_isPrime 3 = .ok (.istore_n 2, 1) := by decide +kernel
theorem dX5_isPrime_4 : decode cX5_isPrime 4 = .ok (.iload_n 2, 1) := by decide +kernel
theorem dX5_isPrime_5 : decode cX5_isPrime 5 = .ok (.iload_n 2, 1) := by decide +kernel
theorem dX5_isPrime_6 : decode cX5_isPrime 6 = .ok (.imul, 1) := by decide +kernel
theorem dX5_isPrime_7 : decode cX5_isPrime 7 = .ok (.iload_n 0, 1) := by decide +kernel
theorem dX5_isPrime_8 : decode cX5_isPrime 8 = .ok (.if_icmp .gt 25, 3) := by decide +kernel
theorem dX5_isPrime_11 : decode cX5_isPrime 11 = .ok (.iload_n 1, 1) := by decide +kernel
theorem dX5_isPrime_12 : decode cX5_isPrime 12 = .ok (.ifCond .eq 21, 3) := by decide +kernel
theorem dX5_isPrime_15 : decode cX5_isPrime 15 = .ok (.iload_n 0, 1) := by decide +kernel
theorem dX5_isPrime_16 : decode cX5_isPrime 16 = .ok (.iload_n 2, 1) := by decide +kernel
theorem dX5_isPrime_17 : decode cX5_isPrime 17 = .ok (.irem, 1) := by decide +kernel
theorem dX5_isPrime_18 : decode cX5_isPrime 18 = .ok (.ifCond .eq 7, 3) := by decide +kernel
theorem dX5_isPrime_21 : decode cX5_isPrime 21 = .ok (.iconst 1, 1) := by decide +kernel
theorem dX5_isPrime_22 : decode cX5_isPrime 22 = .ok (.goto 4, 3) := by decide +kernel
theorem dX5_isPrime_25 : decode cX5_isPrime 25 = .ok (.iconst 0, 1) := by decide +kernel
theorem dX5_isPrime_26 : decode cX5_isPrime 26 = .ok (.istore_n 1, 1) := by decide +kernel
theorem dX5_isPrime_27 : decode cX5_isPrime 27 = .ok (.iinc 2 1, 3) := by decide +kernel
theorem dX5_isPrime_30 : decode cX5_isPrime 30 = .ok (.goto (-26), 3) := by decide +kernel
theorem dX5_isPrime_33 : decode cX5_isPrime 33 = .ok (.iload_n 1, 1) := by decide +kernel
theorem dX5_isPrime_34 : decode cX5_isPrime 34 = .ok (.ireturn, 1) := by decide +kernel
theorem dX5_within_0 : decode cX5_within 0 = .ok (.lload_n 1, 1) := by decide +kernel
theorem dX5_within_1 : decode cX5_within 1 = .ok (.aload_n 0, 1) := by decide +kernel
theorem dX5_within_2 : decode cX5_within 2 = .ok (.getfield 60, 3) := by decide +kernel
theorem dX5_within_5 : decode cX5_within 5 = .ok (.i2l, 1) := by decide +kernel
theorem dX5_within_6 : decode cX5_within 6 = .ok (.lrem, 1) := by decide +kernel
theorem dX5_within_7 : decode cX5_within 7 = .ok (.lstore_n 3, 1) := by decide +kernel
theorem dX5_within_8 : decode cX5_within 8 = .ok (.lload_n 3, 1) := by decide +kernel
theorem dX5_within_9 : decode cX5_within 9 = .ok (.lconst 0, 1) := by decide +kernel
theorem dX5_within_10 : decode cX5_within 10 = .ok (.lcmp, 1) := by decide +kernel
theorem dX5_within_11 : decode cX5_within 11 = .ok (.ifCond .ge 13, 3) := by decide +kernel
theorem dX5_within_14 : decode cX5_within 14 = .ok (.lload_n 3, 1) := by decide +kernel
theorem dX5_within_15 : decode cX5_within 15 = .ok (.aload_n 0, 1) := by decide +kernel
theorem dX5_within_16 : decode cX5_within 16 = .ok (.getfield 60, 3) := by decide +kernel
theorem dX5_within_19 : decode cX5_within 19 = .ok (.i2l, 1) := by decide +kernel
theorem dX5_within_20 : decode cX5_within 20 = .ok (.ladd, 1) := by decide +kernel
theorem dX5_within_21 : decode cX5_within 21 = .ok (.goto 4, 3) := by decide +kernel
theorem dX5_within_24 : decode cX5_within 24 = .ok (.lload_n 3, 1) := by decide +kernel
theorem dX5_within_25 : decode cX5_within 25 = .ok (.lreturn, 1) := by decide +kernel
theorem dX5_forget_0 : decode cX5_forget 0 = .ok (.aload_n 0, 1) := by decide +kernel
theorem dX5_forget_1 : decode cX5_forget 1 = .ok (.iconst 0, 1) := by decide +kernel
theorem dX5_forget_2 : decode cX5_forget 2 = .ok (.putfield 69, 3) := by decide +kernel
theorem dX5_forget_5 : decode cX5_forget 5 = .ok (.aload_n 0, 1) := by decide +kernel
theorem dX5_forget_6 : decode cX5_forget 6 = .ok (.iconst 0, 1) := by decide +kernel
theorem dX5_forget_7 : decode cX5_forget 7 = .ok (.putfield 73, 3) := by decide +kernel
theorem dX5_forget_10 : decode cX5_forget 10 = .ok (.aload_n 0, 1) := by decide +kernel
theorem dX5_forget_11 : decode cX5_forget 11 = .ok (.iconst (-1), 1) := by decide +kernel
theorem dX5_forget_12 : decode cX5_forget 12 = .ok (.putfield 48, 3) := by decide +kernel
theorem dX5_forget_15 : decode cX5_forget 15 = .ok (.return_, 1) := by decide +kernel
set_option maxRecDepth 20000 in
theorem ggX5_entry_X5_within : GoodIn wsX5_entry wsX5_within := goodIn_r _ [11, 12, 20, 21, 22, 23, 24, 25, 26, 27, 28, 29, 30, 31, 32, 33, 34, 35, 36, 37, 38, 39, 40, 41] (by decide +kernel) (by decide +kernel)
set_option maxRecDepth 20000 in
theorem gX5_entry_X5_within : GoodIn wsX5_entry (wsV RX5 79 RX5 yX5_within wsX5_within) := goodIn_app (goodIn_of _ (by decide +kernel)) ggX5_entry_X5_within
set_option maxRecDepth 20000 in
theorem ggX5_entry_X5_forget : GoodIn wsX5_entry wsX5_forget := goodIn_r _ [16, 17, 18, 19, 20, 21, 22, 23, 24, 25, 26, 27, 28, 29, 30, 31, 32, 33, 34, 35, 36, 37, 38, 39, 40, 41] (by decide +kernel) (by decide +kernel)
set_option maxRecDepth 20000 in
theorem gX5_entry_X5_forget : GoodIn wsX5_entry (wsV RX5 83 RX5 yX5_forget wsX5_forget) := goodIn_app (goodIn_of _ (by decide +kernel)) ggX5_entry_X5_forget
theorem dX5_entry_0 : decode cX5_entry 0 = .ok (.iload_n 1, 1) := by decide +kernel
theorem dX5_entry_1 : decode cX5_entry 1 = .ok (.ifCond .lt 23, 3) := by decide +kernel
theorem dX5_entry_4 : decode cX5_entry 4 = .ok (.iload_n 1, 1) := by decide +kernel
theorem dX5_entry_5 : decode cX5_entry 5 = .ok (.aload_n 0, 1) := by decide +kernel
theorem dX5_entry_6 : decode cX5_entry 6 = .ok (.getfield 63, 3) := by decide +kernel
theorem dX5_entry_9 : decode cX5_entry 9 = .ok (.if_icmp .ge 15, 3) := by decide +kernel
theorem dX5_entry_12 : decode cX5_entry 12 = .ok (.iload_n 2, 1) := by decide +kernel
theorem dX5_entry_13 : decode cX5_entry 13 = .ok (.ifCond .lt 11, 3) := by decide +kernel
theorem dX5_entry_16 : decode cX5_entry 16 = .ok (.iload_n 2, 1) := by decide +kernel
theorem dX5_entry_17 : decode cX5_entry 17 = .ok (.aload_n 0, 1) := by decide +kernel
theorem dX5_entry_18 : decode cX5_entry 18 = .ok (.getfield 63, 3) := by decide +kernel
theorem dX5_entry_21 : decode cX5_entry 21 = .ok (.if_icmp .lt 5, 3) := by decide +kernel
theorem dX5_entry_24 : decode cX5_entry 24 = .ok (.iconst 1, 1) := by decide +kernel
theorem dX5_entry_25 : decode cX5_entry 25 = .ok (.ireturn, 1) := by decide +kernel
theorem dX5_entry_26 : decode cX5_entry 26 = .ok (.aload_n 0, 1) := by decide +kernel
theorem dX5_entry_27 : decode cX5_entry 27 = .ok (.getfield 76, 3) := by decide +kernel
theorem dX5_entry_30 : decode cX5_entry 30 = .ok (.aload_n 0, 1) := by decide +kernel
theorem dX5_entry_31 : decode cX5_entry 31 = .ok (.getfield 66, 3) := by decide +kernel
theorem dX5_entry_34 : decode cX5_entry 34 = .ok (.if_icmp .ne 5, 3) := by decide +kernel
theorem dX5_entry_37 : decode cX5_entry 37 = .ok (.iconst 2, 1) := by decide +kernel
theorem dX5_entry_38 : decode cX5_entry 38 = .ok (.ireturn, 1) := by decide +kernel
theorem dX5_entry_39 : decode cX5_entry 39 = .ok (.aload_n 0, 1) := by decide +kernel
theorem dX5_entry_40 : decode cX5_entry 40 = .ok (.getfield 7, 3) := by decide +kernel
theorem dX5_entry_43 : decode cX5_entry 43 = .ok (.aload_n 0, 1) := by decide +kernel
theorem dX5_entry_44 : decode cX5_entry 44 = .ok (.getfield 76, 3) := by decide +kernel
theorem dX5_entry_47 : decode cX5_entry 47 = .ok (.iload_n 1, 1) := by decide +kernel
theorem dX5_entry_48 : decode cX5_entry 48 = .ok (.iastore, 1) := by decide +kernel
theorem dX5_entry_49 : decode cX5_entry 49 = .ok (.aload_n 0, 1) := by decide +kernel
theorem dX5_entry_50 : decode cX5_entry 50 = .ok (.getfield 13, 3) := by decide +kernel
theorem dX5_entry_53 : decode cX5_entry 53 = .ok (.aload_n 0, 1) := by decide +kernel
theorem dX5_entry_54 : decode cX5_entry 54 = .ok (.getfield 76, 3) := by decide +kernel
theorem dX5_entry_57 : decode cX5_entry 57 = .ok (.iload_n 2, 1) := by decide +kernel
theorem dX5_entry_58 : decode cX5_entry 58 = .ok (.iastore, 1) := by decide +kernel
theorem dX5_entry_59 : decode cX5_entry 59 = .ok (.aload_n 0, 1) := by decide +kernel
theorem dX5_entry_60 : decode cX5_entry 60 = .ok (.getfield 16, 3) := by decide +kernel
theorem dX5_entry_63 : decode cX5_entry 63 = .ok (.aload_n 0, 1) := by decide +kernel
theorem dX5_entry_64 : decode cX5_entry 64 = .ok (.getfield 76, 3) := by decide +kernel
theorem dX5_entry_67 : decode cX5_entry 67 = .ok (.aload_n 0, 1) := by decide +kernel
theorem dX5_entry_68 : decode cX5_entry 68 = .ok (.iload_n 3, 1) := by decide +kernel
theorem dX5_entry_69 : decode cX5_entry 69 = .ok (.i2l, 1) := by decide +kernel
theorem dX5_entry_70 : decode cX5_entry 70 = .ok (.invokevirtual 79, 3) := by decide +kernel
theorem dX5_entry_73 : decode cX5_entry 73 = .ok (.lastore, 1) := by decide +kernel
theorem dX5_entry_74 : decode cX5_entry 74 = .ok (.aload_n 0, 1) := by decide +kernel
theorem dX5_entry_75 : decode cX5_entry 75 = .ok (.dup, 1) := by decide +kernel
theorem dX5_entry_76 : decode cX5_entry 76 = .ok (.getfield 76, 3) := by decide +kernel
theorem dX5_entry_79 : decode cX5_entry 79 = .ok (.iconst 1, 1) := by decide +kernel
theorem dX5_entry_80 : decode cX5_entry 80 = .ok (.iadd, 1) := by decide +kernel
theorem dX5_entry_81 : decode cX5_entry 81 = .ok (.putfield 76, 3) := by decide +kernel
theorem dX5_entry_84 : decode cX5_entry 84 = .ok (.aload_n 0, 1) := by decide +kernel
theorem dX5_entry_85 : decode cX5_entry 85 = .ok (.invokevirtual 83, 3) := by decide +kernel
theorem dX5_entry_88 : decode cX5_entry 88 = .ok (.iconst 0, 1) := by decide +kernel
theorem dX5_entry_89 : decode cX5_entry 89 = .ok (.ireturn, 1) := by decide +kernel
set_option maxRecDepth 20000 in
theorem ggX5_side_X5_within : GoodIn wsX5_side wsX5_within := goodIn_r _ [7, 8, 16, 17, 18, 19, 20, 21, 22, 23, 24, 25, 26, 27, 28, 29, 30, 31, 32, 33, 34, 35, 36, 37] (by decide +kernel) (by decide +kernel)
set_option maxRecDepth 20000 in
theorem gX5_side_X5_within : GoodIn wsX5_side (wsV RX5 79 RX5 yX5_within wsX5_within) := goodIn_app (goodIn_of _ (by decide +kernel)) ggX5_side_X5_within
set_option maxRecDepth 20000 in
theorem ggX5_side_X5_forget : GoodIn wsX5_side wsX5_forget := goodIn_r _ [12, 13, 14, 15, 16, 17, 18, 19, 20, 21, 22, 23, 24, 25, 26, 27, 28, 29, 30, 31, 32, 33, 34, 35, 36, 37] (by decide +kernel) (by decide +kernel)
set_option maxRecDepth 20000 in
theorem gX5_side_X5_forget : GoodIn wsX5_side (wsV RX5 83 RX5 yX5_forget wsX5_forget) := goodIn_app (goodIn_of _ (by decide +kernel)) ggX5_side_X5_forget
theorem dX5_side_0 : decode cX5_side 0 = .ok (.iload_n 1, 1) := by decide +kernel
theorem dX5_side_1 : decode cX5_side 1 = .ok (.ifCond .lt 11, 3) := by decide +kernel
theorem dX5_side_4 : decode cX5_side 4 = .ok (.iload_n 1, 1) := by decide +kernel
theorem dX5_side_5 : decode cX5_side 5 = .ok (.aload_n 0, 1) := by decide +kernel
theorem dX5_side_6 : decode cX5_side 6 = .ok (.getfield 63, 3) := by decide +kernel
theorem dX5_side_9 : decode cX5_side 9 = .ok (.if_icmp .lt 5, 3) := by decide +kernel
theorem dX5_side_12 : decode cX5_side 12 = .ok (.iconst 1, 1) := by decide +kernel
theorem dX5_side_13 : decode cX5_side 13 = .ok (.ireturn, 1) := by decide +kernel
theorem dX5_side_14 : decode cX5_side 14 = .ok (.aload_n 0, 1) := by decide +kernel
theorem dX5_side_15 : decode cX5_side 15 = .ok (.getfield 20, 3) := by decide +kernel
theorem dX5_side_18 : decode cX5_side 18 = .ok (.iload_n 1, 1) := by decide +kernel
theorem dX5_side_19 : decode cX5_side 19 = .ok (.aload_n 0, 1) := by decide +kernel
theorem dX5_side_20 : decode cX5_side 20 = .ok (.iload_n 2, 1) := by decide +kernel
theorem dX5_side_21 : decode cX5_side 21 = .ok (.i2l, 1) := by decide +kernel
theorem dX5_side_22 : decode cX5_side 22 = .ok (.invokevirtual 79, 3) := by decide +kernel
theorem dX5_side_25 : decode cX5_side 25 = .ok (.lastore, 1) := by decide +kernel
theorem dX5_side_26 : decode cX5_side 26 = .ok (.aload_n 0, 1) := by decide +kernel
theorem dX5_side_27 : decode cX5_side 27 = .ok (.invokevirtual 83, 3) := by decide +kernel
theorem dX5_side_30 : decode cX5_side 30 = .ok (.iconst 0, 1) := by decide +kernel
theorem dX5_side_31 : decode cX5_side 31 = .ok (.ireturn, 1) := by decide +kernel
theorem dX5_seed_0 : decode cX5_seed 0 = .ok (.aload_n 0, 1) := by decide +kernel
theorem dX5_seed_1 : decode cX5_seed 1 = .ok (.iload_n 1, 1) := by decide +kernel
theorem dX5_seed_2 : decode cX5_seed 2 = .ok (.ldc 86, 2) := by decide +kernel
theorem dX5_seed_4 : decode cX5_seed 4 = .ok (.iand, 1) := by decide +kernel
theorem dX5_seed_5 : decode cX5_seed 5 = .ok (.i2l, 1) := by decide +kernel
theorem dX5_seed_6 : decode cX5_seed 6 = .ok (.putfield 23, 3) := by decide +kernel
theorem dX5_seed_9 : decode cX5_seed 9 = .ok (.return_, 1) := by decide +kernel
theorem dX5_draw_0 : decode cX5_draw 0 = .ok (.aload_n 0, 1) := by decide +kernel
theorem dX5_draw_1 : decode cX5_draw 1 = .ok (.ldc2_w 87, 3) := by decide +kernel
theorem dX5_draw_4 : decode cX5_draw 4 = .ok (.aload_n 0, 1) := by decide +kernel
theorem dX5_draw_5 : decode cX5_draw 5 = .ok (.getfield 23, 3) := by decide +kernel
theorem dX5_draw_8 : decode cX5_draw 8 = .ok (.lmul, 1) := by decide +kernel
theorem dX5_draw_9 : decode cX5_draw 9 = .ok (.ldc2_w 89, 3) := by decide +kernel
theorem dX5_draw_12 : decode cX5_draw 12 = .ok (.ladd, 1) := by decide +kernel
theorem dX5_draw_13 : decode cX5_draw 13 = .ok (.ldc2_w 91, 3) := by decide +kernel
theorem dX5_draw_16 : decode cX5_draw 16 = .ok (.lrem, 1) := by decide +kernel
theorem dX5_draw_17 : decode cX5_draw 17 = .ok (.putfield 23, 3) := by decide +kernel
theorem dX5_draw_20 : decode cX5_draw 20 = .ok (.aload_n 0, 1) := by decide +kernel
theorem dX5_draw_21 : decode cX5_draw 21 = .ok (.getfield 23, 3) := by decide +kernel
theorem dX5_draw_24 : decode cX5_draw 24 = .ok (.ldc2_w 93, 3) := by decide +kernel
theorem dX5_draw_27 : decode cX5_draw 27 = .ok (.ldiv, 1) := by decide +kernel
theorem dX5_draw_28 : decode cX5_draw 28 = .ok (.aload_n 0, 1) := by decide +kernel
theorem dX5_draw_29 : decode cX5_draw 29 = .ok (.getfield 60, 3) := by decide +kernel
theorem dX5_draw_32 : decode cX5_draw 32 = .ok (.i2l, 1) := by decide +kernel
theorem dX5_draw_33 : decode cX5_draw 33 = .ok (.lrem, 1) := by decide +kernel
theorem dX5_draw_34 : decode cX5_draw 34 = .ok (.lreturn, 1) := by decide +kernel
theorem dX5_product_0 : decode cX5_product 0 = .ok (.aload_n 0, 1) := by decide +kernel
theorem dX5_product_1 : decode cX5_product 1 = .ok (.dup, 1) := by decide +kernel
theorem dX5_product_2 : decode cX5_product 2 = .ok (.getfield 95, 3) := by decide +kernel
theorem dX5_product_5 : decode cX5_product 5 = .ok (.iconst 1, 1) := by decide +kernel
theorem dX5_product_6 : decode cX5_product 6 = .ok (.iadd, 1) := by decide +kernel
theorem dX5_product_7 : decode cX5_product 7 = .ok (.putfield 95, 3) := by decide +kernel
theorem dX5_product_10 : decode cX5_product 10 = .ok (.iconst 0, 1) := by decide +kernel
theorem dX5_product_11 : decode cX5_product 11 = .ok (.istore_n 1, 1) := by decide +kernel
theorem dX5_product_12 : decode cX5_product 12 = .ok (.iload_n 1, 1) := by decide +kernel
theorem dX5_product_13 : decode cX5_product 13 = .ok (.aload_n 0, 1) := by decide +kernel
theorem dX5_product_14 : decode cX5_product 14 = .ok (.getfield 63, 3) := by decide +kernel
theorem dX5_product_17 : decode cX5_product 17 = .ok (.if_icmp .ge 16, 3) := by decide +kernel
theorem dX5_product_20 : decode cX5_product 20 = .ok (.aload_n 0, 1) := by decide +kernel
theorem dX5_product_21 : decode cX5_product 21 = .ok (.getfield 33, 3) := by decide +kernel
theorem dX5_product_24 : decode cX5_product 24 = .ok (.iload_n 1, 1) := by decide +kernel
theorem dX5_product_25 : decode cX5_product 25 = .ok (.lconst 0, 1) := by decide +kernel
theorem dX5_product_26 : decode cX5_product 26 = .ok (.lastore, 1) := by decide +kernel
theorem dX5_product_27 : decode cX5_product 27 = .ok (.iinc 1 1, 3) := by decide +kernel
theorem dX5_product_30 : decode cX5_product 30 = .ok (.goto (-18), 3) := by decide +kernel
theorem dX5_product_33 : decode cX5_product 33 = .ok (.iconst 0, 1) := by decide +kernel
theorem dX5_product_34 : decode cX5_product 34 = .ok (.istore_n 1, 1) := by decide +kernel
theorem dX5_product_35 : decode cX5_product 35 = .ok (.iload_n 1, 1) := by decide +kernel
theorem dX5_product_36 : decode cX5_product 36 = .ok (.aload_n 0, 1) := by decide +kernel
theorem dX5_product_37 : decode cX5_product 37 = .ok (.getfield 76, 3) := by decide +kernel
theorem dX5_product_40 : decode cX5_product 40 = .ok (.if_icmp .ge 56, 3) := by decide +kernel
theorem dX5_product_43 : decode cX5_product 43 = .ok (.aload_n 0, 1) := by decide +kernel
theorem dX5_product_44 : decode cX5_product 44 = .ok (.getfield 33, 3) := by decide +kernel
theorem dX5_product_47 : decode cX5_product 47 = .ok (.aload_n 0, 1) := by decide +kernel
theorem dX5_product_48 : decode cX5_product 48 = .ok (.getfield 7, 3) := by decide +kernel
theorem dX5_product_51 : decode cX5_product 51 = .ok (.iload_n 1, 1) := by decide +kernel
theorem dX5_product_52 : decode cX5_product 52 = .ok (.iaload, 1) := by decide +kernel
theorem dX5_product_53 : decode cX5_product 53 = .ok (.aload_n 0, 1) := by decide +kernel
theorem dX5_product_54 : decode cX5_product 54 = .ok (.getfield 33, 3) := by decide +kernel
theorem dX5_product_57 : decode cX5_product 57 = .ok (.aload_n 0, 1) := by decide +kernel
theorem dX5_product_58 : decode cX5_product 58 = .ok (.getfield 7, 3) := by decide +kernel
theorem dX5_product_61 : decode cX5_product 61 = .ok (.iload_n 1, 1) := by decide +kernel
theorem dX5_product_62 : decode cX5_product 62 = .ok (.iaload, 1) := by decide +kernel
theorem dX5_product_63 : decode cX5_product 63 = .ok (.laload, 1) := by decide +kernel
theorem dX5_product_64 : decode cX5_product 64 = .ok (.aload_n 0, 1) := by decide +kernel
theorem dX5_product_65 : decode cX5_product 65 = .ok (.getfield 16, 3) := by decide +kernel
theorem dX5_product_68 : decode cX5_product 68 = .ok (.iload_n 1, 1) := by decide +kernel
theorem dX5_product_69 : decode cX5_product 69 = .ok (.laload, 1) := by decide +kernel
theorem dX5_product_70 : decode cX5_product 70 = .ok (.aload_n 0, 1) := by decide +kernel
theorem dX5_product_71 : decode cX5_product 71 = .ok (.getfield 30, 3) := by decide +kernel
theorem dX5_product_74 : decode cX5_product 74 = .ok (.aload_n 0, 1) := by decide +kernel
theorem dX5_product_75 : decode cX5_product 75 = .ok (.getfield 13, 3) := by decide +kernel
theorem dX5_product_78 : decode cX5_product 78 = .ok (.iload_n 1, 1) := by decide +kernel
theorem dX5_product_79 : decode cX5_product 79 = .ok (.iaload, 1) := by decide +kernel
theorem dX5_product_80 : decode cX5_product 80 = .ok (.laload, 1) := by decide +kernel
theorem dX5_product_81 : decode cX5_product 81 = .ok (.lmul, 1) := by decide +kernel
theorem dX5_product_82 : decode cX5_product 82 = .ok (.ladd, 1) := by decide +kernel
theorem dX5_product_83 : decode cX5_product 83 = .ok (.aload_n 0, 1) := by decide +kernel
theorem dX5_product_84 : decode cX5_product 84 = .ok (.getfield 60, 3) := by decide +kernel
theorem dX5_product_87 : decode cX5_product 87 = .ok (.i2l, 1) := by decide +kernel
theorem dX5_product_88 : decode cX5_product 88 = .ok (.lrem, 1) := by decide +kernel
theorem dX5_product_89 : decode cX5_product 89 = .ok (.lastore, 1) := by decide +kernel
theorem dX5_product_90 : decode cX5_product 90 = .ok (.iinc 1 1, 3) := by decide +kernel
theorem dX5_product_93 : decode cX5_product 93 = .ok (.goto (-58), 3) := by decide +kernel
theorem dX5_product_96 : decode cX5_product 96 = .ok (.iconst 0, 1) := by decide +kernel
theorem dX5_product_97 : decode cX5_product 97 = .ok (.istore_n 1, 1) := by decide +kernel
theorem dX5_product_98 : decode cX5_product 98 = .ok (.iload_n 1, 1) := by decide +kernel
theorem dX5_product_99 : decode cX5_product 99 = .ok (.aload_n 0, 1) := by decide +kernel
theorem dX5_product_100 : decode cX5_product 100 = .ok (.getfield 63, 3) := by decide +kernel
theorem dX5_product_103 : decode cX5_product 103 = .ok (.if_icmp .ge 21, 3) := by decide +kernel
theorem dX5_product_106 : decode cX5_product 106 = .ok (.aload_n 0, 1) := by decide +kernel
theorem dX5_product_107 : decode cX5_product 107 = .ok (.getfield 30, 3) := by decide +kernel
theorem dX5_product_110 : decode cX5_product 110 = .ok (.iload_n 1, 1) := by decide +kernel
theorem dX5_product_111 : decode cX5_product 111 = .ok (.aload_n 0, 1) := by decide +kernel
theorem dX5_product_112 : decode cX5_product 112 = .ok (.getfield 33, 3) := by decide +kernel
theorem dX5_product_115 : decode cX5_product 115 = .ok (.iload_n 1, 1) := by decide +kernel
theorem dX5_product_116 : decode cX5_product 116 = .ok (.laload, 1) := by decide +kernel
theorem dX5_product_117 : decode cX5_product 117 = .ok (.lastore, 1) := by decide +kernel
theorem dX5_product_118 : decode cX5_product 118 = .ok (.iinc 1 1, 3) := by decide +kernel
theorem dX5_product_121 : decode cX5_product 121 = .ok (.goto (-23), 3) := by decide +kernel
theorem dX5_product_124 : decode cX5_product 124 = .ok (.return_, 1) := by decide +kernel
theorem dX5_power_0 : decode cX5_power 0 = .ok (.lconst 1, 1) := by decide +kernel
theorem dX5_power_1 : decode cX5_power 1 = .ok (.lstore 4, 2) := by decide +kernel
theorem dX5_power_3 : decode cX5_power 3 = .ok (.bipush 30, 2) := by decide +kernel
theorem dX5_power_5 : decode cX5_power 5 = .ok (.istore 6, 2) := by decide +kernel
theorem dX5_power_7 : decode cX5_power 7 = .ok (.iload 6, 2) := by decide +kernel
theorem dX5_power_9 : decode cX5_power 9 = .ok (.ifCond .lt 44, 3) := by decide +kernel
theorem dX5_power_12 : decode cX5_power 12 = .ok (.lload 4, 2) := by decide +kernel
theorem dX5_power_14 : decode cX5_power 14 = .ok (.lload 4, 2) := by decide +kernel
theorem dX5_power_16 : decode cX5_power 16 = .ok (.lmul, 1) := by decide +kernel
theorem dX5_power_17 : decode cX5_power 17 = .ok (.aload_n 0, 1) := by decide +kernel
theorem dX5_power_18 : decode cX5_power 18 = .ok (.getfield 60, 3) := by decide +kernel
theorem dX5_power_21 : decode cX5_power 21 = .ok (.i2l, 1) := by decide +kernel
theorem dX5_power_22 : decode cX5_power 22 = .ok (.lrem, 1) := by decide +kernel
theorem dX5_power_23 : decode cX5_power 23 = .ok (.lstore 4, 2) := by decide +kernel
theorem dX5_power_25 : decode cX5_power 25 = .ok (.iload_n 3, 1) := by decide +kernel
theorem dX5_power_26 : decode cX5_power 26 = .ok (.iload 6, 2) := by decide +kernel
theorem dX5_power_28 : decode cX5_power 28 = .ok (.ishr, 1) := by decide +kernel
theorem dX5_power_29 : decode cX5_power 29 = .ok (.iconst 1, 1) := by decide +kernel
theorem dX5_power_30 : decode cX5_power 30 = .ok (.iand, 1) := by decide +kernel
theorem dX5_power_31 : decode cX5_power 31 = .ok (.iconst 1, 1) := by decide +kernel
theorem dX5_power_32 : decode cX5_power 32 = .ok (.if_icmp .ne 15, 3) := by decide +kernel
theorem dX5_power_35 : decode cX5_power 35 = .ok (.lload 4, 2) := by decide +kernel
theorem dX5_power_37 : decode cX5_power 37 = .ok (.lload_n 1, 1) := by decide +kernel
theorem dX5_power_38 : decode cX5_power 38 = .ok (.lmul, 1) := by decide +kernel
theorem dX5_power_39 : decode cX5_power 39 = .ok (.aload_n 0, 1) := by decide +kernel
theorem dX5_power_40 : decode cX5_power 40 = .ok (.getfield 60, 3) := by decide +kernel
theorem dX5_power_43 : decode cX5_power 43 = .ok (.i2l, 1) := by decide +kernel
theorem dX5_power_44 : decode cX5_power 44 = .ok (.lrem, 1) := by decide +kernel
theorem dX5_power_45 : decode cX5_power 45 = .ok (.lstore 4, 2) := by decide +kernel
theorem dX5_power_47 : decode cX5_power 47 = .ok (.iinc 6 (-1), 3) := by decide +kernel
theorem dX5_power_50 : decode cX5_power 50 = .ok (.goto (-43), 3) := by decide +kernel
theorem dX5_power_53 : decode cX5_power 53 = .ok (.lload 4, 2) := by decide +kernel
theorem dX5_power_55 : decode cX5_power 55 = .ok (.lreturn, 1) := by decide +kernel
set_option maxRecDepth 20000 in
theorem ggX5_inverse_X5_power : GoodIn wsX5_inverse wsX5_power := goodIn_r _ [6, 1, 7, 8, 9, 10, 11, 12, 13, 14, 15, 16, 17, 18, 19, 20, 21, 22, 23, 24, 25, 26, 27, 28] (by decide +kernel) (by decide +kernel)
set_option maxRecDepth 20000 in
theorem gX5_inverse_X5_power : GoodIn wsX5_inverse (wsV RX5 98 RX5 yX5_power wsX5_power) := goodIn_app (goodIn_of _ (by decide +kernel)) ggX5_inverse_X5_power
theorem dX5_inverse_0 : decode cX5_inverse 0 = .ok (.aload_n 0, 1) := by decide +kernel
theorem dX5_inverse_1 : decode cX5_inverse 1 = .ok (.lload_n 1, 1) := by decide +kernel
theorem dX5_inverse_2 : decode cX5_inverse 2 = .ok (.aload_n 0, 1) := by decide +kernel
theorem dX5_inverse_3 : decode cX5_inverse 3 = .ok (.getfield 60, 3) := by decide +kernel
theorem dX5_inverse_6 : decode cX5_inverse 6 = .ok (.iconst 2, 1) := by decide +kernel
theorem dX5_inverse_7 : decode cX5_inverse 7 = .ok (.isub, 1) := by decide +kernel
theorem dX5_inverse_8 : decode cX5_inverse 8 = .ok (.invokevirtual 98, 3) := by decide +kernel
theorem dX5_inverse_11 : decode cX5_inverse 11 = .ok (.lreturn, 1) := by decide +kernel
set_option maxRecDepth 20000 in
theorem ggX5_makeRow_X5_draw : GoodIn wsX5_makeRow wsX5_draw := goodIn_r _ [12, 13, 14, 15, 16, 17, 5, 28, 29, 30, 31, 32, 33, 34, 35, 36, 37, 38, 39, 40, 41, 42, 43, 44, 45, 46, 47, 48, 49] (by decide +kernel) (by decide +kernel)
set_option maxRecDepth 20000 in
theorem gX5_makeRow_X5_draw : GoodIn wsX5_makeRow (wsV RX5 102 RX5 yX5_draw wsX5_draw) := goodIn_app (goodIn_of _ (by decide +kernel)) ggX5_makeRow_X5_draw
set_option maxRecDepth 20000 in
theorem ggX5_makeRow_X5_product : GoodIn wsX5_makeRow wsX5_product := goodIn_r _ [21, 22, 1, 23, 24, 25, 26, 3, 27, 5, 28, 29, 30, 31, 32, 33, 34, 35, 36, 37, 38, 39, 40, 41, 42, 43, 44, 45, 46, 47, 48, 49] (by decide +kernel) (by decide +kernel)
set_option maxRecDepth 20000 in
theorem gX5_makeRow_X5_product : GoodIn wsX5_makeRow (wsV RX5 106 RX5 yX5_product wsX5_product) := goodIn_app (goodIn_of _ (by decide +kernel)) ggX5_makeRow_X5_product
theorem dX5_makeRow_0 : decode cX5_makeRow 0 = .ok (.iconst 0, 1) := by decide +kernel
theorem dX5_makeRow_1 : decode cX5_makeRow 1 = .ok (.istore_n 1, 1) := by decide +kernel
theorem dX5_makeRow_2 : decode cX5_makeRow 2 = .ok (.iload_n 1, 1) := by decide +kernel
theorem dX5_makeRow_3 : decode cX5_makeRow 3 = .ok (.aload_n 0, 1) := by decide +kernel
theorem dX5_makeRow_4 : decode cX5_makeRow 4 = .ok (.getfield 63, 3) := by decide +kernel
theorem dX5_makeRow_7 : decode cX5_makeRow 7 = .ok (.if_icmp .ge 19, 3) := by decide +kernel
theorem dX5_makeRow_10 : decode cX5_makeRow 10 = .ok (.aload_n 0, 1) := by decide +kernel
theorem dX5_makeRow_11 : decode cX5_makeRow 11 = .ok (.getfield 27, 3) := by decide +kernel
theorem dX5_makeRow_14 : decode cX5_makeRow 14 = .ok (.iload_n 1, 1) := by decide +kernel
theorem dX5_makeRow_15 : decode cX5_makeRow 15 = .ok (.aload_n 0, 1) := by decide +kernel
theorem dX5_makeRow_16 : decode cX5_makeRow 16 = .ok (.invokevirtual 102, 3) := by decide +kernel
theorem dX5_makeRow_19 : decode cX5_makeRow 19 = .ok (.lastore, 1) := by decide +kernel
theorem dX5_makeRow_20 : decode cX5_makeRow 20 = .ok (.iinc 1 1, 3) := by decide +kernel
theorem dX5_makeRow_23 : decode cX5_makeRow 23 = .ok (.goto (-21), 3) := by decide +kernel
theorem dX5_makeRow_26 : decode cX5_makeRow 26 = .ok (.iconst 0, 1) := by decide +kernel
theorem dX5_makeRow_27 : decode cX5_makeRow 27 = .ok (.istore_n 1, 1) := by decide +kernel
theorem dX5_makeRow_28 : decode cX5_makeRow 28 = .ok (.iload_n 1, 1) := by decide +kernel
theorem dX5_makeRow_29 : decode cX5_makeRow 29 = .ok (.aload_n 0, 1) := by decide +kernel
theorem dX5_makeRow_30 : decode cX5_makeRow 30 = .ok (.getfield 63, 3) := by decide +kernel
theorem dX5_makeRow_33 : decode cX5_makeRow 33 = .ok (.if_icmp .ge 21, 3) := by decide +kernel
theorem dX5_makeRow_36 : decode cX5_makeRow 36 = .ok (.aload_n 0, 1) := by decide +kernel
theorem dX5_makeRow_37 : decode cX5_makeRow 37 = .ok (.getfield 30, 3) := by decide +kernel
theorem dX5_makeRow_40 : decode cX5_makeRow 40 = .ok (.iload_n 1, 1) := by decide +kernel
theorem dX5_makeRow_41 : decode cX5_makeRow 41 = .ok (.aload_n 0, 1) := by decide +kernel
theorem dX5_makeRow_42 : decode cX5_makeRow 42 = .ok (.getfield 20, 3) := by decide +kernel
theorem dX5_makeRow_45 : decode cX5_makeRow 45 = .ok (.iload_n 1, 1) := by decide +kernel
theorem dX5_makeRow_46 : decode cX5_makeRow 46 = .ok (.laload, 1) := by decide +kernel
theorem dX5_makeRow_47 : decode cX5_makeRow 47 = .ok (.lastore, 1) := by decide +kernel
theorem dX5_makeRow_48 : decode cX5_makeRow 48 = .ok (.iinc 1 1, 3) := by decide +kernel
theorem dX5_makeRow_51 : decode cX5_makeRow 51 = .ok (.goto (-23), 3) := by decide +kernel
theorem dX5_makeRow_54 : decode cX5_makeRow 54 = .ok (.iconst 0, 1) := by decide +kernel
theorem dX5_makeRow_55 : decode cX5_makeRow 55 = .ok (.istore_n 1, 1) := by decide +kernel
theorem dX5_makeRow_56 : decode cX5_makeRow 56 = .ok (.iload_n 1, 1) := by decide +kernel
theorem dX5_makeRow_57 : decode cX5_makeRow 57 = .ok (.iconst 2, 1) := by decide +kernel
theorem dX5_makeRow_58 : decode cX5_makeRow 58 = .ok (.aload_n 0, 1) := by decide +kernel
theorem dX5_makeRow_59 : decode cX5_makeRow 59 = .ok (.getfield 63, 3) := by decide +kernel
theorem dX5_makeRow_62 : decode cX5_makeRow 62 = .ok (.imul, 1) := by decide +kernel
theorem dX5_makeRow_63 : decode cX5_makeRow 63 = .ok (.if_icmp .ge 68, 3) := by decide +kernel
theorem dX5_makeRow_66 : decode cX5_makeRow 66 = .ok (.iload_n 1, 1) := by decide +kernel
theorem dX5_makeRow_67 : decode cX5_makeRow 67 = .ok (.ifCond .le 7, 3) := by decide +kernel
theorem dX5_makeRow_70 : decode cX5_makeRow 70 = .ok (.aload_n 0, 1) := by decide +kernel
theorem dX5_makeRow_71 : decode cX5_makeRow 71 = .ok (.invokevirtual 106, 3) := by decide +kernel
theorem dX5_makeRow_74 : decode cX5_makeRow 74 = .ok (.lconst 0, 1) := by decide +kernel
theorem dX5_makeRow_75 : decode cX5_makeRow 75 = .ok (.lstore_n 2, 1) := by decide +kernel
theorem dX5_makeRow_76 : decode cX5_makeRow 76 = .ok (.iconst 0, 1) := by decide +kernel
theorem dX5_makeRow_77 : decode cX5_makeRow 77 = .ok (.istore 4, 2) := by decide +kernel
theorem dX5_makeRow_79 : decode cX5_makeRow 79 = .ok (.iload 4, 2) := by decide +kernel
theorem dX5_makeRow_81 : decode cX5_makeRow 81 = .ok (.aload_n 0, 1) := by decide +kernel
theorem dX5_makeRow_82 : decode cX5_makeRow 82 = .ok (.getfield 63, 3) := by decide +kernel
theorem dX5_makeRow_85 : decode cX5_makeRow 85 = .ok (.if_icmp .ge 33, 3) := by decide +kernel
theorem dX5_makeRow_88 : decode cX5_makeRow 88 = .ok (.lload_n 2, 1) := by decide +kernel
theorem dX5_makeRow_89 : decode cX5_makeRow 89 = .ok (.aload_n 0, 1) := by decide +kernel
theorem dX5_makeRow_90 : decode cX5_makeRow 90 = .ok (.getfield 27, 3) := by decide +kernel
theorem dX5_makeRow_93 : decode cX5_makeRow 93 = .ok (.iload 4, 2) := by decide +kernel
theorem dX5_makeRow_95 : decode cX5_makeRow 95 = .ok (.laload, 1) := by decide +kernel
theorem dX5_makeRow_96 : decode cX5_makeRow 96 = .ok (.aload_n 0, 1) := by decide +kernel
theorem dX5_makeRow_97 : decode cX5_makeRow 97 = .ok (.getfield 30, 3) := by decide +kernel
theorem dX5_makeRow_100 : decode cX5_makeRow 100 = .ok (.iload 4, 2) := by decide +kernel
theorem dX5_makeRow_102 : decode cX5_makeRow 102 = .ok (.laload, 1) := by decide +kernel
theorem dX5_makeRow_103 : decode cX5_makeRow 103 = .ok (.lmul, 1) := by decide +kernel
theorem dX5_makeRow_104 : decode cX5_makeRow 104 = .ok (.ladd, 1) := by decide +kernel
theorem dX5_makeRow_105 : decode cX5_makeRow 105 = .ok (.aload_n 0, 1) := by decide +kernel
theorem dX5_makeRow_106 : decode cX5_makeRow 106 = .ok (.getfield 60, 3) := by decide +kernel
theorem dX5_makeRow_109 : decode cX5_makeRow 109 = .ok (.i2l, 1) := by decide +kernel
theorem dX5_makeRow_110 : decode cX5_makeRow 110 = .ok (.lrem, 1) := by decide +kernel
theorem dX5_makeRow_111 : decode cX5_makeRow 111 = .ok (.lstore_n 2, 1) := by decide +kernel
theorem dX5_makeRow_112 : decode cX5_makeRow 112 = .ok (.iinc 4 1, 3) := by decide +kernel
theorem dX5_makeRow_115 : decode cX5_makeRow 115 = .ok (.goto (-36), 3) := by decide +kernel
theorem dX5_makeRow_118 : decode cX5_makeRow 118 = .ok (.aload_n 0, 1) := by decide +kernel
theorem dX5_makeRow_119 : decode cX5_makeRow 119 = .ok (.getfield 36, 3) := by decide +kernel
theorem dX5_makeRow_122 : decode cX5_makeRow 122 = .ok (.iload_n 1, 1) := by decide +kernel
theorem dX5_makeRow_123 : decode cX5_makeRow 123 = .ok (.lload_n 2, 1) := by decide +kernel
theorem dX5_makeRow_124 : decode cX5_makeRow 124 = .ok (.lastore, 1) := by decide +kernel
theorem dX5_makeRow_125 : decode cX5_makeRow 125 = .ok (.iinc 1 1, 3) := by decide +kernel
theorem dX5_makeRow_128 : decode cX5_makeRow 128 = .ok (.goto (-72), 3) := by decide +kernel
theorem dX5_makeRow_131 : decode cX5_makeRow 131 = .ok (.aload_n 0, 1) := by decide +kernel
theorem dX5_makeRow_132 : decode cX5_makeRow 132 = .ok (.iconst 1, 1) := by decide +kernel
theorem dX5_makeRow_133 : decode cX5_makeRow 133 = .ok (.putfield 73, 3) := by decide +kernel
theorem dX5_makeRow_136 : decode cX5_makeRow 136 = .ok (.return_, 1) := by decide +kernel
set_option maxRecDepth 20000 in
theorem ggX5_recur_X5_inverse : GoodIn wsX5_recur wsX5_inverse := goodIn_r _ [12, 5, 13, 14, 15, 11, 16, 21, 22, 23, 24, 25, 26, 27, 28, 29, 30, 31, 32, 33, 34, 35, 36, 37, 38, 39, 40, 41, 42] (by decide +kernel) (by decide +kernel)
set_option maxRecDepth 20000 in
theorem gX5_recur_X5_inverse : GoodIn wsX5_recur (wsV RX5 109 RX5 yX5_inverse wsX5_inverse) := goodIn_app (goodIn_of _ (by decide +kernel)) ggX5_recur_X5_inverse
set_option maxRecDepth 20000 in
theorem ggX5_recur_X5_within : GoodIn wsX5_recur wsX5_within := goodIn_r _ [20, 5, 21, 22, 23, 24, 25, 26, 27, 28, 29, 30, 31, 32, 33, 34, 35, 36, 37, 38, 39, 40, 41, 42] (by decide +kernel) (by decide +kernel)
set_option maxRecDepth 20000 in
theorem gX5_recur_X5_within : GoodIn wsX5_recur (wsV RX5 79 RX5 yX5_within wsX5_within) := goodIn_app (goodIn_of _ (by decide +kernel)) ggX5_recur_X5_within
theorem dX5_recur_0 : decode cX5_recur 0 = .ok (.iconst 0, 1) := by decide +kernel
theorem dX5_recur_1 : decode cX5_recur 1 = .ok (.istore_n 1, 1) := by decide +kernel
theorem dX5_recur_2 : decode cX5_recur 2 = .ok (.iload_n 1, 1) := by decide +kernel
theorem dX5_recur_3 : decode cX5_recur 3 = .ok (.bipush 100, 2) := by decide +kernel
theorem dX5_recur_5 : decode cX5_recur 5 = .ok (.if_icmp .ge 23, 3) := by decide +kernel
theorem dX5_recur_8 : decode cX5_recur 8 = .ok (.aload_n 0, 1) := by decide +kernel
theorem dX5_recur_9 : decode cX5_recur 9 = .ok (.getfield 39, 3) := by decide +kernel
theorem dX5_recur_12 : decode cX5_recur 12 = .ok (.iload_n 1, 1) := by decide +kernel
theorem dX5_recur_13 : decode cX5_recur 13 = .ok (.lconst 0, 1) := by decide +kernel
theorem dX5_recur_14 : decode cX5_recur 14 = .ok (.lastore, 1) := by decide +kernel
theorem dX5_recur_15 : decode cX5_recur 15 = .ok (.aload_n 0, 1) := by decide +kernel
theorem dX5_recur_16 : decode cX5_recur 16 = .ok (.getfield 42, 3) := by decide +kernel
theorem dX5_recur_19 : decode cX5_recur 19 = .ok (.iload_n 1, 1) := by decide +kernel
theorem dX5_recur_20 : decode cX5_recur 20 = .ok (.lconst 0, 1) := by decide +kernel
theorem dX5_recur_21 : decode cX5_recur 21 = .ok (.lastore, 1) := by decide +kernel
theorem dX5_recur_22 : decode cX5_recur 22 = .ok (.iinc 1 1, 3) := by decide +kernel
theorem dX5_recur_25 : decode cX5_recur 25 = .ok (.goto (-23), 3) := by decide +kernel
theorem dX5_recur_28 : decode cX5_recur 28 = .ok (.aload_n 0, 1) := by decide +kernel
theorem dX5_recur_29 : decode cX5_recur 29 = .ok (.getfield 39, 3) := by decide +kernel
theorem dX5_recur_32 : decode cX5_recur 32 = .ok (.iconst 0, 1) := by decide +kernel
theorem dX5_recur_33 : decode cX5_recur 33 = .ok (.lconst 1, 1) := by decide +kernel
theorem dX5_recur_34 : decode cX5_recur 34 = .ok (.lastore, 1) := by decide +kernel
theorem dX5_recur_35 : decode cX5_recur 35 = .ok (.aload_n 0, 1) := by decide +kernel
theorem dX5_recur_36 : decode cX5_recur 36 = .ok (.getfield 42, 3) := by decide +kernel
theorem dX5_recur_39 : decode cX5_recur 39 = .ok (.iconst 0, 1) := by decide +kernel
theorem dX5_recur_40 : decode cX5_recur 40 = .ok (.lconst 1, 1) := by decide +kernel
theorem dX5_recur_41 : decode cX5_recur 41 = .ok (.lastore, 1) := by decide +kernel
theorem dX5_recur_42 : decode cX5_recur 42 = .ok (.iconst 0, 1) := by decide +kernel
theorem dX5_recur_43 : decode cX5_recur 43 = .ok (.istore_n 1, 1) := by decide +kernel
theorem dX5_recur_44 : decode cX5_recur 44 = .ok (.iconst 1, 1) := by decide +kernel
theorem dX5_recur_45 : decode cX5_recur 45 = .ok (.istore_n 2, 1) := by decide +kernel
theorem dX5_recur_46 : decode cX5_recur 46 = .ok (.lconst 1, 1) := by decide +kernel
theorem dX5_recur_47 : decode cX5_recur 47 = .ok (.lstore_n 3, 1) := by decide +kernel
theorem dX5_recur_48 : decode cX5_recur 48 = .ok (.iconst 0, 1) := by decide +kernel
theorem dX5_recur_49 : decode cX5_recur 49 = .ok (.istore 5, 2) := by decide +kernel
theorem dX5_recur_51 : decode cX5_recur 51 = .ok (.iload 5, 2) := by decide +kernel
theorem dX5_recur_53 : decode cX5_recur 53 = .ok (.iconst 2, 1) := by decide +kernel
theorem dX5_recur_54 : decode cX5_recur 54 = .ok (.aload_n 0, 1) := by decide +kernel
theorem dX5_recur_55 : decode cX5_recur 55 = .ok (.getfield 63, 3) := by decide +kernel
theorem dX5_recur_58 : decode cX5_recur 58 = .ok (.imul, 1) := by decide +kernel
theorem dX5_recur_59 : decode cX5_recur 59 = .ok (.if_icmp .ge 228, 3) := by decide +kernel
theorem dX5_recur_62 : decode cX5_recur 62 = .ok (.aload_n 0, 1) := by decide +kernel
theorem dX5_recur_63 : decode cX5_recur 63 = .ok (.getfield 36, 3) := by decide +kernel
theorem dX5_recur_66 : decode cX5_recur 66 = .ok (.iload 5, 2) := by decide +kernel
theorem dX5_recur_68 : decode cX5_recur 68 = .ok (.laload, 1) := by decide +kernel
theorem dX5_recur_69 : decode cX5_recur 69 = .ok (.lstore 6, 2) := by decide +kernel
theorem dX5_recur_71 : decode cX5_recur 71 = .ok (.iconst 1, 1) := by decide +kernel
theorem dX5_recur_72 : decode cX5_recur 72 = .ok (.istore 8, 2) := by decide +kernel
theorem dX5_recur_74 : decode cX5_recur 74 = .ok (.iload 8, 2) := by decide +kernel
theorem dX5_recur_76 : decode cX5_recur 76 = .ok (.iload_n 1, 1) := by decide +kernel
theorem dX5_recur_77 : decode cX5_recur 77 = .ok (.if_icmp .gt 38, 3) := by decide +kernel
theorem dX5_recur_80 : decode cX5_recur 80 = .ok (.lload 6, 2) := by decide +kernel
theorem dX5_recur_82 : decode cX5_recur 82 = .ok (.aload_n 0, 1) := by decide +kernel
theorem dX5_recur_83 : decode cX5_recur 83 = .ok (.getfield 39, 3) := by decide +kernel
theorem dX5_recur_86 : decode cX5_recur 86 = .ok (.iload 8, 2) := by decide +kernel
theorem dX5_recur_88 : decode cX5_recur 88 = .ok (.laload, 1) := by decide +kernel
theorem dX5_recur_89 : decode cX5_recur 89 = .ok (.aload_n 0, 1) := by decide +kernel
theorem dX5_recur_90 : decode cX5_recur 90 = .ok (.getfield 36, 3) := by decide +kernel
theorem dX5_recur_93 : decode cX5_recur 93 = .ok (.iload 5, 2) := by decide +kernel
theorem dX5_recur_95 : decode cX5_recur 95 = .ok (.iload 8, 2) := by decide +kernel
theorem dX5_recur_97 : decode cX5_recur 97 = .ok (.isub, 1) := by decide +kernel
theorem dX5_recur_98 : decode cX5_recur 98 = .ok (.laload, 1) := by decide +kernel
theorem dX5_recur_99 : decode cX5_recur 99 = .ok (.lmul, 1) := by decide +kernel
theorem dX5_recur_100 : decode cX5_recur 100 = .ok (.ladd, 1) := by decide +kernel
theorem dX5_recur_101 : decode cX5_recur 101 = .ok (.aload_n 0, 1) := by decide +kernel
theorem dX5_recur_102 : decode cX5_recur 102 = .ok (.getfield 60, 3) := by decide +kernel
theorem dX5_recur_105 : decode cX5_recur 105 = .ok (.i2l, 1) := by decide +kernel
theorem dX5_recur_106 : decode cX5_recur 106 = .ok (.lrem, 1) := by decide +kernel
theorem dX5_recur_107 : decode cX5_recur 107 = .ok (.lstore 6, 2) := by decide +kernel
theorem dX5_recur_109 : decode cX5_recur 109 = .ok (.iinc 8 1, 3) := by decide +kernel
theorem dX5_recur_112 : decode cX5_recur 112 = .ok (.goto (-38), 3) := by decide +kernel
theorem dX5_recur_115 : decode cX5_recur 115 = .ok (.lload 6, 2) := by decide +kernel
theorem dX5_recur_117 : decode cX5_recur 117 = .ok (.lconst 0, 1) := by decide +kernel
theorem dX5_recur_118 : decode cX5_recur 118 = .ok (.lcmp, 1) := by decide +kernel
theorem dX5_recur_119 : decode cX5_recur 119 = .ok (.ifCond .ne 9, 3) := by decide +kernel
theorem dX5_recur_122 : decode cX5_recur 122 = .ok (.iinc 2 1, 3) := by decide +kernel
theorem dX5_recur_125 : decode cX5_recur 125 = .ok (.goto 156, 3) := by decide +kernel
theorem dX5_recur_128 : decode cX5_recur 128 = .ok (.iconst 0, 1) := by decide +kernel
theorem dX5_recur_129 : decode cX5_recur 129 = .ok (.istore 8, 2) := by decide +kernel
theorem dX5_recur_131 : decode cX5_recur 131 = .ok (.iload 8, 2) := by decide +kernel
theorem dX5_recur_133 : decode cX5_recur 133 = .ok (.bipush 100, 2) := by decide +kernel
theorem dX5_recur_135 : decode cX5_recur 135 = .ok (.if_icmp .ge 23, 3) := by decide +kernel
theorem dX5_recur_138 : decode cX5_recur 138 = .ok (.aload_n 0, 1) := by decide +kernel
theorem dX5_recur_139 : decode cX5_recur 139 = .ok (.getfield 45, 3) := by decide +kernel
theorem dX5_recur_142 : decode cX5_recur 142 = .ok (.iload 8, 2) := by decide +kernel
theorem dX5_recur_144 : decode cX5_recur 144 = .ok (.aload_n 0, 1) := by decide +kernel
theorem dX5_recur_145 : decode cX5_recur 145 = .ok (.getfield 39, 3) := by decide +kernel
theorem dX5_recur_148 : decode cX5_recur 148 = .ok (.iload 8, 2) := by decide +kernel
theorem dX5_recur_150 : decode cX5_recur 150 = .ok (.laload, 1) := by decide +kernel
theorem dX5_recur_151 : decode cX5_recur 151 = .ok (.lastore, 1) := by decide +kernel
theorem dX5_recur_152 : decode cX5_recur 152 = .ok (.iinc 8 1, 3) := by decide +kernel
theorem dX5_recur_155 : decode cX5_recur 155 = .ok (.goto (-24), 3) := by decide +kernel
theorem dX5_recur_158 : decode cX5_recur 158 = .ok (.lload 6, 2) := by decide +kernel
theorem dX5_recur_160 : decode cX5_recur 160 = .ok (.aload_n 0, 1) := by decide +kernel
theorem dX5_recur_161 : decode cX5_recur 161 = .ok (.lload_n 3, 1) := by decide +kernel
theorem dX5_recur_162 : decode cX5_recur 162 = .ok (.invokevirtual 109, 3) := by decide +kernel
theorem dX5_recur_165 : decode cX5_recur 165 = .ok (.lmul, 1) := by decide +kernel
theorem dX5_recur_166 : decode cX5_recur 166 = .ok (.aload_n 0, 1) := by decide +kernel
theorem dX5_recur_167 : decode cX5_recur 167 = .ok (.getfield 60, 3) := by decide +kernel
theorem dX5_recur_170 : decode cX5_recur 170 = .ok (.i2l, 1) := by decide +kernel
theorem dX5_recur_171 : decode cX5_recur 171 = .ok (.lrem, 1) := by decide +kernel
theorem dX5_recur_172 : decode cX5_recur 172 = .ok (.lstore 8, 2) := by decide +kernel
theorem dX5_recur_174 : decode cX5_recur 174 = .ok (.iconst 0, 1) := by decide +kernel
theorem dX5_recur_175 : decode cX5_recur 175 = .ok (.istore 10, 2) := by decide +kernel
theorem dX5_recur_177 : decode cX5_recur 177 = .ok (.iload 10, 2) := by decide +kernel
theorem dX5_recur_179 : decode cX5_recur 179 = .ok (.iload_n 2, 1) := by decide +kernel
theorem dX5_recur_180 : decode cX5_recur 180 = .ok (.iadd, 1) := by decide +kernel
theorem dX5_recur_181 : decode cX5_recur 181 = .ok (.bipush 100, 2) := by decide +kernel
theorem dX5_recur_183 : decode cX5_recur 183 = .ok (.if_icmp .ge 42, 3) := by decide +kernel
theorem dX5_recur_186 : decode cX5_recur 186 = .ok (.aload_n 0, 1) := by decide +kernel
theorem dX5_recur_187 : decode cX5_recur 187 = .ok (.getfield 39, 3) := by decide +kernel
theorem dX5_recur_190 : decode cX5_recur 190 = .ok (.iload 10, 2) := by decide +kernel
theorem dX5_recur_192 : decode cX5_recur 192 = .ok (.iload_n 2, 1) := by decide +kernel
theorem dX5_recur_193 : decode cX5_recur 193 = .ok (.iadd, 1) := by decide +kernel
theorem dX5_recur_194 : decode cX5_recur 194 = .ok (.aload_n 0, 1) := by decide +kernel
theorem dX5_recur_195 : decode cX5_recur 195 = .ok (.aload_n 0, 1) := by decide +kernel
theorem dX5_recur_196 : decode cX5_recur 196 = .ok (.getfield 39, 3) := by decide +kernel
theorem dX5_recur_199 : decode cX5_recur 199 = .ok (.iload 10, 2) := by decide +kernel
theorem dX5_recur_201 : decode cX5_recur 201 = .ok (.iload_n 2, 1) := by decide +kernel
theorem dX5_recur_202 : decode cX5_recur 202 = .ok (.iadd, 1) := by decide +kernel
theorem dX5_recur_203 : decode cX5_recur 203 = .ok (.laload, 1) := by decide +kernel
theorem dX5_recur_204 : decode cX5_recur 204 = .ok (.lload 8, 2) := by decide +kernel
theorem dX5_recur_206 : decode cX5_recur 206 = .ok (.aload_n 0, 1) := by decide +kernel
theorem dX5_recur_207 : decode cX5_recur 207 = .ok (.getfield 42, 3) := by decide +kernel
theorem dX5_recur_210 : decode cX5_recur 210 = .ok (.iload 10, 2) := by decide +kernel
theorem dX5_recur_212 : decode cX5_recur 212 = .ok (.laload, 1) := by decide +kernel
theorem dX5_recur_213 : decode cX5_recur 213 = .ok (.lmul, 1) := by decide +kernel
theorem dX5_recur_214 : decode cX5_recur 214 = .ok (.lsub, 1) := by decide +kernel
theorem dX5_recur_215 : decode cX5_recur 215 = .ok (.invokevirtual 79, 3) := by decide +kernel
theorem dX5_recur_218 : decode cX5_recur 218 = .ok (.lastore, 1) := by decide +kernel
theorem dX5_recur_219 : decode cX5_recur 219 = .ok (.iinc 10 1, 3) := by decide +kernel
theorem dX5_recur_222 : decode cX5_recur 222 = .ok (.goto (-45), 3) := by decide +kernel
theorem dX5_recur_225 : decode cX5_recur 225 = .ok (.iconst 2, 1) := by decide +kernel
theorem dX5_recur_226 : decode cX5_recur 226 = .ok (.iload_n 1, 1) := by decide +kernel
theorem dX5_recur_227 : decode cX5_recur 227 = .ok (.imul, 1) := by decide +kernel
theorem dX5_recur_228 : decode cX5_recur 228 = .ok (.iload 5, 2) := by decide +kernel
theorem dX5_recur_230 : decode cX5_recur 230 = .ok (.if_icmp .gt 48, 3) := by decide +kernel
theorem dX5_recur_233 : decode cX5_recur 233 = .ok (.iload 5, 2) := by decide +kernel
theorem dX5_recur_235 : decode cX5_recur 235 = .ok (.iconst 1, 1) := by decide +kernel
theorem dX5_recur_236 : decode cX5_recur 236 = .ok (.iadd, 1) := by decide +kernel
theorem dX5_recur_237 : decode cX5_recur 237 = .ok (.iload_n 1, 1) := by decide +kernel
theorem dX5_recur_238 : decode cX5_recur 238 = .ok (.isub, 1) := by decide +kernel
theorem dX5_recur_239 : decode cX5_recur 239 = .ok (.istore_n 1, 1) := by decide +kernel
theorem dX5_recur_240 : decode cX5_recur 240 = .ok (.iconst 0, 1) := by decide +kernel
theorem dX5_recur_241 : decode cX5_recur 241 = .ok (.istore 10, 2) := by decide +kernel
theorem dX5_recur_243 : decode cX5_recur 243 = .ok (.iload 10, 2) := by decide +kernel
theorem dX5_recur_245 : decode cX5_recur 245 = .ok (.bipush 100, 2) := by decide +kernel
theorem dX5_recur_247 : decode cX5_recur 247 = .ok (.if_icmp .ge 23, 3) := by decide +kernel
theorem dX5_recur_250 : decode cX5_recur 250 = .ok (.aload_n 0, 1) := by decide +kernel
theorem dX5_recur_251 : decode cX5_recur 251 = .ok (.getfield 42, 3) := by decide +kernel
theorem dX5_recur_254 : decode cX5_recur 254 = .ok (.iload 10, 2) := by decide +kernel
theorem dX5_recur_256 : decode cX5_recur 256 = .ok (.aload_n 0, 1) := by decide +kernel
theorem dX5_recur_257 : decode cX5_recur 257 = .ok (.getfield 45, 3) := by decide +kernel
theorem dX5_recur_260 : decode cX5_recur 260 = .ok (.iload 10, 2) := by decide +kernel
theorem dX5_recur_262 : decode cX5_recur 262 = .ok (.laload, 1) := by decide +kernel
theorem dX5_recur_263 : decode cX5_recur 263 = .ok (.lastore, 1) := by decide +kernel
theorem dX5_recur_264 : decode cX5_recur 264 = .ok (.iinc 10 1, 3) := by decide +kernel
theorem dX5_recur_267 : decode cX5_recur 267 = .ok (.goto (-24), 3) := by decide +kernel
theorem dX5_recur_270 : decode cX5_recur 270 = .ok (.lload 6, 2) := by decide +kernel
theorem dX5_recur_272 : decode cX5_recur 272 = .ok (.lstore_n 3, 1) := by decide +kernel
theorem dX5_recur_273 : decode cX5_recur 273 = .ok (.iconst 1, 1) := by decide +kernel
theorem dX5_recur_274 : decode cX5_recur 274 = .ok (.istore_n 2, 1) := by decide +kernel
theorem dX5_recur_275 : decode cX5_recur 275 = .ok (.goto 6, 3) := by decide +kernel
theorem dX5_recur_278 : decode cX5_recur 278 = .ok (.iinc 2 1, 3) := by decide +kernel
theorem dX5_recur_281 : decode cX5_recur 281 = .ok (.iinc 5 1, 3) := by decide +kernel
theorem dX5_recur_284 : decode cX5_recur 284 = .ok (.goto (-233), 3) := by decide +kernel
theorem dX5_recur_287 : decode cX5_recur 287 = .ok (.aload_n 0, 1) := by decide +kernel
theorem dX5_recur_288 : decode cX5_recur 288 = .ok (.iload_n 1, 1) := by decide +kernel
theorem dX5_recur_289 : decode cX5_recur 289 = .ok (.putfield 48, 3) := by decide +kernel
theorem dX5_recur_292 : decode cX5_recur 292 = .ok (.return_, 1) := by decide +kernel
set_option maxRecDepth 20000 in
theorem ggX5_holds_X5_product : GoodIn wsX5_holds wsX5_product := goodIn_r _ [9, 10, 1, 11, 12, 13, 14, 2, 15, 16, 17, 18, 19, 20, 21, 22, 23, 24, 25, 26, 27, 28, 29, 30, 31, 32, 33, 34, 35, 36, 37, 38] (by decide +kernel) (by decide +kernel)
set_option maxRecDepth 20000 in
theorem gX5_holds_X5_product : GoodIn wsX5_holds (wsV RX5 106 RX5 yX5_product wsX5_product) := goodIn_app (goodIn_of _ (by decide +kernel)) ggX5_holds_X5_product
theorem dX5_holds_0 : decode cX5_holds 0 = .ok (.iconst 0, 1) := by decide +kernel
theorem dX5_holds_1 : decode cX5_holds 1 = .ok (.istore_n 1, 1) := by decide +kernel
theorem dX5_holds_2 : decode cX5_holds 2 = .ok (.iload_n 1, 1) := by decide +kernel
theorem dX5_holds_3 : decode cX5_holds 3 = .ok (.aload_n 0, 1) := by decide +kernel
theorem dX5_holds_4 : decode cX5_holds 4 = .ok (.getfield 63, 3) := by decide +kernel
theorem dX5_holds_7 : decode cX5_holds 7 = .ok (.if_icmp .ge 21, 3) := by decide +kernel
theorem dX5_holds_10 : decode cX5_holds 10 = .ok (.aload_n 0, 1) := by decide +kernel
theorem dX5_holds_11 : decode cX5_holds 11 = .ok (.getfield 30, 3) := by decide +kernel
theorem dX5_holds_14 : decode cX5_holds 14 = .ok (.iload_n 1, 1) := by decide +kernel
theorem dX5_holds_15 : decode cX5_holds 15 = .ok (.aload_n 0, 1) := by decide +kernel
theorem dX5_holds_16 : decode cX5_holds 16 = .ok (.getfield 52, 3) := by decide +kernel
theorem dX5_holds_19 : decode cX5_holds 19 = .ok (.iload_n 1, 1) := by decide +kernel
theorem dX5_holds_20 : decode cX5_holds 20 = .ok (.laload, 1) := by decide +kernel
theorem dX5_holds_21 : decode cX5_holds 21 = .ok (.lastore, 1) := by decide +kernel
theorem dX5_holds_22 : decode cX5_holds 22 = .ok (.iinc 1 1, 3) := by decide +kernel
theorem dX5_holds_25 : decode cX5_holds 25 = .ok (.goto (-23), 3) := by decide +kernel
theorem dX5_holds_28 : decode cX5_holds 28 = .ok (.aload_n 0, 1) := by decide +kernel
theorem dX5_holds_29 : decode cX5_holds 29 = .ok (.invokevirtual 106, 3) := by decide +kernel
theorem dX5_holds_32 : decode cX5_holds 32 = .ok (.iconst 1, 1) := by decide +kernel
theorem dX5_holds_33 : decode cX5_holds 33 = .ok (.istore_n 1, 1) := by decide +kernel
theorem dX5_holds_34 : decode cX5_holds 34 = .ok (.iconst 0, 1) := by decide +kernel
theorem dX5_holds_35 : decode cX5_holds 35 = .ok (.istore_n 2, 1) := by decide +kernel
theorem dX5_holds_36 : decode cX5_holds 36 = .ok (.iload_n 2, 1) := by decide +kernel
theorem dX5_holds_37 : decode cX5_holds 37 = .ok (.aload_n 0, 1) := by decide +kernel
theorem dX5_holds_38 : decode cX5_holds 38 = .ok (.getfield 63, 3) := by decide +kernel
theorem dX5_holds_41 : decode cX5_holds 41 = .ok (.if_icmp .ge 35, 3) := by decide +kernel
theorem dX5_holds_44 : decode cX5_holds 44 = .ok (.iload_n 1, 1) := by decide +kernel
theorem dX5_holds_45 : decode cX5_holds 45 = .ok (.ifCond .eq 23, 3) := by decide +kernel
theorem dX5_holds_48 : decode cX5_holds 48 = .ok (.aload_n 0, 1) := by decide +kernel
theorem dX5_holds_49 : decode cX5_holds 49 = .ok (.getfield 30, 3) := by decide +kernel
theorem dX5_holds_52 : decode cX5_holds 52 = .ok (.iload_n 2, 1) := by decide +kernel
theorem dX5_holds_53 : decode cX5_holds 53 = .ok (.laload, 1) := by decide +kernel
theorem dX5_holds_54 : decode cX5_holds 54 = .ok (.aload_n 0, 1) := by decide +kernel
theorem dX5_holds_55 : decode cX5_holds 55 = .ok (.getfield 20, 3) := by decide +kernel
theorem dX5_holds_58 : decode cX5_holds 58 = .ok (.iload_n 2, 1) := by decide +kernel
theorem dX5_holds_59 : decode cX5_holds 59 = .ok (.laload, 1) := by decide +kernel
theorem dX5_holds_60 : decode cX5_holds 60 = .ok (.lcmp, 1) := by decide +kernel
theorem dX5_holds_61 : decode cX5_holds 61 = .ok (.ifCond .ne 7, 3) := by decide +kernel
theorem dX5_holds_64 : decode cX5_holds 64 = .ok (.iconst 1, 1) := by decide +kernel
theorem dX5_holds_65 : decode cX5_holds 65 = .ok (.goto 4, 3) := by decide +kernel
theorem dX5_holds_68 : decode cX5_holds 68 = .ok (.iconst 0, 1) := by decide +kernel
theorem dX5_holds_69 : decode cX5_holds 69 = .ok (.istore_n 1, 1) := by decide +kernel
theorem dX5_holds_70 : decode cX5_holds 70 = .ok (.iinc 2 1, 3) := by decide +kernel
theorem dX5_holds_73 : decode cX5_holds 73 = .ok (.goto (-37), 3) := by decide +kernel
theorem dX5_holds_76 : decode cX5_holds 76 = .ok (.iload_n 1, 1) := by decide +kernel
theorem dX5_holds_77 : decode cX5_holds 77 = .ok (.ireturn, 1) := by decide +kernel
set_option maxRecDepth 20000 in
theorem ggX5_makeCandidate_X5_product : GoodIn wsX5_makeCandidate wsX5_product := goodIn_r _ [12, 13, 1, 14, 15, 16, 17, 2, 18, 6, 31, 32, 33, 34, 35, 36, 37, 38, 39, 40, 41, 42, 43, 44, 45, 46, 47, 48, 49, 50, 51, 52] (by decide +kernel) (by decide +kernel)
set_option maxRecDepth 20000 in
theorem gX5_makeCandidate_X5_product : GoodIn wsX5_makeCandidate (wsV RX5 106 RX5 yX5_product wsX5_product) := goodIn_app (goodIn_of _ (by decide +kernel)) ggX5_makeCandidate_X5_product
set_option maxRecDepth 20000 in
theorem ggX5_makeCandidate_X5_within : GoodIn wsX5_makeCandidate wsX5_within := goodIn_r _ [22, 6, 31, 32, 33, 34, 35, 36, 37, 38, 39, 40, 41, 42, 43, 44, 45, 46, 47, 48, 49, 50, 51, 52] (by decide +kernel) (by decide +kernel)
set_option maxRecDepth 20000 in
theorem gX5_makeCandidate_X5_within : GoodIn wsX5_makeCandidate (wsV RX5 79 RX5 yX5_within wsX5_within) := goodIn_app (goodIn_of _ (by decide +kernel)) ggX5_makeCandidate_X5_within
set_option maxRecDepth 20000 in
theorem ggX5_makeCandidate_X5_inverse : GoodIn wsX5_makeCandidate wsX5_inverse := goodIn_r _ [26, 6, 27, 28, 29, 11, 30, 31, 32, 33, 34, 35, 36, 37, 38, 39, 40, 41, 42, 43, 44, 45, 46, 47, 48, 49, 50, 51, 52] (by decide +kernel) (by decide +kernel)
set_option maxRecDepth 20000 in
theorem gX5_makeCandidate_X5_inverse : GoodIn wsX5_makeCandidate (wsV RX5 109 RX5 yX5_inverse wsX5_inverse) := goodIn_app (goodIn_of _ (by decide +kernel)) ggX5_makeCandidate_X5_inverse
theorem dX5_makeCandidate_0 : decode cX5_makeCandidate 0 = .ok (.iconst 0, 1) := by decide +kernel
theorem dX5_makeCandidate_1 : decode cX5_makeCandidate 1 = .ok (.istore_n 1, 1) := by decide +kernel
theorem dX5_makeCandidate_2 : decode cX5_makeCandidate 2 = .ok (.iload_n 1, 1) := by decide +kernel
theorem dX5_makeCandidate_3 : decode cX5_makeCandidate 3 = .ok (.aload_n 0, 1) := by decide +kernel
theorem dX5_makeCandidate_4 : decode cX5_makeCandidate 4 = .ok (.getfield 63, 3) := by decide +kernel
theorem dX5_makeCandidate_7 : decode cX5_makeCandidate 7 = .ok (.if_icmp .ge 32, 3) := by decide +kernel
theorem dX5_makeCandidate_10 : decode cX5_makeCandidate 10 = .ok (.aload_n 0, 1) := by decide +kernel
theorem dX5_makeCandidate_11 : decode cX5_makeCandidate 11 = .ok (.getfield 30, 3) := by decide +kernel
theorem dX5_makeCandidate_14 : decode cX5_makeCandidate 14 = .ok (.iload_n 1, 1) := by decide +kernel
theorem dX5_makeCandidate_15 : decode cX5_makeCandidate 15 = .ok (.aload_n 0, 1) := by decide +kernel
theorem dX5_makeCandidate_16 : decode cX5_makeCandidate 16 = .ok (.getfield 48, 3) := by decide +kernel
theorem dX5_makeCandidate_19 : decode cX5_makeCandidate 19 = .ok (.ifCond .ne 7, 3) := by decide +kernel
theorem dX5_makeCandidate_22 : decode cX5_makeCandidate 22 = .ok (.lconst 0, 1) := by decide +kernel
theorem dX5_makeCandidate_23 : decode cX5_makeCandidate 23 = .ok (.goto 9, 3) := by decide +kernel
theorem dX5_makeCandidate_26 : decode cX5_makeCandidate 26 = .ok (.aload_n 0, 1) := by decide +kernel
theorem dX5_makeCandidate_27 : decode cX5_makeCandidate 27 = .ok (.getfield 20, 3) := by decide +kernel
theorem dX5_makeCandidate_30 : decode cX5_makeCandidate 30 = .ok (.iload_n 1, 1) := by decide +kernel
theorem dX5_makeCandidate_31 : decode cX5_makeCandidate 31 = .ok (.laload, 1) := by decide +kernel
theorem dX5_makeCandidate_32 : decode cX5_makeCandidate 32 = .ok (.lastore, 1) := by decide +kernel
theorem dX5_makeCandidate_33 : decode cX5_makeCandidate 33 = .ok (.iinc 1 1, 3) := by decide +kernel
theorem dX5_makeCandidate_36 : decode cX5_makeCandidate 36 = .ok (.goto (-34), 3) := by decide +kernel
theorem dX5_makeCandidate_39 : decode cX5_makeCandidate 39 = .ok (.iconst 1, 1) := by decide +kernel
theorem dX5_makeCandidate_40 : decode cX5_makeCandidate 40 = .ok (.istore_n 1, 1) := by decide +kernel
theorem dX5_makeCandidate_41 : decode cX5_makeCandidate 41 = .ok (.iload_n 1, 1) := by decide +kernel
theorem dX5_makeCandidate_42 : decode cX5_makeCandidate 42 = .ok (.aload_n 0, 1) := by decide +kernel
theorem dX5_makeCandidate_43 : decode cX5_makeCandidate 43 = .ok (.getfield 48, 3) := by decide +kernel
theorem dX5_makeCandidate_46 : decode cX5_makeCandidate 46 = .ok (.if_icmp .ge 61, 3) := by decide +kernel
theorem dX5_makeCandidate_49 : decode cX5_makeCandidate 49 = .ok (.aload_n 0, 1) := by decide +kernel
theorem dX5_makeCandidate_50 : decode cX5_makeCandidate 50 = .ok (.invokevirtual 106, 3) := by decide +kernel
theorem dX5_makeCandidate_53 : decode cX5_makeCandidate 53 = .ok (.iconst 0, 1) := by decide +kernel
theorem dX5_makeCandidate_54 : decode cX5_makeCandidate 54 = .ok (.istore_n 2, 1) := by decide +kernel
theorem dX5_makeCandidate_55 : decode cX5_makeCandidate 55 = .ok (.iload_n 2, 1) := by decide +kernel
theorem dX5_makeCandidate_56 : decode cX5_makeCandidate 56 = .ok (.aload_n 0, 1) := by decide +kernel
theorem dX5_makeCandidate_57 : decode cX5_makeCandidate 57 = .ok (.getfield 63, 3) := by decide +kernel
theorem dX5_makeCandidate_60 : decode cX5_makeCandidate 60 = .ok (.if_icmp .ge 41, 3) := by decide +kernel
theorem dX5_makeCandidate_63 : decode cX5_makeCandidate 63 = .ok (.aload_n 0, 1) := by decide +kernel
theorem dX5_makeCandidate_64 : decode cX5_makeCandidate 64 = .ok (.getfield 30, 3) := by decide +kernel
theorem dX5_makeCandidate_67 : decode cX5_makeCandidate 67 = .ok (.iload_n 2, 1) := by decide +kernel
theorem dX5_makeCandidate_68 : decode cX5_makeCandidate 68 = .ok (.aload_n 0, 1) := by decide +kernel
theorem dX5_makeCandidate_69 : decode cX5_makeCandidate 69 = .ok (.getfield 30, 3) := by decide +kernel
theorem dX5_makeCandidate_72 : decode cX5_makeCandidate 72 = .ok (.iload_n 2, 1) := by decide +kernel
theorem dX5_makeCandidate_73 : decode cX5_makeCandidate 73 = .ok (.laload, 1) := by decide +kernel
theorem dX5_makeCandidate_74 : decode cX5_makeCandidate 74 = .ok (.aload_n 0, 1) := by decide +kernel
theorem dX5_makeCandidate_75 : decode cX5_makeCandidate 75 = .ok (.getfield 39, 3) := by decide +kernel
theorem dX5_makeCandidate_78 : decode cX5_makeCandidate 78 = .ok (.iload_n 1, 1) := by decide +kernel
theorem dX5_makeCandidate_79 : decode cX5_makeCandidate 79 = .ok (.laload, 1) := by decide +kernel
theorem dX5_makeCandidate_80 : decode cX5_makeCandidate 80 = .ok (.aload_n 0, 1) := by decide +kernel
theorem dX5_makeCandidate_81 : decode cX5_makeCandidate 81 = .ok (.getfield 20, 3) := by decide +kernel
theorem dX5_makeCandidate_84 : decode cX5_makeCandidate 84 = .ok (.iload_n 2, 1) := by decide +kernel
theorem dX5_makeCandidate_85 : decode cX5_makeCandidate 85 = .ok (.laload, 1) := by decide +kernel
theorem dX5_makeCandidate_86 : decode cX5_makeCandidate 86 = .ok (.lmul, 1) := by decide +kernel
theorem dX5_makeCandidate_87 : decode cX5_makeCandidate 87 = .ok (.ladd, 1) := by decide +kernel
theorem dX5_makeCandidate_88 : decode cX5_makeCandidate 88 = .ok (.aload_n 0, 1) := by decide +kernel
theorem dX5_makeCandidate_89 : decode cX5_makeCandidate 89 = .ok (.getfield 60, 3) := by decide +kernel
theorem dX5_makeCandidate_92 : decode cX5_makeCandidate 92 = .ok (.i2l, 1) := by decide +kernel
theorem dX5_makeCandidate_93 : decode cX5_makeCandidate 93 = .ok (.lrem, 1) := by decide +kernel
theorem dX5_makeCandidate_94 : decode cX5_makeCandidate 94 = .ok (.lastore, 1) := by decide +kernel
theorem dX5_makeCandidate_95 : decode cX5_makeCandidate 95 = .ok (.iinc 2 1, 3) := by decide +kernel
theorem dX5_makeCandidate_98 : decode cX5_makeCandidate 98 = .ok (.goto (-43), 3) := by decide +kernel
theorem dX5_makeCandidate_101 : decode cX5_makeCandidate 101 = .ok (.iinc 1 1, 3) := by decide +kernel
theorem dX5_makeCandidate_104 : decode cX5_makeCandidate 104 = .ok (.goto (-63), 3) := by decide +kernel
theorem dX5_makeCandidate_107 : decode cX5_makeCandidate 107 = .ok (.aload_n 0, 1) := by decide +kernel
theorem dX5_makeCandidate_108 : decode cX5_makeCandidate 108 = .ok (.getfield 48, 3) := by decide +kernel
theorem dX5_makeCandidate_111 : decode cX5_makeCandidate 111 = .ok (.ifCond .ne 7, 3) := by decide +kernel
theorem dX5_makeCandidate_114 : decode cX5_makeCandidate 114 = .ok (.lconst 0, 1) := by decide +kernel
theorem dX5_makeCandidate_115 : decode cX5_makeCandidate 115 = .ok (.goto 21, 3) := by decide +kernel
theorem dX5_makeCandidate_118 : decode cX5_makeCandidate 118 = .ok (.aload_n 0, 1) := by decide +kernel
theorem dX5_makeCandidate_119 : decode cX5_makeCandidate 119 = .ok (.aload_n 0, 1) := by decide +kernel
theorem dX5_makeCandidate_120 : decode cX5_makeCandidate 120 = .ok (.aload_n 0, 1) := by decide +kernel
theorem dX5_makeCandidate_121 : decode cX5_makeCandidate 121 = .ok (.getfield 39, 3) := by decide +kernel
theorem dX5_makeCandidate_124 : decode cX5_makeCandidate 124 = .ok (.aload_n 0, 1) := by decide +kernel
theorem dX5_makeCandidate_125 : decode cX5_makeCandidate 125 = .ok (.getfield 48, 3) := by decide +kernel
theorem dX5_makeCandidate_128 : decode cX5_makeCandidate 128 = .ok (.laload, 1) := by decide +kernel
theorem dX5_makeCandidate_129 : decode cX5_makeCandidate 129 = .ok (.lneg, 1) := by decide +kernel
theorem dX5_makeCandidate_130 : decode cX5_makeCandidate 130 = .ok (.invokevirtual 79, 3) := by decide +kernel
theorem dX5_makeCandidate_133 : decode cX5_makeCandidate 133 = .ok (.invokevirtual 109, 3) := by decide +kernel
theorem dX5_makeCandidate_136 : decode cX5_makeCandidate 136 = .ok (.lstore_n 1, 1) := by decide +kernel
theorem dX5_makeCandidate_137 : decode cX5_makeCandidate 137 = .ok (.iconst 0, 1) := by decide +kernel
theorem dX5_makeCandidate_138 : decode cX5_makeCandidate 138 = .ok (.istore_n 3, 1) := by decide +kernel
theorem dX5_makeCandidate_139 : decode cX5_makeCandidate 139 = .ok (.iload_n 3, 1) := by decide +kernel
theorem dX5_makeCandidate_140 : decode cX5_makeCandidate 140 = .ok (.aload_n 0, 1) := by decide +kernel
theorem dX5_makeCandidate_141 : decode cX5_makeCandidate 141 = .ok (.getfield 63, 3) := by decide +kernel
theorem dX5_makeCandidate_144 : decode cX5_makeCandidate 144 = .ok (.if_icmp .ge 29, 3) := by decide +kernel
theorem dX5_makeCandidate_147 : decode cX5_makeCandidate 147 = .ok (.aload_n 0, 1) := by decide +kernel
theorem dX5_makeCandidate_148 : decode cX5_makeCandidate 148 = .ok (.getfield 52, 3) := by decide +kernel
theorem dX5_makeCandidate_151 : decode cX5_makeCandidate 151 = .ok (.iload_n 3, 1) := by decide +kernel
theorem dX5_makeCandidate_152 : decode cX5_makeCandidate 152 = .ok (.aload_n 0, 1) := by decide +kernel
theorem dX5_makeCandidate_153 : decode cX5_makeCandidate 153 = .ok (.getfield 30, 3) := by decide +kernel
theorem dX5_makeCandidate_156 : decode cX5_makeCandidate 156 = .ok (.iload_n 3, 1) := by decide +kernel
theorem dX5_makeCandidate_157 : decode cX5_makeCandidate 157 = .ok (.laload, 1) := by decide +kernel
theorem dX5_makeCandidate_158 : decode cX5_makeCandidate 158 = .ok (.lload_n 1, 1) := by decide +kernel
theorem dX5_makeCandidate_159 : decode cX5_makeCandidate 159 = .ok (.lmul, 1) := by decide +kernel
theorem dX5_makeCandidate_160 : decode cX5_makeCandidate 160 = .ok (.aload_n 0, 1) := by decide +kernel
theorem dX5_makeCandidate_161 : decode cX5_makeCandidate 161 = .ok (.getfield 60, 3) := by decide +kernel
theorem dX5_makeCandidate_164 : decode cX5_makeCandidate 164 = .ok (.i2l, 1) := by decide +kernel
theorem dX5_makeCandidate_165 : decode cX5_makeCandidate 165 = .ok (.lrem, 1) := by decide +kernel
theorem dX5_makeCandidate_166 : decode cX5_makeCandidate 166 = .ok (.lastore, 1) := by decide +kernel
theorem dX5_makeCandidate_167 : decode cX5_makeCandidate 167 = .ok (.iinc 3 1, 3) := by decide +kernel
theorem dX5_makeCandidate_170 : decode cX5_makeCandidate 170 = .ok (.goto (-31), 3) := by decide +kernel
theorem dX5_makeCandidate_173 : decode cX5_makeCandidate 173 = .ok (.return_, 1) := by decide +kernel
set_option maxRecDepth 20000 in
theorem ggX5_attempt_X5_makeRow : GoodIn wsX5_attempt wsX5_makeRow := goodIn_r _ [9, 10, 11, 12, 13, 14, 15, 16, 17, 18, 19, 8, 20, 21, 22, 23, 24, 25, 26, 27, 28, 29, 30, 31, 32, 33, 34, 35, 63, 64, 65, 66, 67, 68, 69, 70, 71, 72, 73, 74, 75, 76, 77, 78, 79, 80, 81, 82, 83, 84] (by decide +kernel) (by decide +kernel)
set_option maxRecDepth 20000 in
theorem gX5_attempt_X5_makeRow : GoodIn wsX5_attempt (wsV RX5 115 RX5 yX5_makeRow wsX5_makeRow) := goodIn_app (goodIn_of _ (by decide +kernel)) ggX5_attempt_X5_makeRow
set_option maxRecDepth 20000 in
theorem ggX5_attempt_X5_recur : GoodIn wsX5_attempt wsX5_recur := goodIn_r _ [39, 4, 40, 10, 15, 14, 41, 3, 42, 43, 44, 8, 45, 46, 47, 48, 49, 50, 51, 52, 53, 63, 64, 65, 66, 67, 68, 69, 70, 71, 72, 73, 74, 75, 76, 77, 78, 79, 80, 81, 82, 83, 84] (by decide +kernel) (by decide +kernel)
set_option maxRecDepth 20000 in
theorem gX5_attempt_X5_recur : GoodIn wsX5_attempt (wsV RX5 118 RX5 yX5_recur wsX5_recur) := goodIn_app (goodIn_of _ (by decide +kernel)) ggX5_attempt_X5_recur
set_option maxRecDepth 20000 in
theorem ggX5_attempt_X5_makeCandidate : GoodIn wsX5_attempt wsX5_makeCandidate := goodIn_r _ [57, 10, 12, 3, 13, 4, 14, 58, 26, 27, 28, 8, 29, 30, 31, 32, 33, 34, 35, 50, 51, 52, 53, 42, 43, 44, 45, 46, 47, 48, 49, 63, 64, 65, 66, 67, 68, 69, 70, 71, 72, 73, 74, 75, 76, 77, 78, 79, 80, 81, 82, 83, 84] (by decide +kernel) (by decide +kernel)
set_option maxRecDepth 20000 in
theorem gX5_attempt_X5_makeCandidate : GoodIn wsX5_attempt (wsV RX5 121 RX5 yX5_makeCandidate wsX5_makeCandidate) := goodIn_app (goodIn_of _ (by decide +kernel)) ggX5_attempt_X5_makeCandidate
set_option maxRecDepth 20000 in
theorem ggX5_attempt_X5_holds : GoodIn wsX5_attempt wsX5_holds := goodIn_r _ [62, 10, 12, 58, 13, 26, 27, 28, 8, 29, 30, 31, 32, 33, 34, 35, 14, 63, 64, 65, 66, 67, 68, 69, 70, 71, 72, 73, 74, 75, 76, 77, 78, 79, 80, 81, 82, 83, 84] (by decide +kernel) (by decide +kernel)
set_option maxRecDepth 20000 in
theorem gX5_attempt_X5_holds : GoodIn wsX5_attempt (wsV RX5 124 RX5 yX5_holds wsX5_holds) := goodIn_app (goodIn_of _ (by decide +kernel)) ggX5_attempt_X5_holds
theorem dX5_attempt_0 : decode cX5_attempt 0 = .ok (.aload_n 0, 1) := by decide +kernel
theorem dX5_attempt_1 : decode cX5_attempt 1 = .ok (.dup, 1) := by decide +kernel
theorem dX5_attempt_2 : decode cX5_attempt 2 = .ok (.getfield 112, 3) := by decide +kernel
theorem dX5_attempt_5 : decode cX5_attempt 5 = .ok (.iconst 1, 1) := by decide +kernel
theorem dX5_attempt_6 : decode cX5_attempt 6 = .ok (.iadd, 1) := by decide +kernel
theorem dX5_attempt_7 : decode cX5_attempt 7 = .ok (.putfield 112, 3) := by decide +kernel
theorem dX5_attempt_10 : decode cX5_attempt 10 = .ok (.aload_n 0, 1) := by decide +kernel
theorem dX5_attempt_11 : decode cX5_attempt 11 = .ok (.iconst 0, 1) := by decide +kernel
theorem dX5_attempt_12 : decode cX5_attempt 12 = .ok (.putfield 69, 3) := by decide +kernel
theorem dX5_attempt_15 : decode cX5_attempt 15 = .ok (.aload_n 0, 1) := by decide +kernel
theorem dX5_attempt_16 : decode cX5_attempt 16 = .ok (.invokevirtual 115, 3) := by decide +kernel
theorem dX5_attempt_19 : decode cX5_attempt 19 = .ok (.aload_n 0, 1) := by decide +kernel
theorem dX5_attempt_20 : decode cX5_attempt 20 = .ok (.invokevirtual 118, 3) := by decide +kernel
theorem dX5_attempt_23 : decode cX5_attempt 23 = .ok (.aload_n 0, 1) := by decide +kernel
theorem dX5_attempt_24 : decode cX5_attempt 24 = .ok (.getfield 48, 3) := by decide +kernel
theorem dX5_attempt_27 : decode cX5_attempt 27 = .ok (.ifCond .le 19, 3) := by decide +kernel
theorem dX5_attempt_30 : decode cX5_attempt 30 = .ok (.aload_n 0, 1) := by decide +kernel
theorem dX5_attempt_31 : decode cX5_attempt 31 = .ok (.getfield 39, 3) := by decide +kernel
theorem dX5_attempt_34 : decode cX5_attempt 34 = .ok (.aload_n 0, 1) := by decide +kernel
theorem dX5_attempt_35 : decode cX5_attempt 35 = .ok (.getfield 48, 3) := by decide +kernel
theorem dX5_attempt_38 : decode cX5_attempt 38 = .ok (.laload, 1) := by decide +kernel
theorem dX5_attempt_39 : decode cX5_attempt 39 = .ok (.lconst 0, 1) := by decide +kernel
theorem dX5_attempt_40 : decode cX5_attempt 40 = .ok (.lcmp, 1) := by decide +kernel
theorem dX5_attempt_41 : decode cX5_attempt 41 = .ok (.ifCond .ne 5, 3) := by decide +kernel
theorem dX5_attempt_44 : decode cX5_attempt 44 = .ok (.iconst 3, 1) := by decide +kernel
theorem dX5_attempt_45 : decode cX5_attempt 45 = .ok (.ireturn, 1) := by decide +kernel
theorem dX5_attempt_46 : decode cX5_attempt 46 = .ok (.aload_n 0, 1) := by decide +kernel
theorem dX5_attempt_47 : decode cX5_attempt 47 = .ok (.invokevirtual 121, 3) := by decide +kernel
theorem dX5_attempt_50 : decode cX5_attempt 50 = .ok (.aload_n 0, 1) := by decide +kernel
theorem dX5_attempt_51 : decode cX5_attempt 51 = .ok (.aload_n 0, 1) := by decide +kernel
theorem dX5_attempt_52 : decode cX5_attempt 52 = .ok (.invokevirtual 124, 3) := by decide +kernel
theorem dX5_attempt_55 : decode cX5_attempt 55 = .ok (.putfield 69, 3) := by decide +kernel
theorem dX5_attempt_58 : decode cX5_attempt 58 = .ok (.aload_n 0, 1) := by decide +kernel
theorem dX5_attempt_59 : decode cX5_attempt 59 = .ok (.getfield 69, 3) := by decide +kernel
theorem dX5_attempt_62 : decode cX5_attempt 62 = .ok (.ifCond .eq 7, 3) := by decide +kernel
theorem dX5_attempt_65 : decode cX5_attempt 65 = .ok (.iconst 0, 1) := by decide +kernel
theorem dX5_attempt_66 : decode cX5_attempt 66 = .ok (.goto 4, 3) := by decide +kernel
theorem dX5_attempt_69 : decode cX5_attempt 69 = .ok (.iconst 4, 1) := by decide +kernel
theorem dX5_attempt_70 : decode cX5_attempt 70 = .ok (.ireturn, 1) := by decide +kernel
set_option maxRecDepth 20000 in
theorem ggX5_solve_X5_attempt : GoodIn wsX5_solve wsX5_attempt := goodIn_r _ [5, 6, 7, 8, 9, 10, 11, 12, 4, 13, 14, 15, 16, 17, 18, 19, 20, 21, 22, 23, 24, 25, 26, 27, 28, 29, 30, 31, 32, 33, 34, 35, 36, 37, 38, 39, 40, 41, 42, 43, 44, 45, 46, 47, 48, 49, 50, 51, 52, 53, 54, 55, 56, 57, 58, 59, 60, 61, 62, 63, 64, 65, 66, 67, 68, 69, 70, 71, 72, 73, 74, 75, 76, 77, 78, 79, 80, 81, 82, 83, 84, 85, 86, 87, 88] (by decide +kernel) (by decide +kernel)
set_option maxRecDepth 20000 in
theorem gX5_solve_X5_attempt : GoodIn wsX5_solve (wsV RX5 128 RX5 yX5_attempt wsX5_attempt) := goodIn_app (goodIn_of _ (by decide +kernel)) ggX5_solve_X5_attempt
theorem dX5_solve_0 : decode cX5_solve 0 = .ok (.iload_n 1, 1) := by decide +kernel
theorem dX5_solve_1 : decode cX5_solve 1 = .ok (.iconst 1, 1) := by decide +kernel
theorem dX5_solve_2 : decode cX5_solve 2 = .ok (.if_icmp .lt 9, 3) := by decide +kernel
theorem dX5_solve_5 : decode cX5_solve 5 = .ok (.iload_n 1, 1) := by decide +kernel
theorem dX5_solve_6 : decode cX5_solve 6 = .ok (.bipush 50, 2) := by decide +kernel
theorem dX5_solve_8 : decode cX5_solve 8 = .ok (.if_icmp .le 5, 3) := by decide +kernel
theorem dX5_solve_11 : decode cX5_solve 11 = .ok (.iconst 5, 1) := by decide +kernel
theorem dX5_solve_12 : decode cX5_solve 12 = .ok (.ireturn, 1) := by decide +kernel
theorem dX5_solve_13 : decode cX5_solve 13 = .ok (.aload_n 0, 1) := by decide +kernel
theorem dX5_solve_14 : decode cX5_solve 14 = .ok (.invokevirtual 128, 3) := by decide +kernel
theorem dX5_solve_17 : decode cX5_solve 17 = .ok (.istore_n 2, 1) := by decide +kernel
theorem dX5_solve_18 : decode cX5_solve 18 = .ok (.iconst 1, 1) := by decide +kernel
theorem dX5_solve_19 : decode cX5_solve 19 = .ok (.istore_n 3, 1) := by decide +kernel
theorem dX5_solve_20 : decode cX5_solve 20 = .ok (.iload_n 3, 1) := by decide +kernel
theorem dX5_solve_21 : decode cX5_solve 21 = .ok (.iload_n 1, 1) := by decide +kernel
theorem dX5_solve_22 : decode cX5_solve 22 = .ok (.if_icmp .ge 18, 3) := by decide +kernel
theorem dX5_solve_25 : decode cX5_solve 25 = .ok (.iload_n 2, 1) := by decide +kernel
theorem dX5_solve_26 : decode cX5_solve 26 = .ok (.ifCond .eq 14, 3) := by decide +kernel
theorem dX5_solve_29 : decode cX5_solve 29 = .ok (.aload_n 0, 1) := by decide +kernel
theorem dX5_solve_30 : decode cX5_solve 30 = .ok (.invokevirtual 128, 3) := by decide +kernel
theorem dX5_solve_33 : decode cX5_solve 33 = .ok (.istore_n 2, 1) := by decide +kernel
theorem dX5_solve_34 : decode cX5_solve 34 = .ok (.iinc 3 1, 3) := by decide +kernel
theorem dX5_solve_37 : decode cX5_solve 37 = .ok (.goto (-17), 3) := by decide +kernel
theorem dX5_solve_40 : decode cX5_solve 40 = .ok (.iload_n 2, 1) := by decide +kernel
theorem dX5_solve_41 : decode cX5_solve 41 = .ok (.ireturn, 1) := by decide +kernel
theorem dX5_solution_0 : decode cX5_solution 0 = .ok (.aload_n 0, 1) := by decide +kernel
theorem dX5_solution_1 : decode cX5_solution 1 = .ok (.getfield 69, 3) := by decide +kernel
theorem dX5_solution_4 : decode cX5_solution 4 = .ok (.ifCond .eq 25, 3) := by decide +kernel
theorem dX5_solution_7 : decode cX5_solution 7 = .ok (.iload_n 1, 1) := by decide +kernel
theorem dX5_solution_8 : decode cX5_solution 8 = .ok (.ifCond .lt 21, 3) := by decide +kernel
theorem dX5_solution_11 : decode cX5_solution 11 = .ok (.iload_n 1, 1) := by decide +kernel
theorem dX5_solution_12 : decode cX5_solution 12 = .ok (.aload_n 0, 1) := by decide +kernel
theorem dX5_solution_13 : decode cX5_solution 13 = .ok (.getfield 63, 3) := by decide +kernel
theorem dX5_solution_16 : decode cX5_solution 16 = .ok (.if_icmp .ge 13, 3) := by decide +kernel
theorem dX5_solution_19 : decode cX5_solution 19 = .ok (.aload_n 0, 1) := by decide +kernel
theorem dX5_solution_20 : decode cX5_solution 20 = .ok (.getfield 52, 3) := by decide +kernel
theorem dX5_solution_23 : decode cX5_solution 23 = .ok (.iload_n 1, 1) := by decide +kernel
theorem dX5_solution_24 : decode cX5_solution 24 = .ok (.laload, 1) := by decide +kernel
theorem dX5_solution_25 : decode cX5_solution 25 = .ok (.l2i, 1) := by decide +kernel
theorem dX5_solution_26 : decode cX5_solution 26 = .ok (.goto 4, 3) := by decide +kernel
theorem dX5_solution_29 : decode cX5_solution 29 = .ok (.iconst (-1), 1) := by decide +kernel
theorem dX5_solution_30 : decode cX5_solution 30 = .ok (.ireturn, 1) := by decide +kernel
theorem dX5_degree_0 : decode cX5_degree 0 = .ok (.aload_n 0, 1) := by decide +kernel
theorem dX5_degree_1 : decode cX5_degree 1 = .ok (.getfield 48, 3) := by decide +kernel
theorem dX5_degree_4 : decode cX5_degree 4 = .ok (.ireturn, 1) := by decide +kernel
theorem dX5_coefficient_0 : decode cX5_coefficient 0 = .ok (.aload_n 0, 1) := by decide +kernel
theorem dX5_coefficient_1 : decode cX5_coefficient 1 = .ok (.getfield 48, 3) := by decide +kernel
theorem dX5_coefficient_4 : decode cX5_coefficient 4 = .ok (.ifCond .lt 15, 3) := by decide +kernel
theorem dX5_coefficient_7 : decode cX5_coefficient 7 = .ok (.iload_n 1, 1) := by decide +kernel
theorem dX5_coefficient_8 : decode cX5_coefficient 8 = .ok (.ifCond .lt 11, 3) := by decide +kernel
theorem dX5_coefficient_11 : decode cX5_coefficient 11 = .ok (.iload_n 1, 1) := by decide +kernel
theorem dX5_coefficient_12 : decode cX5_coefficient 12 = .ok (.aload_n 0, 1) := by decide +kernel
theorem dX5_coefficient_13 : decode cX5_coefficient 13 = .ok (.getfield 48, 3) := by decide +kernel
theorem dX5_coefficient_16 : decode cX5_coefficient 16 = .ok (.if_icmp .le 7, 3) := by decide +kernel
theorem dX5_coefficient_19 : decode cX5_coefficient 19 = .ok (.iconst (-1), 1) := by decide +kernel
theorem dX5_coefficient_20 : decode cX5_coefficient 20 = .ok (.goto 15, 3) := by decide +kernel
theorem dX5_coefficient_23 : decode cX5_coefficient 23 = .ok (.aload_n 0, 1) := by decide +kernel
theorem dX5_coefficient_24 : decode cX5_coefficient 24 = .ok (.getfield 39, 3) := by decide +kernel
theorem dX5_coefficient_27 : decode cX5_coefficient 27 = .ok (.aload_n 0, 1) := by decide +kernel
theorem dX5_coefficient_28 : decode cX5_coefficient 28 = .ok (.getfield 48, 3) := by decide +kernel
theorem dX5_coefficient_31 : decode cX5_coefficient 31 = .ok (.iload_n 1, 1) := by decide +kernel
theorem dX5_coefficient_32 : decode cX5_coefficient 32 = .ok (.isub, 1) := by decide +kernel
theorem dX5_coefficient_33 : decode cX5_coefficient 33 = .ok (.laload, 1) := by decide +kernel
theorem dX5_coefficient_34 : decode cX5_coefficient 34 = .ok (.l2i, 1) := by decide +kernel
theorem dX5_coefficient_35 : decode cX5_coefficient 35 = .ok (.ireturn, 1) := by decide +kernel
theorem dX5_number_0 : decode cX5_number 0 = .ok (.aload_n 0, 1) := by decide +kernel
theorem dX5_number_1 : decode cX5_number 1 = .ok (.getfield 73, 3) := by decide +kernel
theorem dX5_number_4 : decode cX5_number 4 = .ok (.ifCond .eq 27, 3) := by decide +kernel
theorem dX5_number_7 : decode cX5_number 7 = .ok (.iload_n 1, 1) := by decide +kernel
theorem dX5_number_8 : decode cX5_number 8 = .ok (.ifCond .lt 23, 3) := by decide +kernel
theorem dX5_number_11 : decode cX5_number 11 = .ok (.iload_n 1, 1) := by decide +kernel
theorem dX5_number_12 : decode cX5_number 12 = .ok (.iconst 2, 1) := by decide +kernel
theorem dX5_number_13 : decode cX5_number 13 = .ok (.aload_n 0, 1) := by decide +kernel
theorem dX5_number_14 : decode cX5_number 14 = .ok (.getfield 63, 3) := by decide +kernel
theorem dX5_number_17 : decode cX5_number 17 = .ok (.imul, 1) := by decide +kernel
theorem dX5_number_18 : decode cX5_number 18 = .ok (.if_icmp .ge 13, 3) := by decide +kernel
theorem dX5_number_21 : decode cX5_number 21 = .ok (.aload_n 0, 1) := by decide +kernel
theorem dX5_number_22 : decode cX5_number 22 = .ok (.getfield 36, 3) := by decide +kernel
theorem dX5_number_25 : decode cX5_number 25 = .ok (.iload_n 1, 1) := by decide +kernel
theorem dX5_number_26 : decode cX5_number 26 = .ok (.laload, 1) := by decide +kernel
theorem dX5_number_27 : decode cX5_number 27 = .ok (.l2i, 1) := by decide +kernel
theorem dX5_number_28 : decode cX5_number 28 = .ok (.goto 4, 3) := by decide +kernel
theorem dX5_number_31 : decode cX5_number 31 = .ok (.iconst (-1), 1) := by decide +kernel
theorem dX5_number_32 : decode cX5_number 32 = .ok (.ireturn, 1) := by decide +kernel
set_option maxRecDepth 20000 in
theorem ggX5_verify_X5_holds : GoodIn wsX5_verify wsX5_holds := goodIn_r _ [6, 7, 8, 9, 10, 11, 12, 13, 5, 14, 15, 16, 17, 18, 19, 20, 21, 22, 23, 24, 25, 26, 27, 28, 29, 30, 31, 32, 33, 34, 35, 36, 37, 38, 39, 40, 41, 42, 43] (by decide +kernel) (by decide +kernel)
set_option maxRecDepth 20000 in
theorem gX5_verify_X5_holds : GoodIn wsX5_verify (wsV RX5 124 RX5 yX5_holds wsX5_holds) := goodIn_app (goodIn_of _ (by decide +kernel)) ggX5_verify_X5_holds
theorem dX5_verify_0 : decode cX5_verify 0 = .ok (.aload_n 0, 1) := by decide +kernel
theorem dX5_verify_1 : decode cX5_verify 1 = .ok (.getfield 69, 3) := by decide +kernel
theorem dX5_verify_4 : decode cX5_verify 4 = .ok (.ifCond .eq 14, 3) := by decide +kernel
theorem dX5_verify_7 : decode cX5_verify 7 = .ok (.aload_n 0, 1) := by decide +kernel
theorem dX5_verify_8 : decode cX5_verify 8 = .ok (.invokevirtual 124, 3) := by decide +kernel
theorem dX5_verify_11 : decode cX5_verify 11 = .ok (.ifCond .eq 7, 3) := by decide +kernel
theorem dX5_verify_14 : decode cX5_verify 14 = .ok (.iconst 1, 1) := by decide +kernel
theorem dX5_verify_15 : decode cX5_verify 15 = .ok (.goto 4, 3) := by decide +kernel
theorem dX5_verify_18 : decode cX5_verify 18 = .ok (.iconst 0, 1) := by decide +kernel
theorem dX5_verify_19 : decode cX5_verify 19 = .ok (.ireturn, 1) := by decide +kernel
theorem dX5_products_0 : decode cX5_products 0 = .ok (.aload_n 0, 1) := by decide +kernel
theorem dX5_products_1 : decode cX5_products 1 = .ok (.getfield 95, 3) := by decide +kernel
theorem dX5_products_4 : decode cX5_products 4 = .ok (.ireturn, 1) := by decide +kernel
theorem dX5_count_0 : decode cX5_count 0 = .ok (.iload_n 1, 1) := by decide +kernel
theorem dX5_count_1 : decode cX5_count 1 = .ok (.tableswitch 61 0 4 #[35, 40, 45, 50, 56], 35) := by decide +kernel
theorem dX5_count_36 : decode cX5_count 36 = .ok (.aload_n 0, 1) := by decide +kernel
theorem dX5_count_37 : decode cX5_count 37 = .ok (.getfield 60, 3) := by decide +kernel
theorem dX5_count_40 : decode cX5_count 40 = .ok (.ireturn, 1) := by decide +kernel
theorem dX5_count_41 : decode cX5_count 41 = .ok (.aload_n 0, 1) := by decide +kernel
theorem dX5_count_42 : decode cX5_count 42 = .ok (.getfield 63, 3) := by decide +kernel
theorem dX5_count_45 : decode cX5_count 45 = .ok (.ireturn, 1) := by decide +kernel
theorem dX5_count_46 : decode cX5_count 46 = .ok (.aload_n 0, 1) := by decide +kernel
theorem dX5_count_47 : decode cX5_count 47 = .ok (.getfield 76, 3) := by decide +kernel
theorem dX5_count_50 : decode cX5_count 50 = .ok (.ireturn, 1) := by decide +kernel
theorem dX5_count_51 : decode cX5_count 51 = .ok (.aload_n 0, 1) := by decide +kernel
theorem dX5_count_52 : decode cX5_count 52 = .ok (.getfield 23, 3) := by decide +kernel
theorem dX5_count_55 : decode cX5_count 55 = .ok (.l2i, 1) := by decide +kernel
theorem dX5_count_56 : decode cX5_count 56 = .ok (.ireturn, 1) := by decide +kernel
theorem dX5_count_57 : decode cX5_count 57 = .ok (.aload_n 0, 1) := by decide +kernel
theorem dX5_count_58 : decode cX5_count 58 = .ok (.getfield 112, 3) := by decide +kernel
theorem dX5_count_61 : decode cX5_count 61 = .ok (.ireturn, 1) := by decide +kernel
theorem dX5_count_62 : decode cX5_count 62 = .ok (.iconst (-1), 1) := by decide +kernel
theorem dX5_count_63 : decode cX5_count 63 = .ok (.ireturn, 1) := by decide +kernel
theorem dJ9_max_7cf53_0 : decode cJ9_max_7cf53 0 = .ok (.iload_n 0, 1) := by decide +kernel
theorem dJ9_max_7cf53_1 : decode cJ9_max_7cf53 1 = .ok (.iload_n 1, 1) := by decide +kernel
theorem dJ9_max_7cf53_2 : decode cJ9_max_7cf53 2 = .ok (.if_icmp .lt 7, 3) := by decide +kernel
theorem dJ9_max_7cf53_5 : decode cJ9_max_7cf53 5 = .ok (.iload_n 0, 1) := by decide +kernel
theorem dJ9_max_7cf53_6 : decode cJ9_max_7cf53 6 = .ok (.goto 4, 3) := by decide +kernel
theorem dJ9_max_7cf53_9 : decode cJ9_max_7cf53 9 = .ok (.iload_n 1, 1) := by decide +kernel
theorem dJ9_max_7cf53_10 : decode cJ9_max_7cf53 10 = .ok (.ireturn, 1) := by decide +kernel
theorem dJ9_min_7cf53_0 : decode cJ9_min_7cf53 0 = .ok (.iload_n 0, 1) := by decide +kernel
theorem dJ9_min_7cf53_1 : decode cJ9_min_7cf53 1 = .ok (.iload_n 1, 1) := by decide +kernel
theorem dJ9_min_7cf53_2 : decode cJ9_min_7cf53 2 = .ok (.if_icmp .gt 7, 3) := by decide +kernel
theorem dJ9_min_7cf53_5 : decode cJ9_min_7cf53 5 = .ok (.iload_n 0, 1) := by decide +kernel
theorem dJ9_min_7cf53_6 : decode cJ9_min_7cf53 6 = .ok (.goto 4, 3) := by decide +kernel
theorem dJ9_min_7cf53_9 : decode cJ9_min_7cf53 9 = .ok (.iload_n 1, 1) := by decide +kernel
theorem dJ9_min_7cf53_10 : decode cJ9_min_7cf53 10 = .ok (.ireturn, 1) := by decide +kernel
theorem dJ7_fill_53178_0 : decode cJ7_fill_53178 0 = .ok (.iconst 0, 1) := by decide +kernel
theorem dJ7_fill_53178_1 : decode cJ7_fill_53178 1 = .ok (.istore_n 2, 1) := by decide +kernel
theorem dJ7_fill_53178_2 : decode cJ7_fill_53178 2 = .ok (.aload_n 0, 1) := by decide +kernel
theorem dJ7_fill_53178_3 : decode cJ7_fill_53178 3 = .ok (.arraylength, 1) := by decide +kernel
theorem dJ7_fill_53178_4 : decode cJ7_fill_53178 4 = .ok (.istore_n 3, 1) := by decide +kernel
theorem dJ7_fill_53178_5 : decode cJ7_fill_53178 5 = .ok (.iload_n 2, 1) := by decide +kernel
theorem dJ7_fill_53178_6 : decode cJ7_fill_53178 6 = .ok (.iload_n 3, 1) := by decide +kernel
theorem dJ7_fill_53178_7 : decode cJ7_fill_53178 7 = .ok (.if_icmp .ge 13, 3) := by decide +kernel
theorem dJ7_fill_53178_10 : decode cJ7_fill_53178 10 = .ok (.aload_n 0, 1) := by decide +kernel
theorem dJ7_fill_53178_11 : decode cJ7_fill_53178 11 = .ok (.iload_n 2, 1) := by decide +kernel
theorem dJ7_fill_53178_12 : decode cJ7_fill_53178 12 = .ok (.iload_n 1, 1) := by decide +kernel
theorem dJ7_fill_53178_13 : decode cJ7_fill_53178 13 = .ok (.iastore, 1) := by decide +kernel
theorem dJ7_fill_53178_14 : decode cJ7_fill_53178 14 = .ok (.iinc 2 1, 3) := by decide +kernel
theorem dJ7_fill_53178_17 : decode cJ7_fill_53178 17 = .ok (.goto (-12), 3) := by decide +kernel
theorem dJ7_fill_53178_20 : decode cJ7_fill_53178 20 = .ok (.return_, 1) := by decide +kernel
theorem dL_cell_0 : decode cL_cell 0 = .ok (.iload_n 1, 1) := by decide +kernel
theorem dL_cell_1 : decode cL_cell 1 = .ok (.aload_n 0, 1) := by decide +kernel
theorem dL_cell_2 : decode cL_cell 2 = .ok (.arraylength, 1) := by decide +kernel
theorem dL_cell_3 : decode cL_cell 3 = .ok (.if_icmp .ge 9, 3) := by decide +kernel
theorem dL_cell_6 : decode cL_cell 6 = .ok (.aload_n 0, 1) := by decide +kernel
theorem dL_cell_7 : decode cL_cell 7 = .ok (.iload_n 1, 1) := by decide +kernel
theorem dL_cell_8 : decode cL_cell 8 = .ok (.iaload, 1) := by decide +kernel
theorem dL_cell_9 : decode cL_cell 9 = .ok (.goto 4, 3) := by decide +kernel
theorem dL_cell_12 : decode cL_cell 12 = .ok (.iconst 0, 1) := by decide +kernel
theorem dL_cell_13 : decode cL_cell 13 = .ok (.ireturn, 1) := by decide +kernel
set_option maxRecDepth 20000 in
theorem ggL_law_L_cell : GoodIn wsL_law wsL_cell := goodIn_r _ [9] (by decide +kernel) (by decide +kernel)
set_option maxRecDepth 20000 in
theorem gL_law_L_cell : GoodIn wsL_law (va_wsS RL 9 yL_cell wsL_cell) := goodIn_app (goodIn_of _ (by decide +kernel)) ggL_law_L_cell
set_option maxRecDepth 20000 in
theorem ggL_law_X4_init : GoodIn wsL_law wsX4_init := goodIn_r _ [12, 13, 14, 15, 16, 17, 18, 19, 20, 21, 22, 23, 24, 25, 26, 27, 28, 29, 30, 31, 32, 33, 34, 35, 36, 37, 38, 39, 40, 41, 2, 42, 43, 44, 45, 46, 47, 48, 49, 50, 51, 52, 53, 54, 55, 56, 57, 58, 59, 60, 61, 62, 63, 64, 65, 66, 67, 68, 69, 70, 71, 72, 73, 74, 75, 76, 77, 78, 79, 80, 81, 82, 83, 384, 385, 386, 387, 388, 389, 390, 391, 392, 393, 394, 395, 396, 419, 420, 421, 422, 423, 424, 425, 426, 427, 428, 429, 430, 431, 432, 433, 434] (by decide +kernel) (by decide +kernel)
set_option maxRecDepth 20000 in
theorem gL_law_X4_init : GoodIn wsL_law (wsX4_init) := ggL_law_X4_init
set_option maxRecDepth 20000 in
theorem ggL_law_X5_init : GoodIn wsL_law wsX5_init := goodIn_r _ [86, 87, 14, 15, 34, 88, 89, 90, 91, 92, 93, 94, 95, 96, 97, 98, 99, 100, 101, 102, 103, 104, 105, 106, 107, 108, 5, 109, 397, 398, 399, 400, 401, 402, 403, 404, 405, 406, 407, 408, 409, 410, 411, 412, 413, 414, 415, 416, 417, 418] (by decide +kernel) (by decide +kernel)
set_option maxRecDepth 20000 in
theorem gL_law_X5_init : GoodIn wsL_law (wsX5_init) := ggL_law_X5_init
set_option maxRecDepth 20000 in
theorem ggL_law_X4_entry : GoodIn wsL_law wsX4_entry := goodIn_r _ [113, 25, 21, 114, 115, 116, 2, 117, 16, 118, 119, 120, 24, 121, 122, 69, 123, 124, 125, 19, 126, 61, 127, 128, 129, 130, 67, 68, 131, 132, 133, 134, 135, 136, 384, 385, 386, 387, 388, 389, 390, 391, 392, 393, 394, 395, 396, 420, 421, 422, 423, 424, 425, 426, 419] (by decide +kernel) (by decide +kernel)
set_option maxRecDepth 20000 in
theorem gL_law_X4_entry : GoodIn wsL_law (wsV RL 21 RX4 yX4_entry wsX4_entry) := goodIn_app (goodIn_of _ (by decide +kernel)) ggL_law_X4_entry
set_option maxRecDepth 20000 in
theorem ggL_law_X5_entry : GoodIn wsL_law wsX5_entry := goodIn_r _ [140, 105, 141, 106, 88, 89, 91, 142, 143, 144, 5, 145, 104, 146, 147, 148, 149, 150, 151, 101, 397, 398, 399, 400, 401, 402, 403, 404, 405, 406, 407, 408, 409, 410, 411, 412, 413, 414, 415, 416, 417, 418] (by decide +kernel) (by decide +kernel)
set_option maxRecDepth 20000 in
theorem gL_law_X5_entry : GoodIn wsL_law (wsV RL 25 RX5 yX5_entry wsX5_entry) := goodIn_app (goodIn_of _ (by decide +kernel)) ggL_law_X5_entry
set_option maxRecDepth 20000 in
theorem ggL_law_X4_side : GoodIn wsL_law wsX4_side := goodIn_r _ [155, 35, 21, 114, 115, 116, 2, 117, 16, 123, 124, 125, 19, 126, 61, 131, 132, 133, 134, 135, 136, 384, 385, 386, 387, 388, 389, 390, 391, 392, 393, 394, 395, 396, 419] (by decide +kernel) (by decide +kernel)
set_option maxRecDepth 20000 in
theorem gL_law_X4_side : GoodIn wsL_law (wsV RL 26 RX4 yX4_side wsX4_side) := goodIn_app (goodIn_of _ (by decide +kernel)) ggL_law_X4_side
set_option maxRecDepth 20000 in
theorem ggL_law_X5_side : GoodIn wsL_law wsX5_side := goodIn_r _ [159, 105, 92, 142, 143, 144, 5, 145, 104, 146, 147, 148, 149, 150, 151, 101, 397, 398, 399, 400, 401, 402, 403, 404, 405, 406, 407, 408, 409, 410, 411, 412, 413, 414, 415, 416, 417, 418] (by decide +kernel) (by decide +kernel)
set_option maxRecDepth 20000 in
theorem gL_law_X5_side : GoodIn wsL_law (wsV RL 30 RX5 yX5_side wsX5_side) := goodIn_app (goodIn_of _ (by decide +kernel)) ggL_law_X5_side
set_option maxRecDepth 20000 in
theorem ggL_law_X4_seed : GoodIn wsL_law wsX4_seed := goodIn_r _ [163, 29, 164, 165, 166, 28, 167, 168, 74, 384, 385, 386, 387, 388, 389, 390, 391, 392, 393, 394, 395, 396, 427] (by decide +kernel) (by decide +kernel)
set_option maxRecDepth 20000 in
theorem gL_law_X4_seed : GoodIn wsL_law (wsV RL 31 RX4 yX4_seed wsX4_seed) := goodIn_app (goodIn_of _ (by decide +kernel)) ggL_law_X4_seed
set_option maxRecDepth 20000 in
theorem ggL_law_X5_seed : GoodIn wsL_law wsX5_seed := goodIn_r _ [172, 173, 93, 397, 398, 399, 400, 401, 402, 403, 404, 405, 406, 407, 408, 409, 410, 411, 412, 413, 414, 415, 416, 417, 418] (by decide +kernel) (by decide +kernel)
set_option maxRecDepth 20000 in
theorem gL_law_X5_seed : GoodIn wsL_law (wsV RL 35 RX5 yX5_seed wsX5_seed) := goodIn_app (goodIn_of _ (by decide +kernel)) ggL_law_X5_seed
set_option maxRecDepth 20000 in
theorem ggL_law_X4_attempt : GoodIn wsL_law wsX4_attempt := goodIn_r _ [177, 178, 136, 33, 38, 135, 179, 180, 181, 182, 2, 183, 16, 36, 21, 29, 184, 185, 186, 28, 187, 188, 74, 168, 189, 123, 124, 125, 19, 126, 61, 190, 191, 192, 193, 35, 37, 194, 195, 196, 197, 25, 198, 199, 200, 201, 202, 203, 204, 205, 206, 207, 208, 24, 209, 210, 70, 122, 67, 66, 69, 68, 211, 212, 213, 214, 215, 216, 217, 218, 219, 32, 220, 81, 82, 221, 222, 223, 224, 225, 226, 227, 228, 79, 83, 229, 230, 231, 232, 233, 234, 235, 236, 237, 238, 239, 240, 241, 242, 243, 244, 245, 246, 247, 248, 249, 250, 251, 252, 253, 254, 255, 256, 257, 258, 259, 39, 260, 261, 262, 263, 264, 265, 266, 267, 268, 269, 270, 271, 384, 385, 386, 387, 388, 389, 390, 391, 392, 393, 394, 395, 396, 428, 429, 430, 431, 432, 433, 434, 427, 419, 420, 421, 422, 423, 424, 425, 426] (by decide +kernel) (by decide +kernel)
set_option maxRecDepth 20000 in
theorem gL_law_X4_attempt : GoodIn wsL_law (wsV RL 36 RX4 yX4_attempt wsX4_attempt) := goodIn_app (goodIn_of _ (by decide +kernel)) ggL_law_X4_attempt
set_option maxRecDepth 20000 in
theorem ggL_law_X5_attempt : GoodIn wsL_law wsX5_attempt := goodIn_r _ [275, 276, 150, 101, 98, 277, 278, 279, 5, 280, 105, 94, 95, 92, 104, 97, 151, 281, 282, 283, 284, 285, 93, 286, 287, 288, 289, 290, 291, 292, 293, 96, 141, 88, 91, 89, 294, 295, 296, 297, 99, 100, 298, 299, 300, 301, 302, 303, 304, 305, 142, 143, 144, 145, 306, 307, 308, 309, 102, 310, 311, 312, 313, 397, 398, 399, 400, 401, 402, 403, 404, 405, 406, 407, 408, 409, 410, 411, 412, 413, 414, 415, 416, 417, 418] (by decide +kernel) (by decide +kernel)
set_option maxRecDepth 20000 in
theorem gL_law_X5_attempt : GoodIn wsL_law (wsV RL 40 RX5 yX5_attempt wsX5_attempt) := goodIn_app (goodIn_of _ (by decide +kernel)) ggL_law_X5_attempt
set_option maxRecDepth 20000 in
theorem ggL_law_X4_solve : GoodIn wsL_law wsX4_solve := goodIn_r _ [317, 318, 175, 176, 2, 177, 178, 136, 33, 38, 135, 179, 180, 181, 182, 183, 16, 36, 21, 29, 184, 185, 186, 28, 187, 188, 74, 168, 189, 123, 124, 125, 19, 126, 61, 190, 191, 192, 193, 35, 37, 194, 195, 196, 197, 25, 198, 199, 200, 201, 202, 203, 204, 205, 206, 207, 208, 24, 209, 210, 70, 122, 67, 66, 69, 68, 211, 212, 213, 214, 215, 216, 217, 218, 219, 32, 220, 81, 82, 221, 222, 223, 224, 225, 226, 227, 228, 79, 83, 229, 230, 231, 232, 233, 234, 235, 236, 237, 238, 239, 240, 241, 242, 243, 244, 245, 246, 247, 248, 249, 250, 251, 252, 253, 254, 255, 256, 257, 258, 259, 39, 260, 261, 262, 263, 264, 265, 266, 267, 268, 269, 270, 271, 384, 385, 386, 387, 388, 389, 390, 391, 392, 393, 394, 395, 396, 428, 429, 430, 431, 432, 433, 434, 427, 419, 420, 421, 422, 423, 424, 425, 426] (by decide +kernel) (by decide +kernel)
set_option maxRecDepth 20000 in
theorem gL_law_X4_solve : GoodIn wsL_law (wsV RL 41 RX4 yX4_solve wsX4_solve) := goodIn_app (goodIn_of _ (by decide +kernel)) ggL_law_X4_solve
set_option maxRecDepth 20000 in
theorem ggL_law_X5_solve : GoodIn wsL_law wsX5_solve := goodIn_r _ [322, 323, 273, 274, 5, 275, 276, 150, 101, 98, 277, 278, 279, 280, 105, 94, 95, 92, 104, 97, 151, 281, 282, 283, 284, 285, 93, 286, 287, 288, 289, 290, 291, 292, 293, 96, 141, 88, 91, 89, 294, 295, 296, 297, 99, 100, 298, 299, 300, 301, 302, 303, 304, 305, 142, 143, 144, 145, 306, 307, 308, 309, 102, 310, 311, 312, 313, 397, 398, 399, 400, 401, 402, 403, 404, 405, 406, 407, 408, 409, 410, 411, 412, 413, 414, 415, 416, 417, 418] (by decide +kernel) (by decide +kernel)
set_option maxRecDepth 20000 in
theorem gL_law_X5_solve : GoodIn wsL_law (wsV RL 45 RX5 yX5_solve wsX5_solve) := goodIn_app (goodIn_of _ (by decide +kernel)) ggL_law_X5_solve
set_option maxRecDepth 20000 in
theorem ggL_law_X4_solution : GoodIn wsL_law wsX4_solution := goodIn_r _ [327, 136, 39, 114, 115, 116, 2, 117, 16, 384, 385, 386, 387, 388, 389, 390, 391, 392, 393, 394, 395, 396] (by decide +kernel) (by decide +kernel)
set_option maxRecDepth 20000 in
theorem gL_law_X4_solution : GoodIn wsL_law (wsV RL 46 RX4 yX4_solution wsX4_solution) := goodIn_app (goodIn_of _ (by decide +kernel)) ggL_law_X4_solution
set_option maxRecDepth 20000 in
theorem ggL_law_X5_solution : GoodIn wsL_law wsX5_solution := goodIn_r _ [331, 150, 105, 102, 397, 398, 399, 400, 401, 402, 403, 404, 405, 406, 407, 408, 409, 410, 411, 412, 413, 414, 415, 416, 417, 418] (by decide +kernel) (by decide +kernel)
set_option maxRecDepth 20000 in
theorem gL_law_X5_solution : GoodIn wsL_law (wsV RL 49 RX5 yX5_solution wsX5_solution) := goodIn_app (goodIn_of _ (by decide +kernel)) ggL_law_X5_solution
set_option maxRecDepth 20000 in
theorem ggL_law_X4_degree : GoodIn wsL_law wsX4_degree := goodIn_r _ [335, 135, 33, 179, 384, 385, 386, 387, 388, 389, 390, 391, 392, 393, 394, 395, 396, 428, 429, 430, 431, 432, 433, 434] (by decide +kernel) (by decide +kernel)
set_option maxRecDepth 20000 in
theorem gL_law_X4_degree : GoodIn wsL_law (wsV RL 50 RX4 yX4_degree wsX4_degree) := goodIn_app (goodIn_of _ (by decide +kernel)) ggL_law_X4_degree
set_option maxRecDepth 20000 in
theorem ggL_law_X5_degree : GoodIn wsL_law wsX5_degree := goodIn_r _ [339, 101, 397, 398, 399, 400, 401, 402, 403, 404, 405, 406, 407, 408, 409, 410, 411, 412, 413, 414, 415, 416, 417, 418] (by decide +kernel) (by decide +kernel)
set_option maxRecDepth 20000 in
theorem gL_law_X5_degree : GoodIn wsL_law (wsV RL 53 RX5 yX5_degree wsX5_degree) := goodIn_app (goodIn_of _ (by decide +kernel)) ggL_law_X5_degree
set_option maxRecDepth 20000 in
theorem ggL_law_X4_coefficient : GoodIn wsL_law wsX4_coefficient := goodIn_r _ [343, 135, 33, 179, 261, 235, 236, 32, 237, 81, 384, 385, 386, 387, 388, 389, 390, 391, 392, 393, 394, 395, 396, 428, 429, 430, 431, 432, 433, 434] (by decide +kernel) (by decide +kernel)
set_option maxRecDepth 20000 in
theorem gL_law_X4_coefficient : GoodIn wsL_law (wsV RL 54 RX4 yX4_coefficient wsX4_coefficient) := goodIn_app (goodIn_of _ (by decide +kernel)) ggL_law_X4_coefficient
set_option maxRecDepth 20000 in
theorem ggL_law_X5_coefficient : GoodIn wsL_law wsX5_coefficient := goodIn_r _ [347, 101, 98, 397, 398, 399, 400, 401, 402, 403, 404, 405, 406, 407, 408, 409, 410, 411, 412, 413, 414, 415, 416, 417, 418] (by decide +kernel) (by decide +kernel)
set_option maxRecDepth 20000 in
theorem gL_law_X5_coefficient : GoodIn wsL_law (wsV RL 57 RX5 yX5_coefficient wsX5_coefficient) := goodIn_app (goodIn_of _ (by decide +kernel)) ggL_law_X5_coefficient
set_option maxRecDepth 20000 in
theorem ggL_law_X4_number : GoodIn wsL_law wsX4_number := goodIn_r _ [351, 135, 38, 384, 385, 386, 387, 388, 389, 390, 391, 392, 393, 394, 395, 396] (by decide +kernel) (by decide +kernel)
set_option maxRecDepth 20000 in
theorem gL_law_X4_number : GoodIn wsL_law (wsV RL 58 RX4 yX4_number wsX4_number) := goodIn_app (goodIn_of _ (by decide +kernel)) ggL_law_X4_number
set_option maxRecDepth 20000 in
theorem ggL_law_X5_number : GoodIn wsL_law wsX5_number := goodIn_r _ [355, 151, 105, 97, 397, 398, 399, 400, 401, 402, 403, 404, 405, 406, 407, 408, 409, 410, 411, 412, 413, 414, 415, 416, 417, 418] (by decide +kernel) (by decide +kernel)
set_option maxRecDepth 20000 in
theorem gL_law_X5_number : GoodIn wsL_law (wsV RL 61 RX5 yX5_number wsX5_number) := goodIn_app (goodIn_of _ (by decide +kernel)) ggL_law_X5_number
set_option maxRecDepth 20000 in
theorem ggL_law_X4_verify : GoodIn wsL_law wsX4_verify := goodIn_r _ [359, 136, 268, 269, 270, 2, 271, 39, 37, 16, 194, 195, 196, 197, 25, 35, 206, 207, 208, 24, 209, 210, 70, 122, 67, 66, 69, 68, 211, 212, 213, 214, 215, 216, 203, 204, 19, 205, 61, 384, 385, 386, 387, 388, 389, 390, 391, 392, 393, 394, 395, 396, 420, 421, 422, 423, 424, 425, 426, 419] (by decide +kernel) (by decide +kernel)
set_option maxRecDepth 20000 in
theorem gL_law_X4_verify : GoodIn wsL_law (wsV RL 62 RX4 yX4_verify wsX4_verify) := goodIn_app (goodIn_of _ (by decide +kernel)) ggL_law_X4_verify
set_option maxRecDepth 20000 in
theorem ggL_law_X5_verify : GoodIn wsL_law wsX5_verify := goodIn_r _ [363, 150, 310, 311, 312, 5, 313, 105, 95, 102, 92, 289, 290, 291, 292, 293, 96, 141, 88, 91, 89, 104, 397, 398, 399, 400, 401, 402, 403, 404, 405, 406, 407, 408, 409, 410, 411, 412, 413, 414, 415, 416, 417, 418] (by decide +kernel) (by decide +kernel)
set_option maxRecDepth 20000 in
theorem gL_law_X5_verify : GoodIn wsL_law (wsV RL 66 RX5 yX5_verify wsX5_verify) := goodIn_app (goodIn_of _ (by decide +kernel)) ggL_law_X5_verify
set_option maxRecDepth 20000 in
theorem ggL_law_X4_products : GoodIn wsL_law wsX4_products := goodIn_r _ [367, 25, 368, 384, 385, 386, 387, 388, 389, 390, 391, 392, 393, 394, 395, 396, 420, 421, 422, 423, 424, 425, 426] (by decide +kernel) (by decide +kernel)
set_option maxRecDepth 20000 in
theorem gL_law_X4_products : GoodIn wsL_law (wsV RL 67 RX4 yX4_products wsX4_products) := goodIn_app (goodIn_of _ (by decide +kernel)) ggL_law_X4_products
set_option maxRecDepth 20000 in
theorem ggL_law_X5_products : GoodIn wsL_law wsX5_products := goodIn_r _ [372, 293, 397, 398, 399, 400, 401, 402, 403, 404, 405, 406, 407, 408, 409, 410, 411, 412, 413, 414, 415, 416, 417, 418] (by decide +kernel) (by decide +kernel)
set_option maxRecDepth 20000 in
theorem gL_law_X5_products : GoodIn wsL_law (wsV RL 70 RX5 yX5_products wsX5_products) := goodIn_app (goodIn_of _ (by decide +kernel)) ggL_law_X5_products
set_option maxRecDepth 20000 in
theorem ggL_law_X4_count : GoodIn wsL_law wsX4_count := goodIn_r _ [376, 21, 377, 16, 25, 378, 29, 379, 178, 384, 385, 386, 387, 388, 389, 390, 391, 392, 393, 394, 395, 396, 419, 420, 421, 422, 423, 424, 425, 426, 427] (by decide +kernel) (by decide +kernel)
set_option maxRecDepth 20000 in
theorem gL_law_X4_count : GoodIn wsL_law (wsV RL 71 RX4 yX4_count wsX4_count) := goodIn_app (goodIn_of _ (by decide +kernel)) ggL_law_X4_count
set_option maxRecDepth 20000 in
theorem ggL_law_X5_count : GoodIn wsL_law wsX5_count := goodIn_r _ [383, 104, 105, 141, 93, 276, 397, 398, 399, 400, 401, 402, 403, 404, 405, 406, 407, 408, 409, 410, 411, 412, 413, 414, 415, 416, 417, 418] (by decide +kernel) (by decide +kernel)
set_option maxRecDepth 20000 in
theorem gL_law_X5_count : GoodIn wsL_law (wsV RL 74 RX5 yX5_count wsX5_count) := goodIn_app (goodIn_of _ (by decide +kernel)) ggL_law_X5_count
theorem dL_law_0 : decode cL_law 0 = .ok (.new 7, 3) := by decide +kernel
theorem dL_law_3 : decode cL_law 3 = .ok (.dup, 1) := by decide +kernel
theorem dL_law_4 : decode cL_law 4 = .ok (.aload_n 0, 1) := by decide +kernel
theorem dL_law_5 : decode cL_law 5 = .ok (.iconst 0, 1) := by decide +kernel
theorem dL_law_6 : decode cL_law 6 = .ok (.invokestatic 9, 3) := by decide +kernel
theorem dL_law_9 : decode cL_law 9 = .ok (.aload_n 0, 1) := by decide +kernel
theorem dL_law_10 : decode cL_law 10 = .ok (.iconst 1, 1) := by decide +kernel
theorem dL_law_11 : decode cL_law 11 = .ok (.invokestatic 9, 3) := by decide +kernel
theorem dL_law_14 : decode cL_law 14 = .ok (.aload_n 0, 1) := by decide +kernel
theorem dL_law_15 : decode cL_law 15 = .ok (.iconst 2, 1) := by decide +kernel
theorem dL_law_16 : decode cL_law 16 = .ok (.invokestatic 9, 3) := by decide +kernel
theorem dL_law_19 : decode cL_law 19 = .ok (.invokespecial 15, 3) := by decide +kernel
theorem dL_law_22 : decode cL_law 22 = .ok (.astore_n 1, 1) := by decide +kernel
theorem dL_law_23 : decode cL_law 23 = .ok (.new 18, 3) := by decide +kernel
theorem dL_law_26 : decode cL_law 26 = .ok (.dup, 1) := by decide +kernel
theorem dL_law_27 : decode cL_law 27 = .ok (.aload_n 0, 1) := by decide +kernel
theorem dL_law_28 : decode cL_law 28 = .ok (.iconst 0, 1) := by decide +kernel
theorem dL_law_29 : decode cL_law 29 = .ok (.invokestatic 9, 3) := by decide +kernel
theorem dL_law_32 : decode cL_law 32 = .ok (.aload_n 0, 1) := by decide +kernel
theorem dL_law_33 : decode cL_law 33 = .ok (.iconst 1, 1) := by decide +kernel
theorem dL_law_34 : decode cL_law 34 = .ok (.invokestatic 9, 3) := by decide +kernel
theorem dL_law_37 : decode cL_law 37 = .ok (.aload_n 0, 1) := by decide +kernel
theorem dL_law_38 : decode cL_law 38 = .ok (.iconst 2, 1) := by decide +kernel
theorem dL_law_39 : decode cL_law 39 = .ok (.invokestatic 9, 3) := by decide +kernel
theorem dL_law_42 : decode cL_law 42 = .ok (.invokespecial 20, 3) := by decide +kernel
theorem dL_law_45 : decode cL_law 45 = .ok (.astore_n 2, 1) := by decide +kernel
theorem dL_law_46 : decode cL_law 46 = .ok (.iconst 3, 1) := by decide +kernel
theorem dL_law_47 : decode cL_law 47 = .ok (.istore_n 3, 1) := by decide +kernel
theorem dL_law_48 : decode cL_law 48 = .ok (.iload_n 3, 1) := by decide +kernel
theorem dL_law_49 : decode cL_law 49 = .ok (.aload_n 0, 1) := by decide +kernel
theorem dL_law_50 : decode cL_law 50 = .ok (.arraylength, 1) := by decide +kernel
theorem dL_law_51 : decode cL_law 51 = .ok (.iconst 4, 1) := by decide +kernel
theorem dL_law_52 : decode cL_law 52 = .ok (.isub, 1) := by decide +kernel
theorem dL_law_53 : decode cL_law 53 = .ok (.if_icmp .gt 341, 3) := by decide +kernel
theorem dL_law_56 : decode cL_law 56 = .ok (.aload_n 0, 1) := by decide +kernel
theorem dL_law_57 : decode cL_law 57 = .ok (.iload_n 3, 1) := by decide +kernel
theorem dL_law_58 : decode cL_law 58 = .ok (.iaload, 1) := by decide +kernel
theorem dL_law_59 : decode cL_law 59 = .ok (.bipush 15, 2) := by decide +kernel
theorem dL_law_61 : decode cL_law 61 = .ok (.iand, 1) := by decide +kernel
theorem dL_law_62 : decode cL_law 62 = .ok (.tableswitch 326 0 11 #[62, 105, 138, 159, 172, 195, 218, 231, 254, 277, 290, 303], 62) := by decide +kernel
theorem dL_law_124 : decode cL_law 124 = .ok (.aload_n 1, 1) := by decide +kernel
theorem dL_law_125 : decode cL_law 125 = .ok (.aload_n 0, 1) := by decide +kernel
theorem dL_law_126 : decode cL_law 126 = .ok (.iload_n 3, 1) := by decide +kernel
theorem dL_law_127 : decode cL_law 127 = .ok (.iconst 1, 1) := by decide +kernel
theorem dL_law_128 : decode cL_law 128 = .ok (.iadd, 1) := by decide +kernel
theorem dL_law_129 : decode cL_law 129 = .ok (.iaload, 1) := by decide +kernel
theorem dL_law_130 : decode cL_law 130 = .ok (.aload_n 0, 1) := by decide +kernel
theorem dL_law_131 : decode cL_law 131 = .ok (.iload_n 3, 1) := by decide +kernel
theorem dL_law_132 : decode cL_law 132 = .ok (.iconst 2, 1) := by decide +kernel
theorem dL_law_133 : decode cL_law 133 = .ok (.iadd, 1) := by decide +kernel
theorem dL_law_134 : decode cL_law 134 = .ok (.iaload, 1) := by decide +kernel
theorem dL_law_135 : decode cL_law 135 = .ok (.aload_n 0, 1) := by decide +kernel
theorem dL_law_136 : decode cL_law 136 = .ok (.iload_n 3, 1) := by decide +kernel
theorem dL_law_137 : decode cL_law 137 = .ok (.iconst 3, 1) := by decide +kernel
theorem dL_law_138 : decode cL_law 138 = .ok (.iadd, 1) := by decide +kernel
theorem dL_law_139 : decode cL_law 139 = .ok (.iaload, 1) := by decide +kernel
theorem dL_law_140 : decode cL_law 140 = .ok (.invokevirtual 21, 3) := by decide +kernel
theorem dL_law_143 : decode cL_law 143 = .ok (.aload_n 2, 1) := by decide +kernel
theorem dL_law_144 : decode cL_law 144 = .ok (.aload_n 0, 1) := by decide +kernel
theorem dL_law_145 : decode cL_law 145 = .ok (.iload_n 3, 1) := by decide +kernel
theorem dL_law_146 : decode cL_law 146 = .ok (.iconst 1, 1) := by decide +kernel
theorem dL_law_147 : decode cL_law 147 = .ok (.iadd, 1) := by decide +kernel
theorem dL_law_148 : decode cL_law 148 = .ok (.iaload, 1) := by decide +kernel
theorem dL_law_149 : decode cL_law 149 = .ok (.aload_n 0, 1) := by decide +kernel
theorem dL_law_150 : decode cL_law 150 = .ok (.iload_n 3, 1) := by decide +kernel
theorem dL_law_151 : decode cL_law 151 = .ok (.iconst 2, 1) := by decide +kernel
theorem dL_law_152 : decode cL_law 152 = .ok (.iadd, 1) := by decide +kernel
theorem dL_law_153 : decode cL_law 153 = .ok (.iaload, 1) := by decide +kernel
theorem dL_law_154 : decode cL_law 154 = .ok (.aload_n 0, 1) := by decide +kernel
theorem dL_law_155 : decode cL_law 155 = .ok (.iload_n 3, 1) := by decide +kernel
theorem dL_law_156 : decode cL_law 156 = .ok (.iconst 3, 1) := by decide +kernel
theorem dL_law_157 : decode cL_law 157 = .ok (.iadd, 1) := by decide +kernel
theorem dL_law_158 : decode cL_law 158 = .ok (.iaload, 1) := by decide +kernel
theorem dL_law_159 : decode cL_law 159 = .ok (.invokevirtual 25, 3) := by decide +kernel
theorem dL_law_162 : decode cL_law 162 = .ok (.if_icmp .eq 226, 3) := by decide +kernel
theorem dL_law_165 : decode cL_law 165 = .ok (.iconst 0, 1) := by decide +kernel
theorem dL_law_166 : decode cL_law 166 = .ok (.ireturn, 1) := by decide +kernel
theorem dL_law_167 : decode cL_law 167 = .ok (.aload_n 1, 1) := by decide +kernel
theorem dL_law_168 : decode cL_law 168 = .ok (.aload_n 0, 1) := by decide +kernel
theorem dL_law_169 : decode cL_law 169 = .ok (.iload_n 3, 1) := by decide +kernel
theorem dL_law_170 : decode cL_law 170 = .ok (.iconst 1, 1) := by decide +kernel
theorem dL_law_171 : decode cL_law 171 = .ok (.iadd, 1) := by decide +kernel
theorem dL_law_172 : decode cL_law 172 = .ok (.iaload, 1) := by decide +kernel
theorem dL_law_173 : decode cL_law 173 = .ok (.aload_n 0, 1) := by decide +kernel
theorem dL_law_174 : decode cL_law 174 = .ok (.iload_n 3, 1) := by decide +kernel
theorem dL_law_175 : decode cL_law 175 = .ok (.iconst 2, 1) := by decide +kernel
theorem dL_law_176 : decode cL_law 176 = .ok (.iadd, 1) := by decide +kernel
theorem dL_law_177 : decode cL_law 177 = .ok (.iaload, 1) := by decide +kernel
theorem dL_law_178 : decode cL_law 178 = .ok (.invokevirtual 26, 3) := by decide +kernel
theorem dL_law_181 : decode cL_law 181 = .ok (.aload_n 2, 1) := by decide +kernel
theorem dL_law_182 : decode cL_law 182 = .ok (.aload_n 0, 1) := by decide +kernel
theorem dL_law_183 : decode cL_law 183 = .ok (.iload_n 3, 1) := by decide +kernel
theorem dL_law_184 : decode cL_law 184 = .ok (.iconst 1, 1) := by decide +kernel
theorem dL_law_185 : decode cL_law 185 = .ok (.iadd, 1) := by decide +kernel
theorem dL_law_186 : decode cL_law 186 = .ok (.iaload, 1) := by decide +kernel
theorem dL_law_187 : decode cL_law 187 = .ok (.aload_n 0, 1) := by decide +kernel
theorem dL_law_188 : decode cL_law 188 = .ok (.iload_n 3, 1) := by decide +kernel
theorem dL_law_189 : decode cL_law 189 = .ok (.iconst 2, 1) := by decide +kernel
theorem dL_law_190 : decode cL_law 190 = .ok (.iadd, 1) := by decide +kernel
theorem dL_law_191 : decode cL_law 191 = .ok (.iaload, 1) := by decide +kernel
theorem dL_law_192 : decode cL_law 192 = .ok (.invokevirtual 30, 3) := by decide +kernel
theorem dL_law_195 : decode cL_law 195 = .ok (.if_icmp .eq 193, 3) := by decide +kernel
theorem dL_law_198 : decode cL_law 198 = .ok (.iconst 0, 1) := by decide +kernel
theorem dL_law_199 : decode cL_law 199 = .ok (.ireturn, 1) := by decide +kernel
theorem dL_law_200 : decode cL_law 200 = .ok (.aload_n 1, 1) := by decide +kernel
theorem dL_law_201 : decode cL_law 201 = .ok (.aload_n 0, 1) := by decide +kernel
theorem dL_law_202 : decode cL_law 202 = .ok (.iload_n 3, 1) := by decide +kernel
theorem dL_law_203 : decode cL_law 203 = .ok (.iconst 1, 1) := by decide +kernel
theorem dL_law_204 : decode cL_law 204 = .ok (.iadd, 1) := by decide +kernel
theorem dL_law_205 : decode cL_law 205 = .ok (.iaload, 1) := by decide +kernel
theorem dL_law_206 : decode cL_law 206 = .ok (.invokevirtual 31, 3) := by decide +kernel
theorem dL_law_209 : decode cL_law 209 = .ok (.aload_n 2, 1) := by decide +kernel
theorem dL_law_210 : decode cL_law 210 = .ok (.aload_n 0, 1) := by decide +kernel
theorem dL_law_211 : decode cL_law 211 = .ok (.iload_n 3, 1) := by decide +kernel
theorem dL_law_212 : decode cL_law 212 = .ok (.iconst 1, 1) := by decide +kernel
theorem dL_law_213 : decode cL_law 213 = .ok (.iadd, 1) := by decide +kernel
theorem dL_law_214 : decode cL_law 214 = .ok (.iaload, 1) := by decide +kernel
theorem dL_law_215 : decode cL_law 215 = .ok (.invokevirtual 35, 3) := by decide +kernel
theorem dL_law_218 : decode cL_law 218 = .ok (.goto 170, 3) := by decide +kernel
theorem dL_law_221 : decode cL_law 221 = .ok (.aload_n 1, 1) := by decide +kernel
theorem dL_law_222 : decode cL_law 222 = .ok (.invokevirtual 36, 3) := by decide +kernel
theorem dL_law_225 : decode cL_law 225 = .ok (.aload_n 2, 1) := by decide +kernel
theorem dL_law_226 : decode cL_law 226 = .ok (.invokevirtual 40, 3) := by decide +kernel
theorem dL_law_229 : decode cL_law 229 = .ok (.if_icmp .eq 159, 3) := by decide +kernel
theorem dL_law_232 : decode cL_law 232 = .ok (.iconst 0, 1) := by decide +kernel
theorem dL_law_233 : decode cL_law 233 = .ok (.ireturn, 1) := by decide +kernel
theorem dL_law_234 : decode cL_law 234 = .ok (.aload_n 1, 1) := by decide +kernel
theorem dL_law_235 : decode cL_law 235 = .ok (.aload_n 0, 1) := by decide +kernel
theorem dL_law_236 : decode cL_law 236 = .ok (.iload_n 3, 1) := by decide +kernel
theorem dL_law_237 : decode cL_law 237 = .ok (.iconst 1, 1) := by decide +kernel
theorem dL_law_238 : decode cL_law 238 = .ok (.iadd, 1) := by decide +kernel
theorem dL_law_239 : decode cL_law 239 = .ok (.iaload, 1) := by decide +kernel
theorem dL_law_240 : decode cL_law 240 = .ok (.invokevirtual 41, 3) := by decide +kernel
theorem dL_law_243 : decode cL_law 243 = .ok (.aload_n 2, 1) := by decide +kernel
theorem dL_law_244 : decode cL_law 244 = .ok (.aload_n 0, 1) := by decide +kernel
theorem dL_law_245 : decode cL_law 245 = .ok (.iload_n 3, 1) := by decide +kernel
theorem dL_law_246 : decode cL_law 246 = .ok (.iconst 1, 1) := by decide +kernel
theorem dL_law_247 : decode cL_law 247 = .ok (.iadd, 1) := by decide +kernel
theorem dL_law_248 : decode cL_law 248 = .ok (.iaload, 1) := by decide +kernel
theorem dL_law_249 : decode cL_law 249 = .ok (.invokevirtual 45, 3) := by decide +kernel
theorem dL_law_252 : decode cL_law 252 = .ok (.if_icmp .eq 136, 3) := by decide +kernel
theorem dL_law_255 : decode cL_law 255 = .ok (.iconst 0, 1) := by decide +kernel
theorem dL_law_256 : decode cL_law 256 = .ok (.ireturn, 1) := by decide +kernel
theorem dL_law_257 : decode cL_law 257 = .ok (.aload_n 1, 1) := by decide +kernel
theorem dL_law_258 : decode cL_law 258 = .ok (.aload_n 0, 1) := by decide +kernel
theorem dL_law_259 : decode cL_law 259 = .ok (.iload_n 3, 1) := by decide +kernel
theorem dL_law_260 : decode cL_law 260 = .ok (.iconst 1, 1) := by decide +kernel
theorem dL_law_261 : decode cL_law 261 = .ok (.iadd, 1) := by decide +kernel
theorem dL_law_262 : decode cL_law 262 = .ok (.iaload, 1) := by decide +kernel
theorem dL_law_263 : decode cL_law 263 = .ok (.invokevirtual 46, 3) := by decide +kernel
theorem dL_law_266 : decode cL_law 266 = .ok (.aload_n 2, 1) := by decide +kernel
theorem dL_law_267 : decode cL_law 267 = .ok (.aload_n 0, 1) := by decide +kernel
theorem dL_law_268 : decode cL_law 268 = .ok (.iload_n 3, 1) := by decide +kernel
theorem dL_law_269 : decode cL_law 269 = .ok (.iconst 1, 1) := by decide +kernel
theorem dL_law_270 : decode cL_law 270 = .ok (.iadd, 1) := by decide +kernel
theorem dL_law_271 : decode cL_law 271 = .ok (.iaload, 1) := by decide +kernel
theorem dL_law_272 : decode cL_law 272 = .ok (.invokevirtual 49, 3) := by decide +kernel
theorem dL_law_275 : decode cL_law 275 = .ok (.if_icmp .eq 113, 3) := by decide +kernel
theorem dL_law_278 : decode cL_law 278 = .ok (.iconst 0, 1) := by decide +kernel
theorem dL_law_279 : decode cL_law 279 = .ok (.ireturn, 1) := by decide +kernel
theorem dL_law_280 : decode cL_law 280 = .ok (.aload_n 1, 1) := by decide +kernel
theorem dL_law_281 : decode cL_law 281 = .ok (.invokevirtual 50, 3) := by decide +kernel
theorem dL_law_284 : decode cL_law 284 = .ok (.aload_n 2, 1) := by decide +kernel
theorem dL_law_285 : decode cL_law 285 = .ok (.invokevirtual 53, 3) := by decide +kernel
theorem dL_law_288 : decode cL_law 288 = .ok (.if_icmp .eq 100, 3) := by decide +kernel
theorem dL_law_291 : decode cL_law 291 = .ok (.iconst 0, 1) := by decide +kernel
theorem dL_law_292 : decode cL_law 292 = .ok (.ireturn, 1) := by decide +kernel
theorem dL_law_293 : decode cL_law 293 = .ok (.aload_n 1, 1) := by decide +kernel
theorem dL_law_294 : decode cL_law 294 = .ok (.aload_n 0, 1) := by decide +kernel
theorem dL_law_295 : decode cL_law 295 = .ok (.iload_n 3, 1) := by decide +kernel
theorem dL_law_296 : decode cL_law 296 = .ok (.iconst 1, 1) := by decide +kernel
theorem dL_law_297 : decode cL_law 297 = .ok (.iadd, 1) := by decide +kernel
theorem dL_law_298 : decode cL_law 298 = .ok (.iaload, 1) := by decide +kernel
theorem dL_law_299 : decode cL_law 299 = .ok (.invokevirtual 54, 3) := by decide +kernel
theorem dL_law_302 : decode cL_law 302 = .ok (.aload_n 2, 1) := by decide +kernel
theorem dL_law_303 : decode cL_law 303 = .ok (.aload_n 0, 1) := by decide +kernel
theorem dL_law_304 : decode cL_law 304 = .ok (.iload_n 3, 1) := by decide +kernel
theorem dL_law_305 : decode cL_law 305 = .ok (.iconst 1, 1) := by decide +kernel
theorem dL_law_306 : decode cL_law 306 = .ok (.iadd, 1) := by decide +kernel
theorem dL_law_307 : decode cL_law 307 = .ok (.iaload, 1) := by decide +kernel
theorem dL_law_308 : decode cL_law 308 = .ok (.invokevirtual 57, 3) := by decide +kernel
theorem dL_law_311 : decode cL_law 311 = .ok (.if_icmp .eq 77, 3) := by decide +kernel
theorem dL_law_314 : decode cL_law 314 = .ok (.iconst 0, 1) := by decide +kernel
theorem dL_law_315 : decode cL_law 315 = .ok (.ireturn, 1) := by decide +kernel
theorem dL_law_316 : decode cL_law 316 = .ok (.aload_n 1, 1) := by decide +kernel
theorem dL_law_317 : decode cL_law 317 = .ok (.aload_n 0, 1) := by decide +kernel
theorem dL_law_318 : decode cL_law 318 = .ok (.iload_n 3, 1) := by decide +kernel
theorem dL_law_319 : decode cL_law 319 = .ok (.iconst 1, 1) := by decide +kernel
theorem dL_law_320 : decode cL_law 320 = .ok (.iadd, 1) := by decide +kernel
theorem dL_law_321 : decode cL_law 321 = .ok (.iaload, 1) := by decide +kernel
theorem dL_law_322 : decode cL_law 322 = .ok (.invokevirtual 58, 3) := by decide +kernel
theorem dL_law_325 : decode cL_law 325 = .ok (.aload_n 2, 1) := by decide +kernel
theorem dL_law_326 : decode cL_law 326 = .ok (.aload_n 0, 1) := by decide +kernel
theorem dL_law_327 : decode cL_law 327 = .ok (.iload_n 3, 1) := by decide +kernel
theorem dL_law_328 : decode cL_law 328 = .ok (.iconst 1, 1) := by decide +kernel
theorem dL_law_329 : decode cL_law 329 = .ok (.iadd, 1) := by decide +kernel
theorem dL_law_330 : decode cL_law 330 = .ok (.iaload, 1) := by decide +kernel
theorem dL_law_331 : decode cL_law 331 = .ok (.invokevirtual 61, 3) := by decide +kernel
theorem dL_law_334 : decode cL_law 334 = .ok (.if_icmp .eq 54, 3) := by decide +kernel
theorem dL_law_337 : decode cL_law 337 = .ok (.iconst 0, 1) := by decide +kernel
theorem dL_law_338 : decode cL_law 338 = .ok (.ireturn, 1) := by decide +kernel
theorem dL_law_339 : decode cL_law 339 = .ok (.aload_n 1, 1) := by decide +kernel
theorem dL_law_340 : decode cL_law 340 = .ok (.invokevirtual 62, 3) := by decide +kernel
theorem dL_law_343 : decode cL_law 343 = .ok (.aload_n 2, 1) := by decide +kernel
theorem dL_law_344 : decode cL_law 344 = .ok (.invokevirtual 66, 3) := by decide +kernel
theorem dL_law_347 : decode cL_law 347 = .ok (.if_icmp .eq 41, 3) := by decide +kernel
theorem dL_law_350 : decode cL_law 350 = .ok (.iconst 0, 1) := by decide +kernel
theorem dL_law_351 : decode cL_law 351 = .ok (.ireturn, 1) := by decide +kernel
theorem dL_law_352 : decode cL_law 352 = .ok (.aload_n 1, 1) := by decide +kernel
theorem dL_law_353 : decode cL_law 353 = .ok (.invokevirtual 67, 3) := by decide +kernel
theorem dL_law_356 : decode cL_law 356 = .ok (.aload_n 2, 1) := by decide +kernel
theorem dL_law_357 : decode cL_law 357 = .ok (.invokevirtual 70, 3) := by decide +kernel
theorem dL_law_360 : decode cL_law 360 = .ok (.if_icmp .eq 28, 3) := by decide +kernel
theorem dL_law_363 : decode cL_law 363 = .ok (.iconst 0, 1) := by decide +kernel
theorem dL_law_364 : decode cL_law 364 = .ok (.ireturn, 1) := by decide +kernel
theorem dL_law_365 : decode cL_law 365 = .ok (.aload_n 1, 1) := by decide +kernel
theorem dL_law_366 : decode cL_law 366 = .ok (.aload_n 0, 1) := by decide +kernel
theorem dL_law_367 : decode cL_law 367 = .ok (.iload_n 3, 1) := by decide +kernel
theorem dL_law_368 : decode cL_law 368 = .ok (.iconst 1, 1) := by decide +kernel
theorem dL_law_369 : decode cL_law 369 = .ok (.iadd, 1) := by decide +kernel
theorem dL_law_370 : decode cL_law 370 = .ok (.iaload, 1) := by decide +kernel
theorem dL_law_371 : decode cL_law 371 = .ok (.invokevirtual 71, 3) := by decide +kernel
theorem dL_law_374 : decode cL_law 374 = .ok (.aload_n 2, 1) := by decide +kernel
theorem dL_law_375 : decode cL_law 375 = .ok (.aload_n 0, 1) := by decide +kernel
theorem dL_law_376 : decode cL_law 376 = .ok (.iload_n 3, 1) := by decide +kernel
theorem dL_law_377 : decode cL_law 377 = .ok (.iconst 1, 1) := by decide +kernel
theorem dL_law_378 : decode cL_law 378 = .ok (.iadd, 1) := by decide +kernel
theorem dL_law_379 : decode cL_law 379 = .ok (.iaload, 1) := by decide +kernel
theorem dL_law_380 : decode cL_law 380 = .ok (.invokevirtual 74, 3) := by decide +kernel
theorem dL_law_383 : decode cL_law 383 = .ok (.if_icmp .eq 5, 3) := by decide +kernel
theorem dL_law_386 : decode cL_law 386 = .ok (.iconst 0, 1) := by decide +kernel
theorem dL_law_387 : decode cL_law 387 = .ok (.ireturn, 1) := by decide +kernel
theorem dL_law_388 : decode cL_law 388 = .ok (.iinc 3 4, 3) := by decide +kernel
theorem dL_law_391 : decode cL_law 391 = .ok (.goto (-343), 3) := by decide +kernel
theorem dL_law_394 : decode cL_law 394 = .ok (.iconst 1, 1) := by decide +kernel
theorem dL_law_395 : decode cL_law 395 = .ok (.ireturn, 1) := by decide +kernel
abbrev vwCl : List vw_C := [(RX0, TX0, 1), (RX1, TX1, 7), (RX2, TX2, 1), (RX3, TX3, 7), (RX4, TX4, 13), (RX5, TX5, 22)]
end
section
/-! My own layer above the kit: cells of ints by their numbers, compares and sums of numbers, a method's entry, a call and a return in one row each. -/
/-- the two array classes that the worlds hold: of ints, of longs -/
abbrev kd_T (cI cJ : ClassId) : List (ClassId × FieldType) := [(cI, .int), (cJ, .long)]
abbrev kd_ar (c : ClassId) (n : Nat) (f : Nat → Nat) : va_E := .inl (c, n, .inl (fun j => nI (f j)))
abbrev kd_al (c : ClassId) (n : Nat) (f : Nat → Nat) : va_E := .inl (c, n, .inr (.inl (fun j => lN (f j))))
theorem kd_upd (f : Nat → Nat) (k x : Nat) : upd (fun j => nI (f j)) k (nI x) = fun j => nI (va_up f k x j) := by
  funext j
  unfold upd va_up
  split <;> rfl
theorem kd_cpy (f g : Nat → Nat) (a b n : Nat) : va_cpy (fun j => nI (f j)) (fun j => nI (g j)) a b n = fun j => nI (va_cpy f g a b n j) := by
  funext j
  unfold va_cpy
  split <;> rfl
theorem kd_updL (f : Nat → Nat) (k x : Nat) : vp_updL (fun j => lN (f j)) k (lN x) = fun j => lN (va_up f k x j) := by
  funext j
  unfold vp_updL va_up
  split <;> rfl
section KD1
variable {p : Program} {l : Launch} {e : Env} {R : Room} {s : State} {m : MethodId} {args : Array Value} {below : List Frame} {meth : Method} {c : Code} {H : Heap} {locs : List Loc} {cells slots : Nat} {Q : State → Prop}
variable {cc : ByteArray} {pc : Nat} {ls : Array Slot} {rest : List Value} {A : Nat → Prop} {H0 : Heap} {D : va_G} {cl : List vw_C} {tys : List (ClassId × FieldType)} {ws : va_W} {a : Nat} {cI cJ : ClassId} {n : Nat} {f : Nat → Nat}
theorem kd_ald (hexec : p.tables.exec = Jvm.exec) (hb : c.code = cc) (hK : va_K D cl (kd_T cI cJ) s) (hP : va_P D cl ws H) (q0 : Nat) (ha : ws[q0]? = some (a, kd_ar cI n f)) (i : Nat) (hi : i < n) (hn : n < 2 ^ 31) (hdg : decode cc pc = .ok (.iaload, 1))
    (kk : W p l e R s m args below meth c H locs cells slots Q (F0 m (pc + 1) ls (.int (nI (f i)) :: rest))) : W p l e R s m args below meth c H locs cells slots Q (F0 m pc ls (.int (nI i) :: .ref a :: rest)) := by
  refine va_iald hexec hb hK hP q0 0 ha rfl (vp_in_nI hi hn) hdg ?_
  rw [nI_clamp (Nat.lt_trans hi hn)]
  exact kk
theorem kd_ast (hexec : p.tables.exec = Jvm.exec) (hb : c.code = cc) (hK : va_K D cl (kd_T cI cJ) s) (hP : va_P D cl ws H) (hD : va_D A ws) (hS : va_S A H0 H locs) (q0 : Nat) (ha : ws[q0]? = some (a, kd_ar cI n f)) (i : Nat) {x : Nat} (hi : i < n) (hn : n < 2 ^ 31) (hdg : decode cc pc = .ok (.iastore, 1))
    (kk : ∀ (H1 : Heap) (locs1 : List Loc), va_P D cl (ws.set q0 (a, kd_ar cI n (va_up f i x))) H1 → va_D A (ws.set q0 (a, kd_ar cI n (va_up f i x))) → va_S A H0 H1 locs1 → W p l e R s m args below meth c H1 locs1 cells slots Q (F0 m (pc + 1) ls rest)) : W p l e R s m args below meth c H locs cells slots Q (F0 m pc ls (.int (nI x) :: .int (nI i) :: .ref a :: rest)) := by
  refine va_iast hexec hb hK hP hD hS q0 0 ha rfl (vp_in_nI hi hn) hdg ?_
  rw [nI_clamp (Nat.lt_trans hi hn), kd_upd]
  exact kk
theorem kd_alen (hexec : p.tables.exec = Jvm.exec) (hb : c.code = cc) (hK : va_K D cl (kd_T cI cJ) s) (hP : va_P D cl ws H) (q0 : Nat) (ha : ws[q0]? = some (a, kd_ar cI n f)) (hdg : decode cc pc = .ok (.arraylength, 1))
    (kk : W p l e R s m args below meth c H locs cells slots Q (F0 m (pc + 1) ls (.int (nI n) :: rest))) : W p l e R s m args below meth c H locs cells slots Q (F0 m pc ls (.ref a :: rest)) :=
  va_alen hexec hb hK hP q0 0 ha rfl rfl hdg kk
theorem kd_lald (hexec : p.tables.exec = Jvm.exec) (hb : c.code = cc) (hK : va_K D cl (kd_T cI cJ) s) (hP : va_P D cl ws H) (q0 : Nat) (ha : ws[q0]? = some (a, kd_al cJ n f)) (i : Nat) (hi : i < n) (hn : n < 2 ^ 31) (hdg : decode cc pc = .ok (.laload, 1))
    (kk : W p l e R s m args below meth c H locs cells slots Q (F0 m (pc + 1) ls (.long (lN (f i)) :: rest))) : W p l e R s m args below meth c H locs cells slots Q (F0 m pc ls (.int (nI i) :: .ref a :: rest)) := by
  refine va_lald hexec hb hK hP q0 1 ha rfl (vp_in_nI hi hn) hdg ?_
  rw [nI_clamp (Nat.lt_trans hi hn)]
  exact kk
theorem kd_last (hexec : p.tables.exec = Jvm.exec) (hb : c.code = cc) (hK : va_K D cl (kd_T cI cJ) s) (hP : va_P D cl ws H) (hD : va_D A ws) (hS : va_S A H0 H locs) (q0 : Nat) (ha : ws[q0]? = some (a, kd_al cJ n f)) (i : Nat) {x : Nat} (hi : i < n) (hn : n < 2 ^ 31) (hdg : decode cc pc = .ok (.lastore, 1))
    (kk : ∀ (H1 : Heap) (locs1 : List Loc), va_P D cl (ws.set q0 (a, kd_al cJ n (va_up f i x))) H1 → va_D A (ws.set q0 (a, kd_al cJ n (va_up f i x))) → va_S A H0 H1 locs1 → W p l e R s m args below meth c H1 locs1 cells slots Q (F0 m (pc + 1) ls rest)) : W p l e R s m args below meth c H locs cells slots Q (F0 m pc ls (.long (lN x) :: .int (nI i) :: .ref a :: rest)) := by
  refine va_last hexec hb hK hP hD hS q0 1 ha rfl (vp_in_nI hi hn) hdg ?_
  rw [nI_clamp (Nat.lt_trans hi hn), kd_updL]
  exact kk
theorem kd_newI (hexec : p.tables.exec = Jvm.exec) (hb : c.code = cc) (harr : (Cond.arrayClass .int).before args s = true) (hK : va_K D cl (kd_T cI cJ) s) (hP : va_P D cl ws H) (hD : va_D A ws) (hS : va_S A H0 H locs) (hA : ∀ q, H0.size ≤ q → A q) {k : Nat} (hk : k < 2 ^ 20) (hcells : cells + 1 ≤ R.cells) (hslots : slots + k ≤ R.slots) (hdg : decode cc pc = .ok (.newarray .int, 2))
    (kk : ∀ (q : Nat) (H1 : Heap), va_P D cl (ws ++ [(q, kd_ar cI k (fun _ => 0))]) H1 → va_D A (ws ++ [(q, kd_ar cI k (fun _ => 0))]) → va_S A H0 H1 locs → W p l e R s m args below meth c H1 locs (cells + 1) (slots + k) Q (F0 m (pc + 2) ls (.ref q :: rest))) : W p l e R s m args below meth c H locs cells slots Q (F0 m pc ls (.int (nI k) :: rest)) := by
  have hb4 : k * componentBytes .int ≤ 536870912 := by
    have h4 : componentBytes .int = 4 := by decide
    rw [h4]; omega
  have hc0 : ∀ cA : ClassId, vp_cell cA (k, .inl (fun j => nI ((fun _ => 0) j))) = arrV cA k (fun _ => defaultValue .int) := by
    intro cA
    show arrV cA k (fun _ => Value.int (nI 0)) = arrV cA k (fun _ => Value.int 0)
    rw [nI_0]
  refine va_newa (atype := .int) (N' := k) (ty := .int) (a0 := (k, .inl (fun j => nI ((fun _ => 0) j)))) hexec hb harr rfl hK hP hD hS hA hc0 (nI_pos (by omega)) (nI_clamp (by omega)) hb4 hcells hslots hdg (fun q cA H1 hK2 hP2 hD2 hS2 => ?_)
  have h1 : s.vm.findClass ("[" ++ FieldType.int.toString) = some cI := (hK.2 0 (cI, .int) rfl).2
  have h2 : s.vm.findClass ("[" ++ FieldType.int.toString) = some cA := (hK2.2 2 (cA, .int) rfl).2
  have e3 : cI = cA := Option.some.inj (h1.symm.trans h2)
  subst e3
  exact kk q H1 hP2 hD2 hS2
theorem kd_newJ (hexec : p.tables.exec = Jvm.exec) (hb : c.code = cc) (harr : (Cond.arrayClass .long).before args s = true) (hK : va_K D cl (kd_T cI cJ) s) (hP : va_P D cl ws H) (hD : va_D A ws) (hS : va_S A H0 H locs) (hA : ∀ q, H0.size ≤ q → A q) {k : Nat} (hk : k < 2 ^ 20) (hcells : cells + 1 ≤ R.cells) (hslots : slots + k ≤ R.slots) (hdg : decode cc pc = .ok (.newarray .long, 2))
    (kk : ∀ (q : Nat) (H1 : Heap), va_P D cl (ws ++ [(q, kd_al cJ k (fun _ => 0))]) H1 → va_D A (ws ++ [(q, kd_al cJ k (fun _ => 0))]) → va_S A H0 H1 locs → W p l e R s m args below meth c H1 locs (cells + 1) (slots + k) Q (F0 m (pc + 2) ls (.ref q :: rest))) : W p l e R s m args below meth c H locs cells slots Q (F0 m pc ls (.int (nI k) :: rest)) := by
  have hb8 : k * componentBytes .long ≤ 536870912 := by
    have h8 : componentBytes .long = 8 := by decide
    rw [h8]; omega
  have hc0 : ∀ cA : ClassId, vp_cell cA (k, .inr (.inl (fun j => lN ((fun _ => 0) j)))) = arrV cA k (fun _ => defaultValue .long) := by
    intro cA
    show arrV cA k (fun _ => Value.long (lN 0)) = arrV cA k (fun _ => Value.long 0)
    rw [show lN 0 = 0 by decide]
  refine va_newa (atype := .long) (N' := k) (ty := .long) (a0 := (k, .inr (.inl (fun j => lN ((fun _ => 0) j))))) hexec hb harr rfl hK hP hD hS hA hc0 (nI_pos (by omega)) (nI_clamp (by omega)) hb8 hcells hslots hdg (fun q cA H1 hK2 hP2 hD2 hS2 => ?_)
  have h1 : s.vm.findClass ("[" ++ FieldType.long.toString) = some cJ := (hK.2 1 (cJ, .long) rfl).2
  have h2 : s.vm.findClass ("[" ++ FieldType.long.toString) = some cA := (hK2.2 2 (cA, .long) rfl).2
  have e3 : cJ = cA := Option.some.inj (h1.symm.trans h2)
  subst e3
  exact kk q H1 hP2 hD2 hS2
theorem kd_add (hexec : p.tables.exec = Jvm.exec) (hb : c.code = cc) {x y : Nat} (hdg : decode cc pc = .ok (.iadd, 1)) (k : W p l e R s m args below meth c H locs cells slots Q (F0 m (pc + 1) ls (.int (nI (x + y)) :: rest))) : W p l e R s m args below meth c H locs cells slots Q (F0 m pc ls (.int (nI y) :: .int (nI x) :: rest)) :=
  lv_iadd hexec hb hdg (by rw [nI_add]; exact k)
theorem kd_sub (hexec : p.tables.exec = Jvm.exec) (hb : c.code = cc) {x y : Nat} (h : y ≤ x) (hdg : decode cc pc = .ok (.isub, 1)) (k : W p l e R s m args below meth c H locs cells slots Q (F0 m (pc + 1) ls (.int (nI (x - y)) :: rest))) : W p l e R s m args below meth c H locs cells slots Q (F0 m pc ls (.int (nI y) :: .int (nI x) :: rest)) :=
  lv_isub hexec hb hdg (by rw [pk_sub h]; exact k)
theorem kd_mul (hexec : p.tables.exec = Jvm.exec) (hb : c.code = cc) {x y : Nat} (hdg : decode cc pc = .ok (.imul, 1)) (k : W p l e R s m args below meth c H locs cells slots Q (F0 m (pc + 1) ls (.int (nI (x * y)) :: rest))) : W p l e R s m args below meth c H locs cells slots Q (F0 m pc ls (.int (nI y) :: .int (nI x) :: rest)) :=
  lv_imul hexec hb hdg (by rw [pk_mul]; exact k)
theorem kd_div (hexec : p.tables.exec = Jvm.exec) (hb : c.code = cc) {x y : Nat} (hx : x < 2 ^ 31) (h0 : 0 < y) (hy : y < 2 ^ 31) (hdg : decode cc pc = .ok (.idiv, 1)) (k : W p l e R s m args below meth c H locs cells slots Q (F0 m (pc + 1) ls (.int (nI (x / y)) :: rest))) : W p l e R s m args below meth c H locs cells slots Q (F0 m pc ls (.int (nI y) :: .int (nI x) :: rest)) :=
  lv_idiv hexec hb hdg (nI_ne0 h0 hy) (by rw [pk_div hx h0 hy]; exact k)
theorem kd_rem (hexec : p.tables.exec = Jvm.exec) (hb : c.code = cc) {x y : Nat} (hx : x < 2 ^ 31) (h0 : 0 < y) (hy : y < 2 ^ 31) (hdg : decode cc pc = .ok (.irem, 1)) (k : W p l e R s m args below meth c H locs cells slots Q (F0 m (pc + 1) ls (.int (nI (x % y)) :: rest))) : W p l e R s m args below meth c H locs cells slots Q (F0 m pc ls (.int (nI y) :: .int (nI x) :: rest)) :=
  lv_irem hexec hb hdg (nI_ne0 h0 hy) (by rw [pk_rem hx h0 hy]; exact k)
theorem kd_ladd (hexec : p.tables.exec = Jvm.exec) (hb : c.code = cc) {x y : Nat} (hdg : decode cc pc = .ok (.ladd, 1)) (k : W p l e R s m args below meth c H locs cells slots Q (F0 m (pc + 1) ls (.long (lN (x + y)) :: rest))) : W p l e R s m args below meth c H locs cells slots Q (F0 m pc ls (.long (lN y) :: .long (lN x) :: rest)) :=
  lv_ladd hexec hb hdg (by rw [lN_add]; exact k)
theorem kd_lmul (hexec : p.tables.exec = Jvm.exec) (hb : c.code = cc) {x y : Nat} (hdg : decode cc pc = .ok (.lmul, 1)) (k : W p l e R s m args below meth c H locs cells slots Q (F0 m (pc + 1) ls (.long (lN (x * y)) :: rest))) : W p l e R s m args below meth c H locs cells slots Q (F0 m pc ls (.long (lN y) :: .long (lN x) :: rest)) :=
  lv_lmul hexec hb hdg (by rw [lN_mul]; exact k)
theorem kd_lsub (hexec : p.tables.exec = Jvm.exec) (hb : c.code = cc) {x y : Nat} (h : y ≤ x) (hdg : decode cc pc = .ok (.lsub, 1)) (k : W p l e R s m args below meth c H locs cells slots Q (F0 m (pc + 1) ls (.long (lN (x - y)) :: rest))) : W p l e R s m args below meth c H locs cells slots Q (F0 m pc ls (.long (lN y) :: .long (lN x) :: rest)) :=
  lv_lsub hexec hb hdg (by rw [lN_sub h]; exact k)
theorem kd_ldiv (hexec : p.tables.exec = Jvm.exec) (hb : c.code = cc) {x y : Nat} (hx : x < 2 ^ 63) (h0 : ¬ lN y = 0) (h1 : 0 < y) (hy : y < 2 ^ 63) (hdg : decode cc pc = .ok (.ldiv, 1)) (k : W p l e R s m args below meth c H locs cells slots Q (F0 m (pc + 1) ls (.long (lN (x / y)) :: rest))) : W p l e R s m args below meth c H locs cells slots Q (F0 m pc ls (.long (lN y) :: .long (lN x) :: rest)) :=
  lv_ldiv hexec hb hdg h0 (by rw [pk_lDiv hx h1 hy]; exact k)
theorem kd_lne {y : Nat} (h0 : 0 < y) (hy : y < 2 ^ 63) : ¬ lN y = 0 := by
  intro h
  have h1 : (lN y).toInt = 0 := by rw [h]; rfl
  rw [pk_lT hy] at h1
  omega
theorem kd_lrem (hexec : p.tables.exec = Jvm.exec) (hb : c.code = cc) {x y : Nat} (hx : x < 2 ^ 63) (h0 : 0 < y) (hy : y < 2 ^ 63) (hdg : decode cc pc = .ok (.lrem, 1)) (k : W p l e R s m args below meth c H locs cells slots Q (F0 m (pc + 1) ls (.long (lN (x % y)) :: rest))) : W p l e R s m args below meth c H locs cells slots Q (F0 m pc ls (.long (lN y) :: .long (lN x) :: rest)) :=
  lv_lrem hexec hb hdg (kd_lne h0 hy) (by rw [pk_lRem hx h0 hy]; exact k)
theorem kd_i2l (hexec : p.tables.exec = Jvm.exec) (hb : c.code = cc) {x : Nat} (h : x < 2 ^ 31) (hdg : decode cc pc = .ok (.i2l, 1)) (k : W p l e R s m args below meth c H locs cells slots Q (F0 m (pc + 1) ls (.long (lN x) :: rest))) : W p l e R s m args below meth c H locs cells slots Q (F0 m pc ls (.int (nI x) :: rest)) :=
  lv_i2l hexec hb hdg (nI_l h) k
theorem kd_l2i (hexec : p.tables.exec = Jvm.exec) (hb : c.code = cc) {x : Nat} (hdg : decode cc pc = .ok (.l2i, 1)) (k : W p l e R s m args below meth c H locs cells slots Q (F0 m (pc + 1) ls (.int (nI x) :: rest))) : W p l e R s m args below meth c H locs cells slots Q (F0 m pc ls (.long (lN x) :: rest)) :=
  lv_l2i hexec hb hdg (lN_i x) k
section KD2
variable {x y : Nat} {off : Int} {tgt : Nat}
theorem kd_lt (hexec : p.tables.exec = Jvm.exec) (hb : c.code = cc) (hdg : decode cc pc = .ok (.if_icmp .lt off, 3)) (ht : (pc : Int) + off = (tgt : Int)) (hx : x < 2 ^ 31) (hy : y < 2 ^ 31) (kt : x < y → W p l e R s m args below meth c H locs cells slots Q (F0 m tgt ls rest)) (kf : ¬ x < y → W p l e R s m args below meth c H locs cells slots Q (F0 m (pc + 3) ls rest)) : W p l e R s m args below meth c H locs cells slots Q (F0 m pc ls (.int (nI y) :: .int (nI x) :: rest)) :=
  lv_icmp_lt hexec hb hdg ht (fun h => kt ((nI_ltI hx hy).mp h)) (fun h => kf (fun q => h ((nI_ltI hx hy).mpr q)))
theorem kd_ge (hexec : p.tables.exec = Jvm.exec) (hb : c.code = cc) (hdg : decode cc pc = .ok (.if_icmp .ge off, 3)) (ht : (pc : Int) + off = (tgt : Int)) (hx : x < 2 ^ 31) (hy : y < 2 ^ 31) (kt : y ≤ x → W p l e R s m args below meth c H locs cells slots Q (F0 m tgt ls rest)) (kf : ¬ y ≤ x → W p l e R s m args below meth c H locs cells slots Q (F0 m (pc + 3) ls rest)) : W p l e R s m args below meth c H locs cells slots Q (F0 m pc ls (.int (nI y) :: .int (nI x) :: rest)) :=
  lv_icmp_ge hexec hb hdg ht (fun h => kt ((nI_leI hy hx).mp h)) (fun h => kf (fun q => h ((nI_leI hy hx).mpr q)))
theorem kd_gt (hexec : p.tables.exec = Jvm.exec) (hb : c.code = cc) (hdg : decode cc pc = .ok (.if_icmp .gt off, 3)) (ht : (pc : Int) + off = (tgt : Int)) (hx : x < 2 ^ 31) (hy : y < 2 ^ 31) (kt : y < x → W p l e R s m args below meth c H locs cells slots Q (F0 m tgt ls rest)) (kf : ¬ y < x → W p l e R s m args below meth c H locs cells slots Q (F0 m (pc + 3) ls rest)) : W p l e R s m args below meth c H locs cells slots Q (F0 m pc ls (.int (nI y) :: .int (nI x) :: rest)) :=
  lv_icmp_gt hexec hb hdg ht (fun h => kt ((nI_ltI hy hx).mp h)) (fun h => kf (fun q => h ((nI_ltI hy hx).mpr q)))
theorem kd_le (hexec : p.tables.exec = Jvm.exec) (hb : c.code = cc) (hdg : decode cc pc = .ok (.if_icmp .le off, 3)) (ht : (pc : Int) + off = (tgt : Int)) (hx : x < 2 ^ 31) (hy : y < 2 ^ 31) (kt : x ≤ y → W p l e R s m args below meth c H locs cells slots Q (F0 m tgt ls rest)) (kf : ¬ x ≤ y → W p l e R s m args below meth c H locs cells slots Q (F0 m (pc + 3) ls rest)) : W p l e R s m args below meth c H locs cells slots Q (F0 m pc ls (.int (nI y) :: .int (nI x) :: rest)) :=
  lv_icmp_le hexec hb hdg ht (fun h => kt ((nI_leI hx hy).mp h)) (fun h => kf (fun q => h ((nI_leI hx hy).mpr q)))
theorem kd_eq (hexec : p.tables.exec = Jvm.exec) (hb : c.code = cc) (hdg : decode cc pc = .ok (.if_icmp .eq off, 3)) (ht : (pc : Int) + off = (tgt : Int)) (hx : x < 2 ^ 31) (hy : y < 2 ^ 31) (kt : x = y → W p l e R s m args below meth c H locs cells slots Q (F0 m tgt ls rest)) (kf : ¬ x = y → W p l e R s m args below meth c H locs cells slots Q (F0 m (pc + 3) ls rest)) : W p l e R s m args below meth c H locs cells slots Q (F0 m pc ls (.int (nI y) :: .int (nI x) :: rest)) :=
  lv_icmp_eq hexec hb hdg ht (fun h => kt ((nI_eq hx hy).mp h)) (fun h => kf (fun q => h ((nI_eq hx hy).mpr q)))
theorem kd_ne (hexec : p.tables.exec = Jvm.exec) (hb : c.code = cc) (hdg : decode cc pc = .ok (.if_icmp .ne off, 3)) (ht : (pc : Int) + off = (tgt : Int)) (hx : x < 2 ^ 31) (hy : y < 2 ^ 31) (kt : ¬ x = y → W p l e R s m args below meth c H locs cells slots Q (F0 m tgt ls rest)) (kf : x = y → W p l e R s m args below meth c H locs cells slots Q (F0 m (pc + 3) ls rest)) : W p l e R s m args below meth c H locs cells slots Q (F0 m pc ls (.int (nI y) :: .int (nI x) :: rest)) :=
  lv_icmp_ne hexec hb hdg ht (fun h => kt (fun q => h ((nI_eq hx hy).mpr q))) (fun h => kf ((nI_eq hx hy).mp h))
theorem kd_eq0 (hexec : p.tables.exec = Jvm.exec) (hb : c.code = cc) (hdg : decode cc pc = .ok (.ifCond .eq off, 3)) (ht : (pc : Int) + off = (tgt : Int)) (hx : x < 2 ^ 31) (kt : x = 0 → W p l e R s m args below meth c H locs cells slots Q (F0 m tgt ls rest)) (kf : ¬ x = 0 → W p l e R s m args below meth c H locs cells slots Q (F0 m (pc + 3) ls rest)) : W p l e R s m args below meth c H locs cells slots Q (F0 m pc ls (.int (nI x) :: rest)) :=
  lv_if_eq hexec hb hdg ht (fun h => kt ((nI_eq hx (by decide)).mp (h.trans nI_0.symm))) (fun h => kf (fun q => h (by rw [q]; rfl)))
theorem kd_ne0 (hexec : p.tables.exec = Jvm.exec) (hb : c.code = cc) (hdg : decode cc pc = .ok (.ifCond .ne off, 3)) (ht : (pc : Int) + off = (tgt : Int)) (hx : x < 2 ^ 31) (kt : ¬ x = 0 → W p l e R s m args below meth c H locs cells slots Q (F0 m tgt ls rest)) (kf : x = 0 → W p l e R s m args below meth c H locs cells slots Q (F0 m (pc + 3) ls rest)) : W p l e R s m args below meth c H locs cells slots Q (F0 m pc ls (.int (nI x) :: rest)) :=
  lv_if_ne hexec hb hdg ht (fun h => kt (fun q => h (by rw [q]; rfl))) (fun h => kf ((nI_eq hx (by decide)).mp (h.trans nI_0.symm)))
theorem kd_le0 (hexec : p.tables.exec = Jvm.exec) (hb : c.code = cc) (hdg : decode cc pc = .ok (.ifCond .le off, 3)) (ht : (pc : Int) + off = (tgt : Int)) (hx : x < 2 ^ 31) (kt : x = 0 → W p l e R s m args below meth c H locs cells slots Q (F0 m tgt ls rest)) (kf : ¬ x = 0 → W p l e R s m args below meth c H locs cells slots Q (F0 m (pc + 3) ls rest)) : W p l e R s m args below meth c H locs cells slots Q (F0 m pc ls (.int (nI x) :: rest)) :=
  lv_if_le hexec hb hdg ht (fun h => kt (by
    have h2 : nI x ≤ nI 0 := h
    have := (nI_leI hx (by decide)).mp h2
    omega)) (fun h => kf (fun q => h (by rw [q]; decide)))
theorem kd_gt0 (hexec : p.tables.exec = Jvm.exec) (hb : c.code = cc) (hdg : decode cc pc = .ok (.ifCond .gt off, 3)) (ht : (pc : Int) + off = (tgt : Int)) (hx : x < 2 ^ 31) (kt : ¬ x = 0 → W p l e R s m args below meth c H locs cells slots Q (F0 m tgt ls rest)) (kf : x = 0 → W p l e R s m args below meth c H locs cells slots Q (F0 m (pc + 3) ls rest)) : W p l e R s m args below meth c H locs cells slots Q (F0 m pc ls (.int (nI x) :: rest)) :=
  lv_if_gt hexec hb hdg ht (fun h => kt (fun q => by subst q; exact absurd h (by decide))) (fun h => kf (Decidable.byContradiction fun q => h (nI_lt (Nat.pos_of_ne_zero q) hx)))
theorem kd_lt0 (hexec : p.tables.exec = Jvm.exec) (hb : c.code = cc) (hdg : decode cc pc = .ok (.ifCond .lt off, 3)) (hx : x < 2 ^ 31) (ht : (pc : Int) + off = (tgt : Int)) (kf : W p l e R s m args below meth c H locs cells slots Q (F0 m (pc + 3) ls rest)) : W p l e R s m args below meth c H locs cells slots Q (F0 m pc ls (.int (nI x) :: rest)) :=
  lv_if_lt hexec hb hdg ht (fun h => absurd h (nI_pos hx)) (fun _ => kf)
theorem kd_ge0 (hexec : p.tables.exec = Jvm.exec) (hb : c.code = cc) (hdg : decode cc pc = .ok (.ifCond .ge off, 3)) (hx : x < 2 ^ 31) (ht : (pc : Int) + off = (tgt : Int)) (kt : W p l e R s m args below meth c H locs cells slots Q (F0 m tgt ls rest)) : W p l e R s m args below meth c H locs cells slots Q (F0 m pc ls (.int (nI x) :: rest)) :=
  lv_if_ge hexec hb hdg ht (fun _ => kt) (fun h => absurd (nI_pos' hx) h)
end KD2
end KD1
end
section
/-! contracts with explicit worlds: entry, call, return -/
def kd_pre (D : va_G) (cl : List vw_C) (cI cJ : ClassId) (sz : Nat) (W0 : va_W) (U : State) : Prop := U.heap.size = sz ∧ va_P D cl W0 U.heap ∧ va_K D cl (kd_T cI cJ) U ∧ va_D (fun _ => True) W0
def kd_B (D : va_G) (cl : List vw_C) (cI cJ : ClassId) (A : Nat → Prop) (W1 : va_W) (t : State) : Prop := va_P D cl W1 t.heap ∧ va_K D cl (kd_T cI cJ) t ∧ va_D A W1
def kd_QI {S : Type} (D : va_G) (cl : List vw_C) (cI cJ : ClassId) (X : S → Int32) (W1 : S → va_W) (A : Nat → Prop) : Array Value → State → Outcome → State → Prop := va_Qi (S := S) (fun r u => r = X u) (fun u t => kd_B D cl cI cJ A (W1 u) t) A
def kd_QL {S : Type} (D : va_G) (cl : List vw_C) (cI cJ : ClassId) (X : S → Int64) (W1 : S → va_W) (A : Nat → Prop) : Array Value → State → Outcome → State → Prop := va_Ql (S := S) (fun r u => r = X u) (fun u t => kd_B D cl cI cJ A (W1 u) t) A
def kd_QV {S : Type} (D : va_G) (cl : List vw_C) (cI cJ : ClassId) (W1 : S → va_W) (A : Nat → Prop) : Array Value → State → Outcome → State → Prop := va_Qv (S := S) (fun _ => True) (fun u t => kd_B D cl cI cJ A (W1 u) t) A
/-- from the cells W0: y answers X, the cells are W1 then -/
def kd_MI {S : Type} (l : Launch) (y : MethodName) (ws : List Cond) (rm : Room) (av : List Value) (D : va_G) (cl : List vw_C) (cI cJ : ClassId) (W0 : va_W) (X : S → Int32) (W1 : S → va_W) (mc ms : Nat) : Prop :=
  ∀ sz : Nat, Met l y ws rm (va_Pc av (kd_pre D cl cI cJ sz W0)) (kd_QI D cl cI cJ X W1 (va_A W0 sz)) mc ms (va_A W0 sz)
def kd_ML {S : Type} (l : Launch) (y : MethodName) (ws : List Cond) (rm : Room) (av : List Value) (D : va_G) (cl : List vw_C) (cI cJ : ClassId) (W0 : va_W) (X : S → Int64) (W1 : S → va_W) (mc ms : Nat) : Prop :=
  ∀ sz : Nat, Met l y ws rm (va_Pc av (kd_pre D cl cI cJ sz W0)) (kd_QL D cl cI cJ X W1 (va_A W0 sz)) mc ms (va_A W0 sz)
def kd_MV {S : Type} (l : Launch) (y : MethodName) (ws : List Cond) (rm : Room) (av : List Value) (D : va_G) (cl : List vw_C) (cI cJ : ClassId) (W0 : va_W) (W1 : S → va_W) (mc ms : Nat) : Prop :=
  ∀ sz : Nat, Met l y ws rm (va_Pc av (kd_pre D cl cI cJ sz W0)) (kd_QV D cl cI cJ W1 (va_A W0 sz)) mc ms (va_A W0 sz)
theorem kd_fm {W Wc : va_W} {is : List Nat} (h : is.map (fun i => W[i]?) = Wc.map some) : is.filterMap (fun i => W[i]?) = Wc := by
  have h1 : is.filterMap (fun i => W[i]?) = (is.map (fun i => W[i]?)).filterMap id := by rw [List.filterMap_map]; rfl
  rw [h1, h, List.filterMap_map]
  exact List.filterMap_some
theorem kd_blind {av : List Value} {D : va_G} {cl : List vw_C} {cI cJ : ClassId} {sz : Nat} {W0 : va_W} : FrameBlind (va_Pc av (kd_pre D cl cI cJ sz W0)) := by
  intro a U g mk q
  obtain ⟨q0, q1, qP, qK, qD⟩ := q
  exact ⟨q0, q1, qP, va_K.moved (u := U) (U := U.calling g mk a) (Vm.Alike.refl U.vm) qK, qD⟩
section KE
variable {l : Launch} {y : MethodName} {ws ws' : List Cond} {rm : Room} {cc : ByteArray} {maxL : Nat} {av : List Value} {D : va_G} {cl : List vw_C} {cI cJ : ClassId} {W0 : va_W} {mc ms : Nat}
theorem kd_enter {ret : Option FieldType} {Qc : (Nat → Prop) → Array Value → State → Outcome → State → Prop} (hy : plainName y.cls = true) (hw : ws = Cond.code y cc maxL ret :: ws') (hlen : (lg_sl av).length ≤ maxL)
    (k : ∀ (p : Program) (e : Env) (s : State) (m : MethodId) (below : List Frame) (meth : Method) (c : Code) (A : Nat → Prop) (ls : Array Slot), p.tables.exec = Jvm.exec → c.code = cc → meth.sig.returnType = ret → (∀ w ∈ ws, w.before av.toArray s = true) → s.vm.findClass y.cls = some m.cls → meth.locks = false → meth.name = y.name → c.maxLocals = maxL →
      va_P D cl W0 s.heap → va_K D cl (kd_T cI cJ) s → va_D A W0 → (∀ q, s.heap.size ≤ q → A q) → va_S A s.heap s.heap [] → lv_has ls maxL (lv_args 0 av) → W p l e rm s m av.toArray below meth c s.heap [] 0 0 (MQ below (Qc A) av.toArray s mc ms A) (F0 m 0 ls [])) (sz : Nat) :
    Met l y ws rm (va_Pc av (kd_pre D cl cI cJ sz W0)) (Qc (va_A W0 sz)) mc ms (va_A W0 sz) := by
  refine Met.ofW (cc := cc) (maxL := maxL) (ret := ret) hy hw ?_
  intro p e s m args below meth c s₁ B hml hv
  obtain ⟨rfl, hsz, hP, hK, hD0⟩ := hv
  subst hsz
  have hl := lv_entry av (n := maxL) hlen
  rw [lg_entry_eq]
  exact k p e s m below meth c (va_A W0 s.heap.size) _ B.exec B.bytes B.returns (atoms_spec (ws := ws) B.pre) (findClass_of_methodNamed B.named) B.notSynchronized (name_of_methodNamed B.named B.method).1 hml hP hK hD0.self (fun q h => Or.inr h) va_S.rf hl
theorem kd_enterI {S : Type} {X : S → Int32} {W1 : S → va_W} (hy : plainName y.cls = true) (hw : ws = Cond.code y cc maxL (some .int) :: ws') (hlen : (lg_sl av).length ≤ maxL)
    (k : ∀ (p : Program) (e : Env) (s : State) (m : MethodId) (args : Array Value) (below : List Frame) (meth : Method) (c : Code) (A : Nat → Prop) (ls : Array Slot) (Q : State → Prop), p.tables.exec = Jvm.exec → c.code = cc → meth.sig.returnType = (some .int) → (∀ w ∈ ws, w.before args s = true) → s.vm.findClass y.cls = some m.cls → meth.locks = false → meth.name = y.name → c.maxLocals = maxL →
      va_P D cl W0 s.heap → va_K D cl (kd_T cI cJ) s → va_D A W0 → (∀ q, s.heap.size ≤ q → A q) → va_S A s.heap s.heap [] → lv_has ls maxL (lv_args 0 av) →
      (∀ (u : S) (v : Int32) (H : Heap) (locs : List Loc) (pc : Nat) (ls : Array Slot), decode cc pc = .ok (.ireturn, 1) → v = X u → va_S A s.heap H locs → va_P D cl (W1 u) H → va_D A (W1 u) → W p l e rm s m args below meth c H locs mc ms Q (F0 m pc ls [.int v])) → W p l e rm s m args below meth c s.heap [] 0 0 Q (F0 m 0 ls [])) :
    kd_MI l y ws rm av D cl cI cJ W0 X W1 mc ms := fun sz => kd_enter (Qc := fun A => kd_QI D cl cI cJ X W1 A) hy hw hlen (fun p e s m below meth c A ls hx hb hr hts hown hlk hnm hml hP hK hD hA hS hl => k p e s m av.toArray below meth c A ls _ hx hb hr hts hown hlk hnm hml hP hK hD hA hS hl (fun u v H locs pc ls hd hv hS hP hD => W.iret hx hb hr (fun t ht hW => ⟨⟨v, u, rfl, hv, by rw [ht]; exact hP, va_K.moved hW.alike hK, hD⟩, hS.F ht⟩) hS.2.2 hd hlk)) sz
theorem kd_enterZ {S : Type} {X : S → Int32} {W1 : S → va_W} (hy : plainName y.cls = true) (hw : ws = Cond.code y cc maxL (some .boolean) :: ws') (hlen : (lg_sl av).length ≤ maxL) (hz : ∀ u, X u = 0 ∨ X u = 1)
    (k : ∀ (p : Program) (e : Env) (s : State) (m : MethodId) (args : Array Value) (below : List Frame) (meth : Method) (c : Code) (A : Nat → Prop) (ls : Array Slot) (Q : State → Prop), p.tables.exec = Jvm.exec → c.code = cc → meth.sig.returnType = (some .boolean) → (∀ w ∈ ws, w.before args s = true) → s.vm.findClass y.cls = some m.cls → meth.locks = false → meth.name = y.name → c.maxLocals = maxL →
      va_P D cl W0 s.heap → va_K D cl (kd_T cI cJ) s → va_D A W0 → (∀ q, s.heap.size ≤ q → A q) → va_S A s.heap s.heap [] → lv_has ls maxL (lv_args 0 av) →
      (∀ (u : S) (v : Int32) (H : Heap) (locs : List Loc) (pc : Nat) (ls : Array Slot), decode cc pc = .ok (.ireturn, 1) → v = X u → va_S A s.heap H locs → va_P D cl (W1 u) H → va_D A (W1 u) → W p l e rm s m args below meth c H locs mc ms Q (F0 m pc ls [.int v])) → W p l e rm s m args below meth c s.heap [] 0 0 Q (F0 m 0 ls [])) :
    kd_MI l y ws rm av D cl cI cJ W0 X W1 mc ms := fun sz => kd_enter (Qc := fun A => kd_QI D cl cI cJ X W1 A) hy hw hlen (fun p e s m below meth c A ls hx hb hr hts hown hlk hnm hml hP hK hD hA hS hl => k p e s m av.toArray below meth c A ls _ hx hb hr hts hown hlk hnm hml hP hK hD hA hS hl (fun u v H locs pc ls hd hv hS hP hD => W.zret hx hb hr (by rw [hv]; rcases hz u with h | h <;> rw [h] <;> rfl) (fun t ht hW => ⟨⟨v, u, rfl, hv, by rw [ht]; exact hP, va_K.moved hW.alike hK, hD⟩, hS.F ht⟩) hS.2.2 hd hlk)) sz
theorem kd_enterL {S : Type} {X : S → Int64} {W1 : S → va_W} (hy : plainName y.cls = true) (hw : ws = Cond.code y cc maxL (some .long) :: ws') (hlen : (lg_sl av).length ≤ maxL)
    (k : ∀ (p : Program) (e : Env) (s : State) (m : MethodId) (args : Array Value) (below : List Frame) (meth : Method) (c : Code) (A : Nat → Prop) (ls : Array Slot) (Q : State → Prop), p.tables.exec = Jvm.exec → c.code = cc → meth.sig.returnType = (some .long) → (∀ w ∈ ws, w.before args s = true) → s.vm.findClass y.cls = some m.cls → meth.locks = false → meth.name = y.name → c.maxLocals = maxL →
      va_P D cl W0 s.heap → va_K D cl (kd_T cI cJ) s → va_D A W0 → (∀ q, s.heap.size ≤ q → A q) → va_S A s.heap s.heap [] → lv_has ls maxL (lv_args 0 av) →
      (∀ (u : S) (v : Int64) (H : Heap) (locs : List Loc) (pc : Nat) (ls : Array Slot), decode cc pc = .ok (.lreturn, 1) → v = X u → va_S A s.heap H locs → va_P D cl (W1 u) H → va_D A (W1 u) → W p l e rm s m args below meth c H locs mc ms Q (F0 m pc ls [.long v])) → W p l e rm s m args below meth c s.heap [] 0 0 Q (F0 m 0 ls [])) :
    kd_ML l y ws rm av D cl cI cJ W0 X W1 mc ms := fun sz => kd_enter (Qc := fun A => kd_QL D cl cI cJ X W1 A) hy hw hlen (fun p e s m below meth c A ls hx hb hr hts hown hlk hnm hml hP hK hD hA hS hl => k p e s m av.toArray below meth c A ls _ hx hb hr hts hown hlk hnm hml hP hK hD hA hS hl (fun u v H locs pc ls hd hv hS hP hD => W.lret hx hb hr (fun t ht hW => ⟨⟨v, u, rfl, hv, by rw [ht]; exact hP, va_K.moved hW.alike hK, hD⟩, hS.F ht⟩) hS.2.2 hd hlk)) sz
theorem kd_enterV {S : Type} {W1 : S → va_W} (hy : plainName y.cls = true) (hw : ws = Cond.code y cc maxL none :: ws') (hlen : (lg_sl av).length ≤ maxL)
    (k : ∀ (p : Program) (e : Env) (s : State) (m : MethodId) (args : Array Value) (below : List Frame) (meth : Method) (c : Code) (A : Nat → Prop) (ls : Array Slot) (Q : State → Prop), p.tables.exec = Jvm.exec → c.code = cc → meth.sig.returnType = none → (∀ w ∈ ws, w.before args s = true) → s.vm.findClass y.cls = some m.cls → meth.locks = false → meth.name = y.name → c.maxLocals = maxL →
      va_P D cl W0 s.heap → va_K D cl (kd_T cI cJ) s → va_D A W0 → (∀ q, s.heap.size ≤ q → A q) → va_S A s.heap s.heap [] → lv_has ls maxL (lv_args 0 av) →
      (∀ (u : S) (H : Heap) (locs : List Loc) (pc : Nat) (ls : Array Slot), decode cc pc = .ok (.return_, 1) → va_S A s.heap H locs → va_P D cl (W1 u) H → va_D A (W1 u) → W p l e rm s m args below meth c H locs mc ms Q (F0 m pc ls [])) → W p l e rm s m args below meth c s.heap [] 0 0 Q (F0 m 0 ls [])) :
    kd_MV l y ws rm av D cl cI cJ W0 W1 mc ms := fun sz => kd_enter (Qc := fun A => kd_QV D cl cI cJ W1 A) hy hw hlen (fun p e s m below meth c A ls hx hb hr hts hown hlk hnm hml hP hK hD hA hS hl => k p e s m av.toArray below meth c A ls _ hx hb hr hts hown hlk hnm hml hP hK hD hA hS hl (fun u H locs pc ls hd hS hP hD => W.vret hx hb hr (fun t ht hW => ⟨⟨u, rfl, trivial, by rw [ht]; exact hP, va_K.moved hW.alike hK, hD⟩, hS.F ht⟩) hS.2.2 hd hlk)) sz
end KE
section KF
variable {p : Program} {l : Launch} {e : Env} {R : Room} {s : State} {m : MethodId} {args : Array Value} {below : List Frame} {meth : Method} {c : Code} {H : Heap} {locs : List Loc} {cells slots : Nat} {Q : State → Prop}
variable {cc : ByteArray} {pc : Nat} {ls : Array Slot} {rest st0 : List Value} {A : Nat → Prop} {D : va_G} {cl : List vw_C} {Wn Wc Wr : va_W} {b : Nat} {cI cJ : ClassId} {mc ms n nL index maxL : Nat}
variable {S : Type} {X : S → Int32} {X2 : S → Int64} {W1 : S → va_W} {y : MethodName} {ws : List Cond} {rm : Room} {As : List Value} {Ts : List Cond} {own C : String} {bytes : ByteArray} {ret : Option FieldType}
theorem kd_preAt {av : List Value} (hK : va_K D cl (kd_T cI cJ) s) (hP : va_P D cl Wn H) (hD : va_D A Wn) (isC : List Nat) (hC : isC.map (fun i => Wn[i]?) = Wc.map some) (hn : va_nd isC = true) : ∀ U : State, U.heap = H → s.WarmedH U.vm → va_Pc av (kd_pre D cl cI cJ H.size Wc) av.toArray U := by
  intro U hU hW
  exact ⟨rfl, by rw [hU], by rw [hU]; exact hP.sub isC (kd_fm hC), va_K.moved hW.alike hK, (hD.sub isC hn hC).weaken (fun _ _ _ _ => trivial)⟩
theorem kd_goI (hM : kd_MI l y ws rm As D cl cI cJ Wc X W1 mc ms) (hP : va_P D cl Wn H) (hD : va_D A Wn) (hS : va_S A s.heap H locs) (hA : ∀ q, s.heap.size ≤ q → A q) (isC isR : List Nat) (hC : isC.map (fun i => Wn[i]?) = Wc.map some) (hR : isR.map (fun i => Wn[i]?) = Wr.map some) (hnR : va_nd isR = true) (hdis : ∀ i ∈ isR, i ∉ isC)
    {a : Array Value} (hr : va_Run p l e R s m args below meth c H locs cells slots mc ms (F0 m pc ls st0) rest (kd_QI D cl cI cJ X W1 (va_A Wc H.size) a) (va_A Wc H.size))
    (kk : ∀ (u : S) (H1 : Heap) (locs1 : List Loc), va_P D cl (Wr ++ W1 u) H1 → va_D A (Wr ++ W1 u) → va_S A s.heap H1 locs1 → W p l e R s m args below meth c H1 locs1 (cells + mc) (slots + ms) Q (F0 m (pc + 3) ls (.int (X u) :: rest))) : W p l e R s m args below meth c H locs cells slots Q (F0 m pc ls st0) := by
  have hFc := va_free (wc := Wc) hD hS hA isC hC
  refine va_calli hr hS (fun q _ h => hFc q h) hFc (fun r u t H1 locs1 ht hvm hw hB hz1 hk1 hS1 => ?_)
  obtain ⟨hP1, hK1, hD1⟩ := hB
  rw [ht] at hP1
  obtain ⟨hP2, hD2⟩ := va_join hP hD isC isR hC hR hnR hdis hk1 hFc hP1 hD1
  rw [hw]
  exact kk u H1 locs1 hP2 hD2 hS1
theorem kd_goL (hM : kd_ML l y ws rm As D cl cI cJ Wc X2 W1 mc ms) (hP : va_P D cl Wn H) (hD : va_D A Wn) (hS : va_S A s.heap H locs) (hA : ∀ q, s.heap.size ≤ q → A q) (isC isR : List Nat) (hC : isC.map (fun i => Wn[i]?) = Wc.map some) (hR : isR.map (fun i => Wn[i]?) = Wr.map some) (hnR : va_nd isR = true) (hdis : ∀ i ∈ isR, i ∉ isC)
    {a : Array Value} (hr : va_Run p l e R s m args below meth c H locs cells slots mc ms (F0 m pc ls st0) rest (kd_QL D cl cI cJ X2 W1 (va_A Wc H.size) a) (va_A Wc H.size))
    (kk : ∀ (u : S) (H1 : Heap) (locs1 : List Loc), va_P D cl (Wr ++ W1 u) H1 → va_D A (Wr ++ W1 u) → va_S A s.heap H1 locs1 → W p l e R s m args below meth c H1 locs1 (cells + mc) (slots + ms) Q (F0 m (pc + 3) ls (.long (X2 u) :: rest))) : W p l e R s m args below meth c H locs cells slots Q (F0 m pc ls st0) := by
  have hFc := va_free (wc := Wc) hD hS hA isC hC
  refine va_calll hr hS (fun q _ h => hFc q h) hFc (fun r u t H1 locs1 ht hvm hw hB hz1 hk1 hS1 => ?_)
  obtain ⟨hP1, hK1, hD1⟩ := hB
  rw [ht] at hP1
  obtain ⟨hP2, hD2⟩ := va_join hP hD isC isR hC hR hnR hdis hk1 hFc hP1 hD1
  rw [hw]
  exact kk u H1 locs1 hP2 hD2 hS1
theorem kd_goV (hM : kd_MV l y ws rm As D cl cI cJ Wc W1 mc ms) (hP : va_P D cl Wn H) (hD : va_D A Wn) (hS : va_S A s.heap H locs) (hA : ∀ q, s.heap.size ≤ q → A q) (isC isR : List Nat) (hC : isC.map (fun i => Wn[i]?) = Wc.map some) (hR : isR.map (fun i => Wn[i]?) = Wr.map some) (hnR : va_nd isR = true) (hdis : ∀ i ∈ isR, i ∉ isC)
    {a : Array Value} (hr : va_Run p l e R s m args below meth c H locs cells slots mc ms (F0 m pc ls st0) rest (kd_QV D cl cI cJ W1 (va_A Wc H.size) a) (va_A Wc H.size))
    (kk : ∀ (u : S) (H1 : Heap) (locs1 : List Loc), va_P D cl (Wr ++ W1 u) H1 → va_D A (Wr ++ W1 u) → va_S A s.heap H1 locs1 → W p l e R s m args below meth c H1 locs1 (cells + mc) (slots + ms) Q (F0 m (pc + 3) ls rest)) : W p l e R s m args below meth c H locs cells slots Q (F0 m pc ls st0) := by
  have hFc := va_free (wc := Wc) hD hS hA isC hC
  refine va_callv hr hS (fun q _ h => hFc q h) hFc (fun u t H1 locs1 ht hvm hw hB hz1 hk1 hS1 => ?_)
  obtain ⟨hP1, hK1, hD1⟩ := hB
  rw [ht] at hP1
  obtain ⟨hP2, hD2⟩ := va_join hP hD isC isR hC hR hnR hdis hk1 hFc hP1 hD1
  exact kk u H1 locs1 hP2 hD2 hS1
/-- invokevirtual, an int comes back -/
theorem kd_VI (Sx : CallFix p m c cc nL s args Ts own) (hM : kd_MI l y ws rm (.ref b :: As) D cl cI cJ Wc X W1 mc ms) (cw : CallW R s args own C index y bytes maxL ret ws rm mc ms n) (hK : va_K D cl (kd_T cI cJ) s) (hP : va_P D cl Wn H) (hD : va_D A Wn) (hS : va_S A s.heap H locs) (hA : ∀ q, s.heap.size ≤ q → A q) (isC isR : List Nat) (hC : isC.map (fun i => Wn[i]?) = Wc.map some) (hR : isR.map (fun i => Wn[i]?) = Wr.map some) (hnd : (va_nd isC && va_nd isR) = true) (hdis : ∀ i ∈ isR, i ∉ isC)
    (q0 : Nat) {ci : Nat} {T : u_T} {N : Nat} {fs : List Value} (hc : cl[ci]? = some (C, T, N)) (hq : Wc[q0]? = some (b, .inr (ci, fs))) (hst : st0 = As.reverse ++ .ref b :: rest) (hAs : As.length = n) (hls : ls.size = nL) (hroom : (rest.map fun v => v.category).sum ≤ 8) (hdg : decode cc pc = .ok (.invokevirtual index, 3)) (hf : cells + mc ≤ R.cells ∧ slots + ms ≤ R.slots)
    (kk : ∀ (u : S) (H1 : Heap) (locs1 : List Loc), va_P D cl (Wr ++ W1 u) H1 → va_D A (Wr ++ W1 u) → va_S A s.heap H1 locs1 → W p l e R s m args below meth c H1 locs1 (cells + mc) (slots + ms) Q (F0 m (pc + 3) ls (.int (X u) :: rest))) : W p l e R s m args below meth c H locs cells slots Q (F0 m pc ls st0) := by
  obtain ⟨h1, h2⟩ := Bool.and_eq_true_iff.mp hnd
  exact kd_goI hM hP hD hS hA isC isR hC hR h2 hdis (va_runV (As := As) (rest := rest) Sx (hM H.size) cw ⟨kd_blind, va_recv hK (hP.sub isC (kd_fm hC)) hc hq, kd_preAt hK hP hD isC hC h1⟩ rfl hAs hls hst (lv_room (ls := ls) (m := m) (pc := pc) (rest := st0) hroom) hdg hf) kk
/-- invokevirtual, a long comes back -/
theorem kd_VL (Sx : CallFix p m c cc nL s args Ts own) (hM : kd_ML l y ws rm (.ref b :: As) D cl cI cJ Wc X2 W1 mc ms) (cw : CallW R s args own C index y bytes maxL ret ws rm mc ms n) (hK : va_K D cl (kd_T cI cJ) s) (hP : va_P D cl Wn H) (hD : va_D A Wn) (hS : va_S A s.heap H locs) (hA : ∀ q, s.heap.size ≤ q → A q) (isC isR : List Nat) (hC : isC.map (fun i => Wn[i]?) = Wc.map some) (hR : isR.map (fun i => Wn[i]?) = Wr.map some) (hnd : (va_nd isC && va_nd isR) = true) (hdis : ∀ i ∈ isR, i ∉ isC)
    (q0 : Nat) {ci : Nat} {T : u_T} {N : Nat} {fs : List Value} (hc : cl[ci]? = some (C, T, N)) (hq : Wc[q0]? = some (b, .inr (ci, fs))) (hst : st0 = As.reverse ++ .ref b :: rest) (hAs : As.length = n) (hls : ls.size = nL) (hroom : (rest.map fun v => v.category).sum ≤ 8) (hdg : decode cc pc = .ok (.invokevirtual index, 3)) (hf : cells + mc ≤ R.cells ∧ slots + ms ≤ R.slots)
    (kk : ∀ (u : S) (H1 : Heap) (locs1 : List Loc), va_P D cl (Wr ++ W1 u) H1 → va_D A (Wr ++ W1 u) → va_S A s.heap H1 locs1 → W p l e R s m args below meth c H1 locs1 (cells + mc) (slots + ms) Q (F0 m (pc + 3) ls (.long (X2 u) :: rest))) : W p l e R s m args below meth c H locs cells slots Q (F0 m pc ls st0) := by
  obtain ⟨h1, h2⟩ := Bool.and_eq_true_iff.mp hnd
  exact kd_goL hM hP hD hS hA isC isR hC hR h2 hdis (va_runV (As := As) (rest := rest) Sx (hM H.size) cw ⟨kd_blind, va_recv hK (hP.sub isC (kd_fm hC)) hc hq, kd_preAt hK hP hD isC hC h1⟩ rfl hAs hls hst (lv_room (ls := ls) (m := m) (pc := pc) (rest := st0) hroom) hdg hf) kk
theorem kd_VV (Sx : CallFix p m c cc nL s args Ts own) (hM : kd_MV l y ws rm (.ref b :: As) D cl cI cJ Wc W1 mc ms) (cw : CallW R s args own C index y bytes maxL ret ws rm mc ms n) (hK : va_K D cl (kd_T cI cJ) s) (hP : va_P D cl Wn H) (hD : va_D A Wn) (hS : va_S A s.heap H locs) (hA : ∀ q, s.heap.size ≤ q → A q) (isC isR : List Nat) (hC : isC.map (fun i => Wn[i]?) = Wc.map some) (hR : isR.map (fun i => Wn[i]?) = Wr.map some) (hnd : (va_nd isC && va_nd isR) = true) (hdis : ∀ i ∈ isR, i ∉ isC)
    (q0 : Nat) {ci : Nat} {T : u_T} {N : Nat} {fs : List Value} (hc : cl[ci]? = some (C, T, N)) (hq : Wc[q0]? = some (b, .inr (ci, fs))) (hst : st0 = As.reverse ++ .ref b :: rest) (hAs : As.length = n) (hls : ls.size = nL) (hroom : (rest.map fun v => v.category).sum ≤ 8) (hdg : decode cc pc = .ok (.invokevirtual index, 3)) (hf : cells + mc ≤ R.cells ∧ slots + ms ≤ R.slots)
    (kk : ∀ (u : S) (H1 : Heap) (locs1 : List Loc), va_P D cl (Wr ++ W1 u) H1 → va_D A (Wr ++ W1 u) → va_S A s.heap H1 locs1 → W p l e R s m args below meth c H1 locs1 (cells + mc) (slots + ms) Q (F0 m (pc + 3) ls rest)) : W p l e R s m args below meth c H locs cells slots Q (F0 m pc ls st0) := by
  obtain ⟨h1, h2⟩ := Bool.and_eq_true_iff.mp hnd
  exact kd_goV hM hP hD hS hA isC isR hC hR h2 hdis (va_runV (As := As) (rest := rest) Sx (hM H.size) cw ⟨kd_blind, va_recv hK (hP.sub isC (kd_fm hC)) hc hq, kd_preAt hK hP hD isC hC h1⟩ rfl hAs hls hst (lv_room (ls := ls) (m := m) (pc := pc) (rest := st0) hroom) hdg hf) kk
/-- invokestatic -/
theorem kd_SI (Sx : CallFix p m c cc nL s args Ts own) (hM : kd_MI l y ws rm As D cl cI cJ Wc X W1 mc ms) (cw : CallB R s args own index y bytes maxL ret ws rm mc ms n ∧ (Cond.static y).before args s = true) (hK : va_K D cl (kd_T cI cJ) s) (hP : va_P D cl Wn H) (hD : va_D A Wn) (hS : va_S A s.heap H locs) (hA : ∀ q, s.heap.size ≤ q → A q) (isC isR : List Nat) (hC : isC.map (fun i => Wn[i]?) = Wc.map some) (hR : isR.map (fun i => Wn[i]?) = Wr.map some) (hnd : (va_nd isC && va_nd isR) = true) (hdis : ∀ i ∈ isR, i ∉ isC)
    (hst : st0 = As.reverse ++ rest) (hAs : As.length = n) (hls : ls.size = nL) (hroom : (rest.map fun v => v.category).sum ≤ 8) (hdg : decode cc pc = .ok (.invokestatic index, 3)) (hf : cells + mc ≤ R.cells ∧ slots + ms ≤ R.slots)
    (kk : ∀ (u : S) (H1 : Heap) (locs1 : List Loc), va_P D cl (Wr ++ W1 u) H1 → va_D A (Wr ++ W1 u) → va_S A s.heap H1 locs1 → W p l e R s m args below meth c H1 locs1 (cells + mc) (slots + ms) Q (F0 m (pc + 3) ls (.int (X u) :: rest))) : W p l e R s m args below meth c H locs cells slots Q (F0 m pc ls st0) := by
  obtain ⟨h1, h2⟩ := Bool.and_eq_true_iff.mp hnd
  exact kd_goI hM hP hD hS hA isC isR hC hR h2 hdis (va_runS (As := As) (rest := rest) Sx (hM H.size) cw ⟨kd_blind, kd_preAt hK hP hD isC hC h1⟩ rfl hAs hls hst (lv_room (ls := ls) (m := m) (pc := pc) (rest := st0) hroom) hdg hf) kk
theorem kd_SV (Sx : CallFix p m c cc nL s args Ts own) (hM : kd_MV l y ws rm As D cl cI cJ Wc W1 mc ms) (cw : CallB R s args own index y bytes maxL ret ws rm mc ms n ∧ (Cond.static y).before args s = true) (hK : va_K D cl (kd_T cI cJ) s) (hP : va_P D cl Wn H) (hD : va_D A Wn) (hS : va_S A s.heap H locs) (hA : ∀ q, s.heap.size ≤ q → A q) (isC isR : List Nat) (hC : isC.map (fun i => Wn[i]?) = Wc.map some) (hR : isR.map (fun i => Wn[i]?) = Wr.map some) (hnd : (va_nd isC && va_nd isR) = true) (hdis : ∀ i ∈ isR, i ∉ isC)
    (hst : st0 = As.reverse ++ rest) (hAs : As.length = n) (hls : ls.size = nL) (hroom : (rest.map fun v => v.category).sum ≤ 8) (hdg : decode cc pc = .ok (.invokestatic index, 3)) (hf : cells + mc ≤ R.cells ∧ slots + ms ≤ R.slots)
    (kk : ∀ (u : S) (H1 : Heap) (locs1 : List Loc), va_P D cl (Wr ++ W1 u) H1 → va_D A (Wr ++ W1 u) → va_S A s.heap H1 locs1 → W p l e R s m args below meth c H1 locs1 (cells + mc) (slots + ms) Q (F0 m (pc + 3) ls rest)) : W p l e R s m args below meth c H locs cells slots Q (F0 m pc ls st0) := by
  obtain ⟨h1, h2⟩ := Bool.and_eq_true_iff.mp hnd
  exact kd_goV hM hP hD hS hA isC isR hC hR h2 hdis (va_runS (As := As) (rest := rest) Sx (hM H.size) cw ⟨kd_blind, kd_preAt hK hP hD isC hC h1⟩ rfl hAs hls hst (lv_room (ls := ls) (m := m) (pc := pc) (rest := st0) hroom) hdg hf) kk
/-- invokespecial <init> -/
theorem kd_IV (Sx : CallFix p m c cc nL s args Ts own) (hM : kd_MV l y ws rm (.ref b :: As) D cl cI cJ Wc W1 mc ms) (cw : CallB R s args own index y bytes maxL none ws rm mc ms n ∧ y.name = "<init>" ∧ (Cond.instanceMethod y).before args s = true) (hK : va_K D cl (kd_T cI cJ) s) (hP : va_P D cl Wn H) (hD : va_D A Wn) (hS : va_S A s.heap H locs) (hA : ∀ q, s.heap.size ≤ q → A q) (isC isR : List Nat) (hC : isC.map (fun i => Wn[i]?) = Wc.map some) (hR : isR.map (fun i => Wn[i]?) = Wr.map some) (hnd : (va_nd isC && va_nd isR) = true) (hdis : ∀ i ∈ isR, i ∉ isC)
    (hst : st0 = As.reverse ++ .ref b :: rest) (hAs : As.length = n) (hls : ls.size = nL) (hroom : (rest.map fun v => v.category).sum ≤ 8) (hdg : decode cc pc = .ok (.invokespecial index, 3)) (hf : cells + mc ≤ R.cells ∧ slots + ms ≤ R.slots)
    (kk : ∀ (u : S) (H1 : Heap) (locs1 : List Loc), va_P D cl (Wr ++ W1 u) H1 → va_D A (Wr ++ W1 u) → va_S A s.heap H1 locs1 → W p l e R s m args below meth c H1 locs1 (cells + mc) (slots + ms) Q (F0 m (pc + 3) ls rest)) : W p l e R s m args below meth c H locs cells slots Q (F0 m pc ls st0) := by
  obtain ⟨h1, h2⟩ := Bool.and_eq_true_iff.mp hnd
  exact kd_goV hM hP hD hS hA isC isR hC hR h2 hdis (va_runI (As := As) (rest := rest) Sx (hM H.size) cw ⟨kd_blind, kd_preAt hK hP hD isC hC h1⟩ rfl hAs hls hst (lv_room (ls := ls) (m := m) (pc := pc) (rest := st0) hroom) hdg hf) kk
/-- System.arraycopy of ints by their numbers -/
theorem kd_copy (hexec : p.tables.exec = Jvm.exec) (hb : c.code = cc) (hml : c.maxLocals = ls.size) (hown : s.vm.findClass own = some m.cls) (hlink : (Cond.methodLink own index arraycopyName).before args s = true) (hnat : (Cond.native arraycopyName).before args s = true) (hstat : (Cond.static arraycopyName).before args s = true) (hini : (Cond.initialized "java/lang/System").before args s = true)
    (hK : va_K D cl (kd_T cI cJ) s) (hP : va_P D cl Wn H) (hD : va_D A Wn) (hS : va_S A s.heap H locs) (q0 q1 : Nat) {a0 a1 n0 n1 : Nat} {f g : Nat → Nat} (ha0 : Wn[q0]? = some (a0, kd_ar cI n0 f)) (ha1 : Wn[q1]? = some (a1, kd_ar cI n1 g)) {k : Nat} (h4 : k ≤ n0) (h5 : k ≤ n1) (hk : k < 2 ^ 31)
    (hframes : 1 ≤ R.frames) (hlocals : (rest.map fun v => v.category).sum + (nativeFrameWords "java/lang/System" "arraycopy" 5 + 11) ≤ R.locals) (hdg : decode cc pc = .ok (.invokestatic index, 3))
    (kk : ∀ (H1 : Heap) (locs1 : List Loc), va_P D cl (Wn.set q1 (a1, kd_ar cI n1 (va_cpy f g 0 0 k))) H1 → va_D A (Wn.set q1 (a1, kd_ar cI n1 (va_cpy f g 0 0 k))) → va_S A s.heap H1 locs1 → W p l e R s m args below meth c H1 locs1 cells slots Q (F0 m (pc + 3) ls rest)) : W p l e R s m args below meth c H locs cells slots Q (F0 m pc ls (.int (nI k) :: .int (nI 0) :: .ref a1 :: .int (nI 0) :: .ref a0 :: rest)) := by
  have e0 : (nI 0).toNatClampNeg = 0 := rfl
  have ek : (nI k).toNatClampNeg = k := nI_clamp hk
  refine va_copyi hexec hb hml hown hlink hnat hstat hini hK hP hD hS q0 q1 0 0 ha0 ha1 rfl rfl rfl (by decide) (by decide) (nI_pos hk) (by rw [e0, ek]; omega) (by rw [e0, ek]; omega) (fun _ _ => rfl) hframes hlocals hdg ?_
  rw [e0, ek, kd_cpy]
  exact kk
end KF
end
section
/-! the pure model: numbers modulo P -/
def pRed (P : Nat) (v : Int32) : Nat := (v.toInt % (P : Int)).toNat
theorem pRed_lt {P : Nat} (h : 0 < P) (v : Int32) : pRed P v < P := by
  have h1 := Int.emod_nonneg v.toInt (b := (P : Int)) (by omega)
  have h2 := Int.emod_lt_of_pos v.toInt (b := (P : Int)) (by omega)
  unfold pRed
  omega
theorem em_char {v x q P : Int} (h : v = x + P * q) (h0 : 0 ≤ x) (h1 : x < P) : v % P = x := by
  rw [h, Int.add_mul_emod_self_left]
  exact Int.emod_eq_of_lt h0 h1
theorem red_pos {P : Nat} (h0 : 0 < P) (h1 : P < 2 ^ 31) {v : Int32} (h : 0 ≤ v - v / nI P * nI P) : v - v / nI P * nI P = nI (pRed P v) := by
  have hm := rem_toInt v (nI P)
  have hp : (nI P).toInt = (P : Int) := nI_toInt h1
  rw [hp] at hm
  have hb := tmod_bounds (a := v.toInt) (M := (P : Int)) (by omega)
  have hn : 0 ≤ v.toInt.tmod P := by rw [← hm]; exact Jvm.Kit.i32_nonneg.mp h
  have hv := Int.tmod_add_mul_tdiv v.toInt (P : Int)
  have e := em_char (v := v.toInt) (x := v.toInt.tmod P) (q := v.toInt.tdiv P) (P := P) hv.symm hn hb.2
  apply Int32.toInt_inj.mp
  have hlt := pRed_lt h0 v
  rw [hm, nI_toInt (by omega)]
  unfold pRed
  rw [e]
  omega
theorem red_neg {P : Nat} (h0 : 0 < P) (h1 : P < 2 ^ 31) {v : Int32} (h : ¬ 0 ≤ v - v / nI P * nI P) : v - v / nI P * nI P + nI P = nI (pRed P v) := by
  have hm := rem_toInt v (nI P)
  have hp : (nI P).toInt = (P : Int) := nI_toInt h1
  rw [hp] at hm
  have hb := tmod_bounds (a := v.toInt) (M := (P : Int)) (by omega)
  have hn : ¬ 0 ≤ v.toInt.tmod P := by rw [← hm]; exact fun z => h (Jvm.Kit.i32_nonneg.mpr z)
  have hv := Int.tmod_add_mul_tdiv v.toInt (P : Int)
  have hq : v.toInt = (v.toInt.tmod P + P) + P * (v.toInt.tdiv P - 1) := by rw [Int.mul_sub, Int.mul_one]; omega
  have e := em_char hq (by omega) (by omega)
  apply Int32.toInt_inj.mp
  have hlt := pRed_lt h0 v
  rw [Jvm.Kit.i32_add (by rw [hm, hp]; omega) (by rw [hm, hp]; omega), hm, hp, nI_toInt (by omega)]
  unfold pRed
  rw [e]
  omega
def pNeg (P a : Nat) : Nat := if a = 0 then 0 else P - a
theorem pNeg_lt {P a : Nat} (h : 0 < P) : pNeg P a < P := by
  unfold pNeg
  split <;> omega
def pInv (P a : Nat) : Nat := a ^ (P - 2) % P
theorem pInv_lt {P a : Nat} (h : 0 < P) : pInv P a < P := Nat.mod_lt _ h
theorem pw_sq (P r s k : Nat) : (r * ((0 + s * s) % P) ^ k) % P = (r * s ^ (2 * k)) % P := by
  rw [Nat.zero_add, Nat.mul_mod, ← Nat.pow_mod, ← Nat.mul_mod, Nat.pow_mul, Nat.pow_two]
theorem pw_odd (P r s k : Nat) : (((0 + r * s) % P) * ((0 + s * s) % P) ^ k) % P = (r * s ^ (2 * k + 1)) % P := by
  rw [pw_sq, Nat.zero_add, Nat.mul_mod, Nat.mod_mod, ← Nat.mul_mod, Nat.pow_succ, Nat.mul_assoc, Nat.mul_comm s]
theorem mul_small {P a b : Nat} (hP : P ≤ 46337) (ha : a < P) (hb : b < P) : a * b < 2 ^ 32 := by
  have h1 : a * b ≤ 46337 * 46337 := Nat.mul_le_mul (by omega) (by omega)
  omega
/-- a cell of ints by another function that agrees on its places -/
theorem kd_swap {D : va_G} {cl : List vw_C} {A : Nat → Prop} {ws : va_W} {H : Heap} {a n : Nat} {cI : ClassId} {f g : Nat → Nat} (hP : va_P D cl ws H) (hD : va_D A ws) (k : Nat) (hk : ws[k]? = some (a, kd_ar cI n f)) (h : ∀ j, j < n → f j = g j) : va_P D cl (ws.set k (a, kd_ar cI n g)) H ∧ va_D A (ws.set k (a, kd_ar cI n g)) := by
  have h1 : H[a]? = some (arrV cI n (fun j => .int (nI (f j)))) := hP k _ hk
  have h2 : arrV cI n (fun j => .int (nI (f j))) = arrV cI n (fun j => .int (nI (g j))) := by
    unfold arrV
    congr 1
    apply Array.ext
    · simp
    · intro i hi _
      simp only [Array.getElem_ofFn]
      rw [h i (by simpa using hi)]
  exact ⟨hP.set hD hk (show H[a]? = some (arrV cI n (fun j => .int (nI (g j)))) by rw [h1, h2]) (fun _ _ => rfl), hD.set hk⟩
theorem kd_swapL {D : va_G} {cl : List vw_C} {A : Nat → Prop} {ws : va_W} {H : Heap} {a n : Nat} {cJ : ClassId} {f g : Nat → Nat} (hP : va_P D cl ws H) (hD : va_D A ws) (k : Nat) (hk : ws[k]? = some (a, kd_al cJ n f)) (h : ∀ j, j < n → f j = g j) : va_P D cl (ws.set k (a, kd_al cJ n g)) H ∧ va_D A (ws.set k (a, kd_al cJ n g)) := by
  have h1 : H[a]? = some (arrV cJ n (fun j => .long (lN (f j)))) := hP k _ hk
  have h2 : arrV cJ n (fun j => .long (lN (f j))) = arrV cJ n (fun j => .long (lN (g j))) := by
    unfold arrV
    congr 1
    apply Array.ext
    · simp
    · intro i hi _
      simp only [Array.getElem_ofFn]
      rw [h i (by simpa using hi)]
  exact ⟨hP.set hD hk (show H[a]? = some (arrV cJ n (fun j => .long (lN (g j)))) by rw [h1, h2]) (fun _ _ => rfl), hD.set hk⟩
theorem up_self {f : Nat → Nat} {k x : Nat} : va_up f k x k = x := if_pos rfl
theorem up_ne {f : Nat → Nat} {k x j : Nat} (h : j ≠ k) : va_up f k x j = f j := if_neg h
theorem cpy_all {f g : Nat → Nat} {n j : Nat} (h : j < n) : va_cpy f g 0 0 n j = f j := by
  unfold va_cpy
  rw [if_pos ⟨Nat.zero_le _, by omega⟩]
  congr 1
  omega
def pSeed (v : Int32) : Nat := v.toBitVec.toNat % 2 ^ 31
theorem pSeed_eq (v : Int32) : v &&& nI 2147483647 = nI (pSeed v) := pk_and v 31 (by decide)
theorem pSeed_lt (v : Int32) : pSeed v < 2 ^ 31 := Nat.mod_lt _ (by decide)
def pGen (g : Nat) : Nat := (1103515245 * g + 12345) % 2 ^ 31
theorem pGen_lt (g : Nat) : pGen g < 2 ^ 31 := Nat.mod_lt _ (by decide)
theorem pGen_eq (g : Nat) : nI (1103515245 * g + 12345) &&& nI 2147483647 = nI (pGen g) := by
  rw [pk_and _ (m := nI 2147483647) 31 (by decide)]
  have h : (nI (1103515245 * g + 12345)).toBitVec.toNat = (1103515245 * g + 12345) % 2 ^ 32 := by
    show (BitVec.ofNat 32 _).toNat = _
    exact BitVec.toNat_ofNat _ _
  rw [h]
  have e : (1103515245 * g + 12345) % 2 ^ 32 % 2 ^ 31 = pGen g := by
    unfold pGen
    omega
  rw [e]
/-- the sums of a product: entry by entry, as they came -/
def pAcc (P : Nat) (rows cols vals vec : Nat → Nat) : Nat → Nat → Nat
  | 0 => fun _ => 0
  | i + 1 => va_up (pAcc P rows cols vals vec i) (rows i) ((pAcc P rows cols vals vec i (rows i) + vals i * vec (cols i)) % P)
theorem pAcc_lt {P : Nat} (h : 0 < P) (rows cols vals vec : Nat → Nat) : ∀ i j, pAcc P rows cols vals vec i j < P
  | 0, _ => h
  | i + 1, j => by
    unfold pAcc va_up
    split
    · exact Nat.mod_lt _ h
    · exact pAcc_lt h rows cols vals vec i j
theorem lt_up {x : Nat → Nat} {i v : Nat} (h : ∀ j, j < i → x j = v) : ∀ j, j < i + 1 → va_up x i v j = v := by
  intro j hj
  by_cases e9 : j = i
  · rw [e9, up_self]
  · rw [up_ne e9]
    exact h j (by omega)
def pB (c : Prop) [Decidable c] : Nat := if c then 1 else 0
theorem pB_01 (c : Prop) [Decidable c] : nI (pB c) = 0 ∨ nI (pB c) = 1 := by
  unfold pB
  split
  · exact Or.inr (by decide)
  · exact Or.inl nI_0
theorem pB_t {c : Prop} [Decidable c] (h : c) : pB c = 1 := if_pos h
theorem pB_f {c : Prop} [Decidable c] (h : ¬ c) : pB c = 0 := if_neg h
theorem pB_lt (c : Prop) [Decidable c] : pB c < 2 := by
  unfold pB
  split <;> omega
end
section
set_option maxHeartbeats 4000000 in
set_option maxRecDepth 100000 in
/-- (sum + a b) modulo P -/
theorem c_X2_plusProduct (l : Launch) (D : va_G) (cI cJ : ClassId) (h0 P s0 a0 b0 : Nat) (g1 : 2 ≤ P) (g2 : P ≤ 46337) (g3 : s0 < P) (g4 : a0 < P) (g5 : b0 < P) : kd_MI (S := Unit) l yX2_plusProduct wsX2_plusProduct { frames := 0, cells := 0, slots := 0, locals := 0 } [.ref h0, .int (nI s0), .int (nI a0), .int (nI b0)] D vwCl cI cJ [(h0, .inr (2, [.int (nI P)]))] (fun _ => nI ((s0 + a0 * b0) % P)) (fun _ => [(h0, .inr (2, [.int (nI P)]))]) 0 0 := by
  refine kd_enterI (cc := cX2_plusProduct) (maxL := 4) (by decide) rfl (Nat.le_of_ble_eq_true rfl) ?_
  intro p e s m args below meth c A ls Q hx hb hr hts hown hlk hnm hml hP hK hD hA hS hl ret
  have hl : lv_has ls 4 [(0, .ref h0), (1, .int (nI s0)), (2, .int (nI a0)), (3, .int (nI b0))] := hl
  have hown : s.vm.findClass RX2 = some m.cls := hown
  have i_X2 : ∀ w ∈ wsX20, w ∈ wsX2_plusProduct := by decide +kernel
  have fl15 := hts (.fieldLink RX2 15 "KrylovDesk$Modulus" "prime" "I") (by decide +kernel)
  refine lv_iload_n hx hb dX2_plusProduct_0 rfl (lv_at hl 1 rfl) ?_
  refine kd_i2l hx hb (by omega) dX2_plusProduct_1 ?_
  refine lv_iload_n hx hb dX2_plusProduct_2 rfl (lv_at hl 2 rfl) ?_
  refine kd_i2l hx hb (by omega) dX2_plusProduct_3 ?_
  refine lv_iload_n hx hb dX2_plusProduct_4 rfl (lv_at hl 3 rfl) ?_
  refine kd_i2l hx hb (by omega) dX2_plusProduct_5 ?_
  refine kd_lmul hx hb dX2_plusProduct_6 ?_
  refine kd_ladd hx hb dX2_plusProduct_7 ?_
  refine lv_aload_n hx hb dX2_plusProduct_8 rfl (lv_at hl 0 rfl) ?_
  refine va_get (D := D) (ci := 2) (v := .int (nI P)) (C := RX2) (T := TX2) (N := 1) hx hb hts i_X2 hown hK hP 0 rfl rfl 0 (by decide) fl15 (fun _ h9 => h9) rfl dX2_plusProduct_9 ?_
  refine kd_i2l hx hb (by omega) dX2_plusProduct_12 ?_
  refine kd_lrem hx hb (by have := mul_small g2 g4 g5; omega) (by omega) (by omega) dX2_plusProduct_13 ?_
  refine kd_l2i hx hb dX2_plusProduct_14 ?_
  exact ret () _ _ _ _ _ dX2_plusProduct_15 rfl hS (hP.sub [0] rfl) (hD.sub [0] (by decide) rfl)

set_option maxHeartbeats 4000000 in
set_option maxRecDepth 100000 in
/-- less a -/
theorem c_X2_negative (l : Launch) (D : va_G) (cI cJ : ClassId) (h0 P a0 : Nat) (g1 : 2 ≤ P) (g2 : P ≤ 46337) (g3 : a0 < P) : kd_MI (S := Unit) l yX2_negative wsX2_negative { frames := 0, cells := 0, slots := 0, locals := 0 } [.ref h0, .int (nI a0)] D vwCl cI cJ [(h0, .inr (2, [.int (nI P)]))] (fun _ => nI (pNeg P a0)) (fun _ => [(h0, .inr (2, [.int (nI P)]))]) 0 0 := by
  refine kd_enterI (cc := cX2_negative) (maxL := 2) (by decide) rfl (Nat.le_of_ble_eq_true rfl) ?_
  intro p e s m args below meth c A ls Q hx hb hr hts hown hlk hnm hml hP hK hD hA hS hl ret
  have hl : lv_has ls 2 [(0, .ref h0), (1, .int (nI a0))] := hl
  have hown : s.vm.findClass RX2 = some m.cls := hown
  have i_X2 : ∀ w ∈ wsX20, w ∈ wsX2_negative := by decide +kernel
  have fl15 := hts (.fieldLink RX2 15 "KrylovDesk$Modulus" "prime" "I") (by decide +kernel)
  refine lv_iload_n hx hb dX2_negative_0 rfl (lv_at hl 1 rfl) ?_
  refine kd_ne0 (tgt := 8) hx hb dX2_negative_1 (by decide) (by omega) (fun c_1 => ?_) (fun c_1 => ?_)
  · skip
    refine lv_aload_n hx hb dX2_negative_8 rfl (lv_at hl 0 rfl) ?_
    refine va_get (D := D) (ci := 2) (v := .int (nI P)) (C := RX2) (T := TX2) (N := 1) hx hb hts i_X2 hown hK hP 0 rfl rfl 0 (by decide) fl15 (fun _ h9 => h9) rfl dX2_negative_9 ?_
    refine lv_iload_n hx hb dX2_negative_12 rfl (lv_at hl 1 rfl) ?_
    refine kd_sub hx hb (by omega) dX2_negative_13 ?_
    exact ret () _ _ _ _ _ dX2_negative_14 (by unfold pNeg; simp [c_1]) hS (hP.sub [0] rfl) (hD.sub [0] (by decide) rfl)
  · skip
    refine lv_iconst (v := (nI 0)) hx hb dX2_negative_4 (by decide) ?_
    refine lv_goto (tgt := 14) hx hb dX2_negative_5 (by decide) ?_
    exact ret () _ _ _ _ _ dX2_negative_14 (by unfold pNeg; simp [c_1]) hS (hP.sub [0] rfl) (hD.sub [0] (by decide) rfl)

set_option maxHeartbeats 4000000 in
set_option maxRecDepth 100000 in
/-- a value modulo P -/
theorem c_X2_reduce (l : Launch) (D : va_G) (cI cJ : ClassId) (h0 P : Nat) (v0 : Int32) (g1 : 2 ≤ P) (g2 : P ≤ 46337) : kd_MI (S := Unit) l yX2_reduce wsX2_reduce { frames := 0, cells := 0, slots := 0, locals := 0 } [.ref h0, .int v0] D vwCl cI cJ [(h0, .inr (2, [.int (nI P)]))] (fun _ => nI (pRed P v0)) (fun _ => [(h0, .inr (2, [.int (nI P)]))]) 0 0 := by
  refine kd_enterI (cc := cX2_reduce) (maxL := 3) (by decide) rfl (Nat.le_of_ble_eq_true rfl) ?_
  intro p e s m args below meth c A ls Q hx hb hr hts hown hlk hnm hml hP hK hD hA hS hl ret
  have hl : lv_has ls 3 [(0, .ref h0), (1, .int v0)] := hl
  have hown : s.vm.findClass RX2 = some m.cls := hown
  have i_X2 : ∀ w ∈ wsX20, w ∈ wsX2_reduce := by decide +kernel
  have fl15 := hts (.fieldLink RX2 15 "KrylovDesk$Modulus" "prime" "I") (by decide +kernel)
  refine lv_iload_n hx hb dX2_reduce_0 rfl (lv_at hl 1 rfl) ?_
  refine lv_aload_n hx hb dX2_reduce_1 rfl (lv_at hl 0 rfl) ?_
  refine va_get (D := D) (ci := 2) (v := .int (nI P)) (C := RX2) (T := TX2) (N := 1) hx hb hts i_X2 hown hK hP 0 rfl rfl 0 (by decide) fl15 (fun _ h9 => h9) rfl dX2_reduce_2 ?_
  refine lv_irem hx hb dX2_reduce_5 (nI_ne0 (by omega) (by omega)) ?_
  refine lv_istore_n (lv' := [(2, .int (v0 - v0 / (nI P) * (nI P))), (0, .ref h0), (1, .int v0)]) hx hb dX2_reduce_6 rfl hl (by decide) rfl (fun ls hl => ?_)
  refine lv_iload_n hx hb dX2_reduce_7 rfl (lv_at hl 0 rfl) ?_
  refine lv_if_ge (tgt := 20) hx hb dX2_reduce_8 (by decide) (fun c_8 => ?_) (fun c_8 => ?_)
  · skip
    refine lv_iload_n hx hb dX2_reduce_20 rfl (lv_at hl 0 rfl) ?_
    exact ret () _ _ _ _ _ dX2_reduce_21 (by first | exact red_pos (by omega) (by omega) c_8 | exact red_neg (by omega) (by omega) c_8) hS (hP.sub [0] rfl) (hD.sub [0] (by decide) rfl)
  · skip
    refine lv_iload_n hx hb dX2_reduce_11 rfl (lv_at hl 0 rfl) ?_
    refine lv_aload_n hx hb dX2_reduce_12 rfl (lv_at hl 1 rfl) ?_
    refine va_get (D := D) (ci := 2) (v := .int (nI P)) (C := RX2) (T := TX2) (N := 1) hx hb hts i_X2 hown hK hP 0 rfl rfl 0 (by decide) fl15 (fun _ h9 => h9) rfl dX2_reduce_13 ?_
    refine lv_iadd hx hb dX2_reduce_16 ?_
    refine lv_goto (tgt := 21) hx hb dX2_reduce_17 (by decide) ?_
    exact ret () _ _ _ _ _ dX2_reduce_21 (by first | exact red_pos (by omega) (by omega) c_8 | exact red_neg (by omega) (by omega) c_8) hS (hP.sub [0] rfl) (hD.sub [0] (by decide) rfl)

set_option maxHeartbeats 4000000 in
set_option maxRecDepth 100000 in
/-- a to the power P - 2 -/
theorem c_X2_inverse (l : Launch) (D : va_G) (cI cJ : ClassId) (h0 P a0 : Nat) (g1 : 2 ≤ P) (g2 : P ≤ 46337) (g3 : a0 < P) : kd_MI (S := Unit) l yX2_inverse wsX2_inverse { frames := 1, cells := 0, slots := 0, locals := 23 } [.ref h0, .int (nI a0)] D vwCl cI cJ [(h0, .inr (2, [.int (nI P)]))] (fun _ => nI (pInv P a0)) (fun _ => [(h0, .inr (2, [.int (nI P)]))]) 0 0 := by
  refine kd_enterI (cc := cX2_inverse) (maxL := 5) (by decide) rfl (Nat.le_of_ble_eq_true rfl) ?_
  intro p e s m args below meth c A ls Q hx hb hr hts hown hlk hnm hml hP hK hD hA hS hl ret
  have hl : lv_has ls 5 [(0, .ref h0), (1, .int (nI a0))] := hl
  have hown : s.vm.findClass RX2 = some m.cls := hown
  have i_X2 : ∀ w ∈ wsX20, w ∈ wsX2_inverse := by decide +kernel
  have fl15 := hts (.fieldLink RX2 15 "KrylovDesk$Modulus" "prime" "I") (by decide +kernel)
  refine lv_iconst (v := (nI 1)) hx hb dX2_inverse_0 (by decide) ?_
  refine lv_istore_n (lv' := [(2, .int (nI 1)), (0, .ref h0), (1, .int (nI a0))]) hx hb dX2_inverse_1 rfl hl (by decide) rfl (fun ls hl => ?_)
  refine lv_iload_n hx hb dX2_inverse_2 rfl (lv_at hl 2 rfl) ?_
  refine lv_istore_n (lv' := [(3, .int (nI a0)), (2, .int (nI 1)), (0, .ref h0), (1, .int (nI a0))]) hx hb dX2_inverse_3 rfl hl (by decide) rfl (fun ls hl => ?_)
  refine lv_aload_n hx hb dX2_inverse_4 rfl (lv_at hl 2 rfl) ?_
  refine va_get (D := D) (ci := 2) (v := .int (nI P)) (C := RX2) (T := TX2) (N := 1) hx hb hts i_X2 hown hK hP 0 rfl rfl 0 (by decide) fl15 (fun _ h9 => h9) rfl dX2_inverse_5 ?_
  refine lv_iconst (v := (nI 2)) hx hb dX2_inverse_8 (by decide) ?_
  refine kd_sub hx hb (by omega) dX2_inverse_9 ?_
  refine lv_istore (lv' := [(4, .int (nI (P - 2))), (3, .int (nI a0)), (2, .int (nI 1)), (0, .ref h0), (1, .int (nI a0))]) hx hb dX2_inverse_10 hl (by decide) rfl (fun ls hl => ?_)
  have lp : ∀ (k_lp : Nat) (left : Nat) (res : Nat) (sq : Nat) (H : Heap) (locs : List Loc) (ls : Array Slot), (left < k_lp) → (left < 46337) → (res < P) → (sq < P) → ((res * sq ^ left) % P = pInv P a0) → va_P D vwCl [(h0, .inr (2, [.int (nI P)]))] H → va_D A [(h0, .inr (2, [.int (nI P)]))] → va_S A s.heap H locs → lv_has ls 5 [(4, .int (nI left)), (3, .int (nI sq)), (2, .int (nI res)), (0, .ref h0)] → W p l e { frames := 1, cells := 0, slots := 0, locals := 23 } s m args below meth c H locs 0 0 Q (F0 m 12 ls []) := by
    intro k_lp
    induction k_lp with
    | zero => intro left res sq H locs ls i1 i0 i2 i3 i4 hP hD hS hl; omega
    | succ k_lp ih_lp =>
      intro left res sq H locs ls i1 i0 i2 i3 i4 hP hD hS hl
      refine lv_iload hx hb dX2_inverse_12 (lv_at hl 0 rfl) ?_
      refine kd_le0 (tgt := 50) hx hb dX2_inverse_14 (by decide) (by omega) (fun c_14 => ?_) (fun c_14 => ?_)
      · skip
        refine lv_iload_n hx hb dX2_inverse_50 rfl (lv_at hl 2 rfl) ?_
        exact ret () _ _ _ _ _ dX2_inverse_51 (by rw [← i4, c_14, Nat.pow_zero, Nat.mul_one, Nat.mod_eq_of_lt i2]) hS (hP.sub [0] rfl) (hD.sub [0] (by decide) rfl)
      · skip
        refine lv_iload hx hb dX2_inverse_17 (lv_at hl 0 rfl) ?_
        refine lv_iconst (v := (nI 2)) hx hb dX2_inverse_19 (by decide) ?_
        refine kd_rem hx hb (by omega) (by omega) (by omega) dX2_inverse_20 ?_
        refine lv_iconst (v := (nI 1)) hx hb dX2_inverse_21 (by decide) ?_
        refine kd_ne (tgt := 33) hx hb dX2_inverse_22 (by decide) (by omega) (by omega) (fun c_22 => ?_) (fun c_22 => ?_)
        · skip
          refine lv_aload_n hx hb dX2_inverse_33 rfl (lv_at hl 3 rfl) ?_
          refine lv_iconst (v := (nI 0)) hx hb dX2_inverse_34 (by decide) ?_
          refine lv_iload_n hx hb dX2_inverse_35 rfl (lv_at hl 1 rfl) ?_
          refine lv_iload_n hx hb dX2_inverse_36 rfl (lv_at hl 1 rfl) ?_
          refine kd_VI (As := [.int (nI 0), .int (nI sq), .int (nI sq)]) (rest := []) (Wr := []) ⟨hx, hb, hml, hown, hts⟩ (c_X2_plusProduct l D cI cJ h0 P 0 sq sq g1 g2 (by omega) i3 i3) (cwV 3 hts gX2_inverse_X2_plusProduct rfl rfl rfl (by decide +kernel) ⟨Nat.le_of_ble_eq_true rfl, Nat.le_of_ble_eq_true rfl⟩) hK hP hD hS hA [0] [] rfl rfl (by decide) (by decide) 0 rfl rfl rfl rfl hl.1 (Nat.le_of_ble_eq_true rfl) dX2_inverse_37 ⟨Nat.le_of_ble_eq_true rfl, Nat.le_of_ble_eq_true rfl⟩ (fun _ H locs hP hD hS => ?_)
          have hP : va_P D vwCl [(h0, .inr (2, [.int (nI P)]))] H := hP
          have hD : va_D A [(h0, .inr (2, [.int (nI P)]))] := hD
          refine lv_istore_n (lv' := [(3, .int (nI ((0 + sq * sq) % P))), (4, .int (nI left)), (2, .int (nI res)), (0, .ref h0)]) hx hb dX2_inverse_40 rfl hl (by decide) rfl (fun ls hl => ?_)
          refine lv_iload hx hb dX2_inverse_41 (lv_at hl 1 rfl) ?_
          refine lv_iconst (v := (nI 2)) hx hb dX2_inverse_43 (by decide) ?_
          refine kd_div hx hb (by omega) (by omega) (by omega) dX2_inverse_44 ?_
          refine lv_istore (lv' := [(4, .int (nI (left / 2))), (3, .int (nI ((0 + sq * sq) % P))), (2, .int (nI res)), (0, .ref h0)]) hx hb dX2_inverse_45 hl (by decide) rfl (fun ls hl => ?_)
          refine lv_goto (tgt := 12) hx hb dX2_inverse_47 (by decide) ?_
          exact ih_lp (left / 2) res ((0 + sq * sq) % P) _ _ _ (by omega) (by omega) i2 (Nat.mod_lt _ (by omega)) (by rw [← i4, pw_sq, show 2 * (left / 2) = left by omega]) (hP.sub [0] rfl) (hD.sub [0] (by decide) rfl) hS (lv_sub hl [0, 1, 2, 3] rfl)
        · skip
          refine lv_aload_n hx hb dX2_inverse_25 rfl (lv_at hl 3 rfl) ?_
          refine lv_iconst (v := (nI 0)) hx hb dX2_inverse_26 (by decide) ?_
          refine lv_iload_n hx hb dX2_inverse_27 rfl (lv_at hl 2 rfl) ?_
          refine lv_iload_n hx hb dX2_inverse_28 rfl (lv_at hl 1 rfl) ?_
          refine kd_VI (As := [.int (nI 0), .int (nI res), .int (nI sq)]) (rest := []) (Wr := []) ⟨hx, hb, hml, hown, hts⟩ (c_X2_plusProduct l D cI cJ h0 P 0 res sq g1 g2 (by omega) i2 i3) (cwV 3 hts gX2_inverse_X2_plusProduct rfl rfl rfl (by decide +kernel) ⟨Nat.le_of_ble_eq_true rfl, Nat.le_of_ble_eq_true rfl⟩) hK hP hD hS hA [0] [] rfl rfl (by decide) (by decide) 0 rfl rfl rfl rfl hl.1 (Nat.le_of_ble_eq_true rfl) dX2_inverse_29 ⟨Nat.le_of_ble_eq_true rfl, Nat.le_of_ble_eq_true rfl⟩ (fun _ H locs hP hD hS => ?_)
          have hP : va_P D vwCl [(h0, .inr (2, [.int (nI P)]))] H := hP
          have hD : va_D A [(h0, .inr (2, [.int (nI P)]))] := hD
          refine lv_istore_n (lv' := [(2, .int (nI ((0 + res * sq) % P))), (4, .int (nI left)), (3, .int (nI sq)), (0, .ref h0)]) hx hb dX2_inverse_32 rfl hl (by decide) rfl (fun ls hl => ?_)
          refine lv_aload_n hx hb dX2_inverse_33 rfl (lv_at hl 3 rfl) ?_
          refine lv_iconst (v := (nI 0)) hx hb dX2_inverse_34 (by decide) ?_
          refine lv_iload_n hx hb dX2_inverse_35 rfl (lv_at hl 2 rfl) ?_
          refine lv_iload_n hx hb dX2_inverse_36 rfl (lv_at hl 2 rfl) ?_
          refine kd_VI (As := [.int (nI 0), .int (nI sq), .int (nI sq)]) (rest := []) (Wr := []) ⟨hx, hb, hml, hown, hts⟩ (c_X2_plusProduct l D cI cJ h0 P 0 sq sq g1 g2 (by omega) i3 i3) (cwV 3 hts gX2_inverse_X2_plusProduct rfl rfl rfl (by decide +kernel) ⟨Nat.le_of_ble_eq_true rfl, Nat.le_of_ble_eq_true rfl⟩) hK hP hD hS hA [0] [] rfl rfl (by decide) (by decide) 0 rfl rfl rfl rfl hl.1 (Nat.le_of_ble_eq_true rfl) dX2_inverse_37 ⟨Nat.le_of_ble_eq_true rfl, Nat.le_of_ble_eq_true rfl⟩ (fun _ H locs hP hD hS => ?_)
          have hP : va_P D vwCl [(h0, .inr (2, [.int (nI P)]))] H := hP
          have hD : va_D A [(h0, .inr (2, [.int (nI P)]))] := hD
          refine lv_istore_n (lv' := [(3, .int (nI ((0 + sq * sq) % P))), (2, .int (nI ((0 + res * sq) % P))), (4, .int (nI left)), (0, .ref h0)]) hx hb dX2_inverse_40 rfl hl (by decide) rfl (fun ls hl => ?_)
          refine lv_iload hx hb dX2_inverse_41 (lv_at hl 2 rfl) ?_
          refine lv_iconst (v := (nI 2)) hx hb dX2_inverse_43 (by decide) ?_
          refine kd_div hx hb (by omega) (by omega) (by omega) dX2_inverse_44 ?_
          refine lv_istore (lv' := [(4, .int (nI (left / 2))), (3, .int (nI ((0 + sq * sq) % P))), (2, .int (nI ((0 + res * sq) % P))), (0, .ref h0)]) hx hb dX2_inverse_45 hl (by decide) rfl (fun ls hl => ?_)
          refine lv_goto (tgt := 12) hx hb dX2_inverse_47 (by decide) ?_
          exact ih_lp (left / 2) ((0 + res * sq) % P) ((0 + sq * sq) % P) _ _ _ (by omega) (by omega) (Nat.mod_lt _ (by omega)) (Nat.mod_lt _ (by omega)) (by rw [← i4, pw_odd, show 2 * (left / 2) + 1 = left by omega]) (hP.sub [0] rfl) (hD.sub [0] (by decide) rfl) hS (lv_sub hl [0, 1, 2, 3] rfl)
  exact lp P (P - 2) 1 a0 _ _ _ (by omega) (by omega) (by omega) g3 (by rw [Nat.one_mul]; rfl) (hP.sub [0] rfl) (hD.sub [0] (by decide) rfl) hS (lv_sub hl [0, 1, 2, 3] rfl)
end
section
set_option maxHeartbeats 4000000 in
set_option maxRecDepth 100000 in
/-- every place becomes v0 -/
theorem c_J7_fill_53178 (l : Launch) (D : va_G) (cI cJ : ClassId) (h0 n v0 : Nat) (f0 : Nat → Nat) (g1 : n < 2 ^ 31) : kd_MV (S := Unit) l yJ7_fill_53178 wsJ7_fill_53178 { frames := 0, cells := 0, slots := 0, locals := 0 } [.ref h0, .int (nI v0)] D vwCl cI cJ [(h0, kd_ar cI n f0)] (fun _ => [(h0, kd_ar cI n (fun _ => v0))]) 0 0 := by
  refine kd_enterV (cc := cJ7_fill_53178) (maxL := 4) (by decide) rfl (Nat.le_of_ble_eq_true rfl) ?_
  intro p e s m args below meth c A ls Q hx hb hr hts hown hlk hnm hml hP hK hD hA hS hl ret
  have hl : lv_has ls 4 [(0, .ref h0), (1, .int (nI v0))] := hl
  have hown : s.vm.findClass RJ7 = some m.cls := hown
  refine lv_iconst (v := (nI 0)) hx hb dJ7_fill_53178_0 (by decide) ?_
  refine lv_istore_n (lv' := [(2, .int (nI 0)), (0, .ref h0), (1, .int (nI v0))]) hx hb dJ7_fill_53178_1 rfl hl (by decide) rfl (fun ls hl => ?_)
  refine lv_aload_n hx hb dJ7_fill_53178_2 rfl (lv_at hl 1 rfl) ?_
  refine kd_alen hx hb hK hP 0 rfl dJ7_fill_53178_3 ?_
  refine lv_istore_n (lv' := [(3, .int (nI n)), (2, .int (nI 0)), (0, .ref h0), (1, .int (nI v0))]) hx hb dJ7_fill_53178_4 rfl hl (by decide) rfl (fun ls hl => ?_)
  have lp : ∀ (k_lp : Nat) (i : Nat) (x : Nat → Nat) (H : Heap) (locs : List Loc) (ls : Array Slot), (n - i < k_lp) → (i ≤ n) → (∀ j, j < i → x j = v0) → va_P D vwCl [(h0, kd_ar cI n x)] H → va_D A [(h0, kd_ar cI n x)] → va_S A s.heap H locs → lv_has ls 4 [(2, .int (nI i)), (3, .int (nI n)), (0, .ref h0), (1, .int (nI v0))] → W p l e { frames := 0, cells := 0, slots := 0, locals := 0 } s m args below meth c H locs 0 0 Q (F0 m 5 ls []) := by
    intro k_lp
    induction k_lp with
    | zero => intro i x H locs ls i1 i2 i3 hP hD hS hl; omega
    | succ k_lp ih_lp =>
      intro i x H locs ls i1 i2 i3 hP hD hS hl
      refine lv_iload_n hx hb dJ7_fill_53178_5 rfl (lv_at hl 0 rfl) ?_
      refine lv_iload_n hx hb dJ7_fill_53178_6 rfl (lv_at hl 1 rfl) ?_
      refine kd_ge (tgt := 20) hx hb dJ7_fill_53178_7 (by decide) (by omega) (by omega) (fun c_7 => ?_) (fun c_7 => ?_)
      · skip
        obtain ⟨hP, hD⟩ := kd_swap (g := (fun _ => v0)) hP hD 0 rfl (fun j hj => i3 j (by omega))
        have hP : va_P D vwCl [(h0, kd_ar cI n (fun _ => v0))] H := hP
        have hD : va_D A [(h0, kd_ar cI n (fun _ => v0))] := hD
        exact ret () _ _ _ _ dJ7_fill_53178_20 hS (hP.sub [0] rfl) (hD.sub [0] (by decide) rfl)
      · skip
        refine lv_aload_n hx hb dJ7_fill_53178_10 rfl (lv_at hl 2 rfl) ?_
        refine lv_iload_n hx hb dJ7_fill_53178_11 rfl (lv_at hl 0 rfl) ?_
        refine lv_iload_n hx hb dJ7_fill_53178_12 rfl (lv_at hl 3 rfl) ?_
        refine kd_ast hx hb hK hP hD hS 0 rfl i (by omega) (by omega) dJ7_fill_53178_13 (fun H locs hP hD hS => ?_)
        have hP : va_P D vwCl [(h0, kd_ar cI n (va_up x i v0))] H := hP
        have hD : va_D A [(h0, kd_ar cI n (va_up x i v0))] := hD
        refine lv_iinc (v := (nI (i + 1))) (lv' := [(2, .int (nI (i + 1))), (3, .int (nI n)), (0, .ref h0), (1, .int (nI v0))]) hx hb dJ7_fill_53178_14 hl (k := 0) rfl (nI_1 _) (by decide) rfl (fun ls hl => ?_)
        refine lv_goto (tgt := 5) hx hb dJ7_fill_53178_17 (by decide) ?_
        exact ih_lp (i + 1) (va_up x i v0) _ _ _ (by omega) (by omega) (lt_up i3) (hP.sub [0] rfl) (hD.sub [0] (by decide) rfl) hS (lv_sub hl [0, 1, 2, 3] rfl)
  exact lp (n + 1) 0 f0 _ _ _ (by omega) (by omega) (fun j hj => by omega) (hP.sub [0] rfl) (hD.sub [0] (by decide) rfl) hS (lv_sub hl [1, 0, 2, 3] rfl)

set_option maxHeartbeats 4000000 in
set_option maxRecDepth 100000 in
/-- the generator begins with 1 -/
theorem c_X0_init (l : Launch) (D : va_G) (cI cJ : ClassId) (h0 z0 : Nat) : kd_MV (S := Unit) l yX0_init wsX0_init { frames := 1, cells := 0, slots := 0, locals := 12 } [.ref h0] D vwCl cI cJ [(h0, .inr (0, [.int (nI z0)]))] (fun _ => [(h0, .inr (0, [.int (nI 1)]))]) 0 0 := by
  refine kd_enterV (cc := cX0_init) (maxL := 1) (by decide) rfl (Nat.le_of_ble_eq_true rfl) ?_
  intro p e s m args below meth c A ls Q hx hb hr hts hown hlk hnm hml hP hK hD hA hS hl ret
  have hl : lv_has ls 1 [(0, .ref h0)] := hl
  have hown : s.vm.findClass RX0 = some m.cls := hown
  have i_X0 : ∀ w ∈ wsX00, w ∈ wsX0_init := by decide +kernel
  have fl7 := hts (.fieldLink RX0 7 "KrylovDesk$Generator" "state" "I") (by decide +kernel)
  refine lv_aload_n hx hb dX0_init_0 rfl (lv_at hl 0 rfl) ?_
  refine W.objInit hx hb hown (hts (.methodLink RX0 1 objectInit) (by decide +kernel)) (hts (.instanceMethod objectInit) (by decide +kernel)) (hts (.code objectInit ⟨#[0xb1]⟩ 1 none) (List.mem_of_getElem? (i := 3) rfl)) rfl (by rw [hml]; exact hl.1) rfl dX0_init_1 (Nat.le_of_ble_eq_true rfl) (Nat.le_of_ble_eq_true rfl) ?_
  refine W.eq (g2 := F0 m 4 ls []) rfl ?_
  refine lv_aload_n hx hb dX0_init_4 rfl (lv_at hl 0 rfl) ?_
  refine lv_iconst (v := (nI 1)) hx hb dX0_init_5 (by decide) ?_
  refine va_put (D := D) (ci := 0) (v := .int (nI 1)) (ty := .int) (C := RX0) (T := TX0) (N := 1) hx hb hts i_X0 tyX0 tyX0_ok nmX0 hown hK hP hD hS 0 rfl rfl 0 (by decide) fl7 (fun _ h9 => h9) rfl (by decide +kernel) rfl rfl (Nat.le_of_ble_eq_true rfl) dX0_init_6 (fun H locs hP hD hS => ?_)
  have hP : va_P D vwCl [(h0, .inr (0, [.int (nI 1)]))] H := hP
  have hD : va_D A [(h0, .inr (0, [.int (nI 1)]))] := hD
  exact ret () _ _ _ _ dX0_init_9 hS (hP.sub [0] rfl) (hD.sub [0] (by decide) rfl)

set_option maxHeartbeats 4000000 in
set_option maxRecDepth 100000 in
/-- the lower 31 bits -/
theorem c_X0_restart (l : Launch) (D : va_G) (cI cJ : ClassId) (h0 g0 : Nat) (v0 : Int32) : kd_MV (S := Unit) l yX0_restart wsX0_restart { frames := 0, cells := 0, slots := 0, locals := 0 } [.ref h0, .int v0] D vwCl cI cJ [(h0, .inr (0, [.int (nI g0)]))] (fun _ => [(h0, .inr (0, [.int (nI (pSeed v0))]))]) 0 0 := by
  refine kd_enterV (cc := cX0_restart) (maxL := 2) (by decide) rfl (Nat.le_of_ble_eq_true rfl) ?_
  intro p e s m args below meth c A ls Q hx hb hr hts hown hlk hnm hml hP hK hD hA hS hl ret
  have hl : lv_has ls 2 [(0, .ref h0), (1, .int v0)] := hl
  have hown : s.vm.findClass RX0 = some m.cls := hown
  have kc13 := hts (.constant RX0 13 (2147483647)) (by decide +kernel)
  have i_X0 : ∀ w ∈ wsX00, w ∈ wsX0_restart := by decide +kernel
  have fl7 := hts (.fieldLink RX0 7 "KrylovDesk$Generator" "state" "I") (by decide +kernel)
  refine lv_aload_n hx hb dX0_restart_0 rfl (lv_at hl 0 rfl) ?_
  refine lv_iload_n hx hb dX0_restart_1 rfl (lv_at hl 1 rfl) ?_
  refine lv_ldc (v := (nI 2147483647)) hx hb hown kc13 dX0_restart_2 ?_
  refine lv_iand hx hb dX0_restart_4 ?_
  rw [pSeed_eq]
  refine va_put (D := D) (ci := 0) (v := .int (nI (pSeed v0))) (ty := .int) (C := RX0) (T := TX0) (N := 1) hx hb hts i_X0 tyX0 tyX0_ok nmX0 hown hK hP hD hS 0 rfl rfl 0 (by decide) fl7 (fun _ h9 => h9) rfl (by decide +kernel) rfl rfl (Nat.le_of_ble_eq_true rfl) dX0_restart_5 (fun H locs hP hD hS => ?_)
  have hP : va_P D vwCl [(h0, .inr (0, [.int (nI (pSeed v0))]))] H := hP
  have hD : va_D A [(h0, .inr (0, [.int (nI (pSeed v0))]))] := hD
  exact ret () _ _ _ _ dX0_restart_8 hS (hP.sub [0] rfl) (hD.sub [0] (by decide) rfl)

set_option maxHeartbeats 4000000 in
set_option maxRecDepth 100000 in
/-- the next number, cut off -/
theorem c_X0_next (l : Launch) (D : va_G) (cI cJ : ClassId) (h0 g0 : Nat) : kd_MI (S := Unit) l yX0_next wsX0_next { frames := 0, cells := 0, slots := 0, locals := 0 } [.ref h0] D vwCl cI cJ [(h0, .inr (0, [.int (nI g0)]))] (fun _ => nI (pGen g0 / 65536)) (fun _ => [(h0, .inr (0, [.int (nI (pGen g0))]))]) 0 0 := by
  refine kd_enterI (cc := cX0_next) (maxL := 1) (by decide) rfl (Nat.le_of_ble_eq_true rfl) ?_
  intro p e s m args below meth c A ls Q hx hb hr hts hown hlk hnm hml hP hK hD hA hS hl ret
  have hl : lv_has ls 1 [(0, .ref h0)] := hl
  have hown : s.vm.findClass RX0 = some m.cls := hown
  have kc14 := hts (.constant RX0 14 (1103515245)) (by decide +kernel)
  have i_X0 : ∀ w ∈ wsX00, w ∈ wsX0_next := by decide +kernel
  have fl7 := hts (.fieldLink RX0 7 "KrylovDesk$Generator" "state" "I") (by decide +kernel)
  have kc13 := hts (.constant RX0 13 (2147483647)) (by decide +kernel)
  have kc15 := hts (.constant RX0 15 (65536)) (by decide +kernel)
  refine lv_aload_n hx hb dX0_next_0 rfl (lv_at hl 0 rfl) ?_
  refine lv_ldc (v := (nI 1103515245)) hx hb hown kc14 dX0_next_1 ?_
  refine lv_aload_n hx hb dX0_next_3 rfl (lv_at hl 0 rfl) ?_
  refine va_get (D := D) (ci := 0) (v := .int (nI g0)) (C := RX0) (T := TX0) (N := 1) hx hb hts i_X0 hown hK hP 0 rfl rfl 0 (by decide) fl7 (fun _ h9 => h9) rfl dX0_next_4 ?_
  refine kd_mul hx hb dX0_next_7 ?_
  refine lv_sipush (v := (nI 12345)) hx hb dX0_next_8 (by decide) ?_
  refine kd_add hx hb dX0_next_11 ?_
  refine lv_ldc (v := (nI 2147483647)) hx hb hown kc13 dX0_next_12 ?_
  refine lv_iand hx hb dX0_next_14 ?_
  rw [pGen_eq]
  refine va_put (D := D) (ci := 0) (v := .int (nI (pGen g0))) (ty := .int) (C := RX0) (T := TX0) (N := 1) hx hb hts i_X0 tyX0 tyX0_ok nmX0 hown hK hP hD hS 0 rfl rfl 0 (by decide) fl7 (fun _ h9 => h9) rfl (by decide +kernel) rfl rfl (Nat.le_of_ble_eq_true rfl) dX0_next_15 (fun H locs hP hD hS => ?_)
  have hP : va_P D vwCl [(h0, .inr (0, [.int (nI (pGen g0))]))] H := hP
  have hD : va_D A [(h0, .inr (0, [.int (nI (pGen g0))]))] := hD
  refine lv_aload_n hx hb dX0_next_18 rfl (lv_at hl 0 rfl) ?_
  refine va_get (D := D) (ci := 0) (v := .int (nI (pGen g0))) (C := RX0) (T := TX0) (N := 1) hx hb hts i_X0 hown hK hP 0 rfl rfl 0 (by decide) fl7 (fun _ h9 => h9) rfl dX0_next_19 ?_
  refine lv_ldc (v := (nI 65536)) hx hb hown kc15 dX0_next_22 ?_
  refine kd_div hx hb (pGen_lt g0) (by omega) (by omega) dX0_next_24 ?_
  exact ret () _ _ _ _ _ dX0_next_25 rfl hS (hP.sub [0] rfl) (hD.sub [0] (by decide) rfl)

set_option maxHeartbeats 4000000 in
set_option maxRecDepth 100000 in
/-- whether there is no room -/
theorem c_X1_isFull (l : Launch) (D : va_G) (cI cJ : ClassId) (h0 aM aR aC aV aS room held prod : Nat) (vals : Nat → Nat) (g4 : room ≤ 100) (g5 : held ≤ room) : kd_MI (S := Unit) l yX1_isFull wsX1_isFull { frames := 0, cells := 0, slots := 0, locals := 0 } [.ref h0] D vwCl cI cJ [(h0, .inr (1, [.ref aM, .ref aR, .ref aC, .ref aV, .ref aS, .int (nI held), .int (nI prod)])), (aV, kd_ar cI room vals)] (fun _ => nI (pB (room ≤ held))) (fun _ => [(h0, .inr (1, [.ref aM, .ref aR, .ref aC, .ref aV, .ref aS, .int (nI held), .int (nI prod)])), (aV, kd_ar cI room vals)]) 0 0 := by
  refine kd_enterZ (cc := cX1_isFull) (maxL := 1) (by decide) rfl (Nat.le_of_ble_eq_true rfl) (fun _ => pB_01 _) ?_
  intro p e s m args below meth c A ls Q hx hb hr hts hown hlk hnm hml hP hK hD hA hS hl ret
  have hl : lv_has ls 1 [(0, .ref h0)] := hl
  have hown : s.vm.findClass RX1 = some m.cls := hown
  have i_X1 : ∀ w ∈ wsX10, w ∈ wsX1_isFull := by decide +kernel
  have fl26 := hts (.fieldLink RX1 26 "KrylovDesk$Matrix" "held" "I") (by decide +kernel)
  have fl20 := hts (.fieldLink RX1 20 "KrylovDesk$Matrix" "values" "[I") (by decide +kernel)
  refine lv_aload_n hx hb dX1_isFull_0 rfl (lv_at hl 0 rfl) ?_
  refine va_get (D := D) (ci := 1) (v := .int (nI held)) (C := RX1) (T := TX1) (N := 7) hx hb hts i_X1 hown hK hP 0 rfl rfl 5 (by decide) fl26 (fun _ h9 => h9) rfl dX1_isFull_1 ?_
  refine lv_aload_n hx hb dX1_isFull_4 rfl (lv_at hl 0 rfl) ?_
  refine va_get (D := D) (ci := 1) (v := .ref aV) (C := RX1) (T := TX1) (N := 7) hx hb hts i_X1 hown hK hP 0 rfl rfl 3 (by decide) fl20 (fun _ h9 => h9) rfl dX1_isFull_5 ?_
  refine kd_alen hx hb hK hP 1 rfl dX1_isFull_8 ?_
  refine kd_lt (tgt := 16) hx hb dX1_isFull_9 (by decide) (by omega) (by omega) (fun c_9 => ?_) (fun c_9 => ?_)
  · skip
    refine lv_iconst (v := (nI 0)) hx hb dX1_isFull_16 (by decide) ?_
    exact ret () _ _ _ _ _ dX1_isFull_17 (by first | rw [pB_t (by omega)] | rw [pB_f (by omega)]) hS (hP.sub [0, 1] rfl) (hD.sub [0, 1] (by decide) rfl)
  · skip
    refine lv_iconst (v := (nI 1)) hx hb dX1_isFull_12 (by decide) ?_
    refine lv_goto (tgt := 17) hx hb dX1_isFull_13 (by decide) ?_
    exact ret () _ _ _ _ _ dX1_isFull_17 (by first | rw [pB_t (by omega)] | rw [pB_f (by omega)]) hS (hP.sub [0, 1] rfl) (hD.sub [0, 1] (by decide) rfl)

set_option maxHeartbeats 4000000 in
set_option maxRecDepth 100000 in
/-- one more entry -/
theorem c_X1_put (l : Launch) (D : va_G) (cI cJ : ClassId) (h0 aM aR aC aV aS : Nat) (n room held prod : Nat) (rows cols vals : Nat → Nat) (r0 c0 v0 : Nat) (g4 : room ≤ 100) (g5 : held < room) : kd_MV (S := Unit) l yX1_put wsX1_put { frames := 0, cells := 0, slots := 0, locals := 0 } [.ref h0, .int (nI r0), .int (nI c0), .int (nI v0)] D vwCl cI cJ [(h0, .inr (1, [.ref aM, .ref aR, .ref aC, .ref aV, .ref aS, .int (nI held), .int (nI prod)])), (aR, kd_ar cI room rows), (aC, kd_ar cI room cols), (aV, kd_ar cI room vals)] (fun _ => [(h0, .inr (1, [.ref aM, .ref aR, .ref aC, .ref aV, .ref aS, .int (nI (held + 1)), .int (nI prod)])), (aR, kd_ar cI room (va_up rows held r0)), (aC, kd_ar cI room (va_up cols held c0)), (aV, kd_ar cI room (va_up vals held v0))]) 0 0 := by
  refine kd_enterV (cc := cX1_put) (maxL := 4) (by decide) rfl (Nat.le_of_ble_eq_true rfl) ?_
  intro p e s m args below meth c A ls Q hx hb hr hts hown hlk hnm hml hP hK hD hA hS hl ret
  have hl : lv_has ls 4 [(0, .ref h0), (1, .int (nI r0)), (2, .int (nI c0)), (3, .int (nI v0))] := hl
  have hown : s.vm.findClass RX1 = some m.cls := hown
  have i_X1 : ∀ w ∈ wsX10, w ∈ wsX1_put := by decide +kernel
  have fl13 := hts (.fieldLink RX1 13 "KrylovDesk$Matrix" "rows" "[I") (by decide +kernel)
  have fl26 := hts (.fieldLink RX1 26 "KrylovDesk$Matrix" "held" "I") (by decide +kernel)
  have fl17 := hts (.fieldLink RX1 17 "KrylovDesk$Matrix" "columns" "[I") (by decide +kernel)
  have fl20 := hts (.fieldLink RX1 20 "KrylovDesk$Matrix" "values" "[I") (by decide +kernel)
  refine lv_aload_n hx hb dX1_put_0 rfl (lv_at hl 0 rfl) ?_
  refine va_get (D := D) (ci := 1) (v := .ref aR) (C := RX1) (T := TX1) (N := 7) hx hb hts i_X1 hown hK hP 0 rfl rfl 1 (by decide) fl13 (fun _ h9 => h9) rfl dX1_put_1 ?_
  refine lv_aload_n hx hb dX1_put_4 rfl (lv_at hl 0 rfl) ?_
  refine va_get (D := D) (ci := 1) (v := .int (nI held)) (C := RX1) (T := TX1) (N := 7) hx hb hts i_X1 hown hK hP 0 rfl rfl 5 (by decide) fl26 (fun _ h9 => h9) rfl dX1_put_5 ?_
  refine lv_iload_n hx hb dX1_put_8 rfl (lv_at hl 1 rfl) ?_
  refine kd_ast hx hb hK hP hD hS 1 rfl held (by omega) (by omega) dX1_put_9 (fun H locs hP hD hS => ?_)
  have hP : va_P D vwCl [(h0, .inr (1, [.ref aM, .ref aR, .ref aC, .ref aV, .ref aS, .int (nI held), .int (nI prod)])), (aR, kd_ar cI room (va_up rows held r0)), (aC, kd_ar cI room cols), (aV, kd_ar cI room vals)] H := hP
  have hD : va_D A [(h0, .inr (1, [.ref aM, .ref aR, .ref aC, .ref aV, .ref aS, .int (nI held), .int (nI prod)])), (aR, kd_ar cI room (va_up rows held r0)), (aC, kd_ar cI room cols), (aV, kd_ar cI room vals)] := hD
  refine lv_aload_n hx hb dX1_put_10 rfl (lv_at hl 0 rfl) ?_
  refine va_get (D := D) (ci := 1) (v := .ref aC) (C := RX1) (T := TX1) (N := 7) hx hb hts i_X1 hown hK hP 0 rfl rfl 2 (by decide) fl17 (fun _ h9 => h9) rfl dX1_put_11 ?_
  refine lv_aload_n hx hb dX1_put_14 rfl (lv_at hl 0 rfl) ?_
  refine va_get (D := D) (ci := 1) (v := .int (nI held)) (C := RX1) (T := TX1) (N := 7) hx hb hts i_X1 hown hK hP 0 rfl rfl 5 (by decide) fl26 (fun _ h9 => h9) rfl dX1_put_15 ?_
  refine lv_iload_n hx hb dX1_put_18 rfl (lv_at hl 2 rfl) ?_
  refine kd_ast hx hb hK hP hD hS 2 rfl held (by omega) (by omega) dX1_put_19 (fun H locs hP hD hS => ?_)
  have hP : va_P D vwCl [(h0, .inr (1, [.ref aM, .ref aR, .ref aC, .ref aV, .ref aS, .int (nI held), .int (nI prod)])), (aR, kd_ar cI room (va_up rows held r0)), (aC, kd_ar cI room (va_up cols held c0)), (aV, kd_ar cI room vals)] H := hP
  have hD : va_D A [(h0, .inr (1, [.ref aM, .ref aR, .ref aC, .ref aV, .ref aS, .int (nI held), .int (nI prod)])), (aR, kd_ar cI room (va_up rows held r0)), (aC, kd_ar cI room (va_up cols held c0)), (aV, kd_ar cI room vals)] := hD
  refine lv_aload_n hx hb dX1_put_20 rfl (lv_at hl 0 rfl) ?_
  refine va_get (D := D) (ci := 1) (v := .ref aV) (C := RX1) (T := TX1) (N := 7) hx hb hts i_X1 hown hK hP 0 rfl rfl 3 (by decide) fl20 (fun _ h9 => h9) rfl dX1_put_21 ?_
  refine lv_aload_n hx hb dX1_put_24 rfl (lv_at hl 0 rfl) ?_
  refine va_get (D := D) (ci := 1) (v := .int (nI held)) (C := RX1) (T := TX1) (N := 7) hx hb hts i_X1 hown hK hP 0 rfl rfl 5 (by decide) fl26 (fun _ h9 => h9) rfl dX1_put_25 ?_
  refine lv_iload_n hx hb dX1_put_28 rfl (lv_at hl 3 rfl) ?_
  refine kd_ast hx hb hK hP hD hS 3 rfl held (by omega) (by omega) dX1_put_29 (fun H locs hP hD hS => ?_)
  have hP : va_P D vwCl [(h0, .inr (1, [.ref aM, .ref aR, .ref aC, .ref aV, .ref aS, .int (nI held), .int (nI prod)])), (aR, kd_ar cI room (va_up rows held r0)), (aC, kd_ar cI room (va_up cols held c0)), (aV, kd_ar cI room (va_up vals held v0))] H := hP
  have hD : va_D A [(h0, .inr (1, [.ref aM, .ref aR, .ref aC, .ref aV, .ref aS, .int (nI held), .int (nI prod)])), (aR, kd_ar cI room (va_up rows held r0)), (aC, kd_ar cI room (va_up cols held c0)), (aV, kd_ar cI room (va_up vals held v0))] := hD
  refine lv_aload_n hx hb dX1_put_30 rfl (lv_at hl 0 rfl) ?_
  refine lv_dup hx hb dX1_put_31 rfl ?_
  refine va_get (D := D) (ci := 1) (v := .int (nI held)) (C := RX1) (T := TX1) (N := 7) hx hb hts i_X1 hown hK hP 0 rfl rfl 5 (by decide) fl26 (fun _ h9 => h9) rfl dX1_put_32 ?_
  refine lv_iconst (v := (nI 1)) hx hb dX1_put_35 (by decide) ?_
  refine kd_add hx hb dX1_put_36 ?_
  refine va_put (D := D) (ci := 1) (v := .int (nI (held + 1))) (ty := .int) (C := RX1) (T := TX1) (N := 7) hx hb hts i_X1 tyX1 tyX1_ok nmX1 hown hK hP hD hS 0 rfl rfl 5 (by decide) fl26 (fun _ h9 => h9) rfl (by decide +kernel) rfl rfl (Nat.le_of_ble_eq_true rfl) dX1_put_37 (fun H locs hP hD hS => ?_)
  have hP : va_P D vwCl [(h0, .inr (1, [.ref aM, .ref aR, .ref aC, .ref aV, .ref aS, .int (nI (held + 1)), .int (nI prod)])), (aR, kd_ar cI room (va_up rows held r0)), (aC, kd_ar cI room (va_up cols held c0)), (aV, kd_ar cI room (va_up vals held v0))] H := hP
  have hD : va_D A [(h0, .inr (1, [.ref aM, .ref aR, .ref aC, .ref aV, .ref aS, .int (nI (held + 1)), .int (nI prod)])), (aR, kd_ar cI room (va_up rows held r0)), (aC, kd_ar cI room (va_up cols held c0)), (aV, kd_ar cI room (va_up vals held v0))] := hD
  exact ret () _ _ _ _ dX1_put_40 hS (hP.sub [0, 1, 2, 3] rfl) (hD.sub [0, 1, 2, 3] (by decide) rfl)

set_option maxHeartbeats 4000000 in
set_option maxRecDepth 100000 in
/-- a product: the vector becomes the matrix times it -/
theorem c_X1_apply (l : Launch) (D : va_G) (cI cJ : ClassId) (h0 aM aR aC aV aS : Nat) (P n room held prod : Nat) (rows cols vals sums : Nat → Nat) (aX : Nat) (vec : Nat → Nat) (g1 : 2 ≤ P) (g2 : P ≤ 46337) (g3 : n ≤ 16) (g4 : room ≤ 100) (g5 : held ≤ room) (g6 : ∀ i, i < held → rows i < n) (g9 : ∀ i, i < held → cols i < n) (g7 : ∀ i, i < held → vals i < P) (g8 : ∀ j, j < n → vec j < P) : kd_MV (S := Unit) l yX1_apply wsX1_apply { frames := 1, cells := 0, slots := 0, locals := 64 } [.ref h0, .ref aX] D vwCl cI cJ [(h0, .inr (1, [.ref aM, .ref aR, .ref aC, .ref aV, .ref aS, .int (nI held), .int (nI prod)])), (aM, .inr (2, [.int (nI P)])), (aR, kd_ar cI room rows), (aC, kd_ar cI room cols), (aV, kd_ar cI room vals), (aS, kd_ar cI n sums), (aX, kd_ar cI n vec)] (fun _ => [(h0, .inr (1, [.ref aM, .ref aR, .ref aC, .ref aV, .ref aS, .int (nI held), .int (nI (prod + 1))])), (aM, .inr (2, [.int (nI P)])), (aR, kd_ar cI room rows), (aC, kd_ar cI room cols), (aV, kd_ar cI room vals), (aS, kd_ar cI n (pAcc P rows cols vals vec held)), (aX, kd_ar cI n (pAcc P rows cols vals vec held))]) 0 0 := by
  refine kd_enterV (cc := cX1_apply) (maxL := 4) (by decide) rfl (Nat.le_of_ble_eq_true rfl) ?_
  intro p e s m args below meth c A ls Q hx hb hr hts hown hlk hnm hml hP hK hD hA hS hl ret
  have hl : lv_has ls 4 [(0, .ref h0), (1, .ref aX)] := hl
  have hown : s.vm.findClass RX1 = some m.cls := hown
  have i_X1 : ∀ w ∈ wsX10, w ∈ wsX1_apply := by decide +kernel
  have fl30 := hts (.fieldLink RX1 30 "KrylovDesk$Matrix" "productsMade" "I") (by decide +kernel)
  have fl23 := hts (.fieldLink RX1 23 "KrylovDesk$Matrix" "sums" "[I") (by decide +kernel)
  have fl26 := hts (.fieldLink RX1 26 "KrylovDesk$Matrix" "held" "I") (by decide +kernel)
  have fl13 := hts (.fieldLink RX1 13 "KrylovDesk$Matrix" "rows" "[I") (by decide +kernel)
  have fl7 := hts (.fieldLink RX1 7 "KrylovDesk$Matrix" "modulus" "LKrylovDesk$Modulus;") (by decide +kernel)
  have fl20 := hts (.fieldLink RX1 20 "KrylovDesk$Matrix" "values" "[I") (by decide +kernel)
  have fl17 := hts (.fieldLink RX1 17 "KrylovDesk$Matrix" "columns" "[I") (by decide +kernel)
  refine lv_aload_n hx hb dX1_apply_0 rfl (lv_at hl 0 rfl) ?_
  refine lv_dup hx hb dX1_apply_1 rfl ?_
  refine va_get (D := D) (ci := 1) (v := .int (nI prod)) (C := RX1) (T := TX1) (N := 7) hx hb hts i_X1 hown hK hP 0 rfl rfl 6 (by decide) fl30 (fun _ h9 => h9) rfl dX1_apply_2 ?_
  refine lv_iconst (v := (nI 1)) hx hb dX1_apply_5 (by decide) ?_
  refine kd_add hx hb dX1_apply_6 ?_
  refine va_put (D := D) (ci := 1) (v := .int (nI (prod + 1))) (ty := .int) (C := RX1) (T := TX1) (N := 7) hx hb hts i_X1 tyX1 tyX1_ok nmX1 hown hK hP hD hS 0 rfl rfl 6 (by decide) fl30 (fun _ h9 => h9) rfl (by decide +kernel) rfl rfl (Nat.le_of_ble_eq_true rfl) dX1_apply_7 (fun H locs hP hD hS => ?_)
  have hP : va_P D vwCl [(h0, .inr (1, [.ref aM, .ref aR, .ref aC, .ref aV, .ref aS, .int (nI held), .int (nI (prod + 1))])), (aM, .inr (2, [.int (nI P)])), (aR, kd_ar cI room rows), (aC, kd_ar cI room cols), (aV, kd_ar cI room vals), (aS, kd_ar cI n sums), (aX, kd_ar cI n vec)] H := hP
  have hD : va_D A [(h0, .inr (1, [.ref aM, .ref aR, .ref aC, .ref aV, .ref aS, .int (nI held), .int (nI (prod + 1))])), (aM, .inr (2, [.int (nI P)])), (aR, kd_ar cI room rows), (aC, kd_ar cI room cols), (aV, kd_ar cI room vals), (aS, kd_ar cI n sums), (aX, kd_ar cI n vec)] := hD
  refine lv_aload_n hx hb dX1_apply_10 rfl (lv_at hl 0 rfl) ?_
  refine va_get (D := D) (ci := 1) (v := .ref aS) (C := RX1) (T := TX1) (N := 7) hx hb hts i_X1 hown hK hP 0 rfl rfl 4 (by decide) fl23 (fun _ h9 => h9) rfl dX1_apply_11 ?_
  refine lv_iconst (v := (nI 0)) hx hb dX1_apply_14 (by decide) ?_
  refine kd_SV (As := [.ref aS, .int (nI 0)]) (rest := []) (Wr := [(h0, .inr (1, [.ref aM, .ref aR, .ref aC, .ref aV, .ref aS, .int (nI held), .int (nI (prod + 1))])), (aM, .inr (2, [.int (nI P)])), (aR, kd_ar cI room rows), (aC, kd_ar cI room cols), (aV, kd_ar cI room vals), (aX, kd_ar cI n vec)]) ⟨hx, hb, hml, hown, hts⟩ (c_J7_fill_53178 l D cI cJ aS n 0 sums (by omega)) (va_cwS 2 hts gX1_apply_J7_fill_53178 rfl rfl rfl (by decide +kernel) ⟨Nat.le_of_ble_eq_true rfl, Nat.le_of_ble_eq_true rfl⟩) hK hP hD hS hA [5] [0, 1, 2, 3, 4, 6] rfl rfl (by decide) (by decide) rfl rfl hl.1 (Nat.le_of_ble_eq_true rfl) dX1_apply_15 ⟨Nat.le_of_ble_eq_true rfl, Nat.le_of_ble_eq_true rfl⟩ (fun _ H locs hP hD hS => ?_)
  have hP : va_P D vwCl [(h0, .inr (1, [.ref aM, .ref aR, .ref aC, .ref aV, .ref aS, .int (nI held), .int (nI (prod + 1))])), (aM, .inr (2, [.int (nI P)])), (aR, kd_ar cI room rows), (aC, kd_ar cI room cols), (aV, kd_ar cI room vals), (aX, kd_ar cI n vec), (aS, kd_ar cI n (pAcc P rows cols vals vec 0))] H := hP
  have hD : va_D A [(h0, .inr (1, [.ref aM, .ref aR, .ref aC, .ref aV, .ref aS, .int (nI held), .int (nI (prod + 1))])), (aM, .inr (2, [.int (nI P)])), (aR, kd_ar cI room rows), (aC, kd_ar cI room cols), (aV, kd_ar cI room vals), (aX, kd_ar cI n vec), (aS, kd_ar cI n (pAcc P rows cols vals vec 0))] := hD
  refine lv_iconst (v := (nI 0)) hx hb dX1_apply_18 (by decide) ?_
  refine lv_istore_n (lv' := [(2, .int (nI 0)), (0, .ref h0), (1, .ref aX)]) hx hb dX1_apply_19 rfl hl (by decide) rfl (fun ls hl => ?_)
  have lp : ∀ (k_lp : Nat) (i : Nat) (H : Heap) (locs : List Loc) (ls : Array Slot), (held - i < k_lp) → (i ≤ held) → va_P D vwCl [(h0, .inr (1, [.ref aM, .ref aR, .ref aC, .ref aV, .ref aS, .int (nI held), .int (nI (prod + 1))])), (aM, .inr (2, [.int (nI P)])), (aR, kd_ar cI room rows), (aC, kd_ar cI room cols), (aV, kd_ar cI room vals), (aS, kd_ar cI n (pAcc P rows cols vals vec i)), (aX, kd_ar cI n vec)] H → va_D A [(h0, .inr (1, [.ref aM, .ref aR, .ref aC, .ref aV, .ref aS, .int (nI held), .int (nI (prod + 1))])), (aM, .inr (2, [.int (nI P)])), (aR, kd_ar cI room rows), (aC, kd_ar cI room cols), (aV, kd_ar cI room vals), (aS, kd_ar cI n (pAcc P rows cols vals vec i)), (aX, kd_ar cI n vec)] → va_S A s.heap H locs → lv_has ls 4 [(2, .int (nI i)), (0, .ref h0), (1, .ref aX)] → W p l e { frames := 1, cells := 0, slots := 0, locals := 64 } s m args below meth c H locs 0 0 Q (F0 m 20 ls []) := by
    intro k_lp
    induction k_lp with
    | zero => intro i H locs ls i1 i2 hP hD hS hl; omega
    | succ k_lp ih_lp =>
      intro i H locs ls i1 i2 hP hD hS hl
      refine lv_iload_n hx hb dX1_apply_20 rfl (lv_at hl 0 rfl) ?_
      refine lv_aload_n hx hb dX1_apply_21 rfl (lv_at hl 1 rfl) ?_
      refine va_get (D := D) (ci := 1) (v := .int (nI held)) (C := RX1) (T := TX1) (N := 7) hx hb hts i_X1 hown hK hP 0 rfl rfl 5 (by decide) fl26 (fun _ h9 => h9) rfl dX1_apply_22 ?_
      refine kd_ge (tgt := 74) hx hb dX1_apply_25 (by decide) (by omega) (by omega) (fun c_25 => ?_) (fun c_25 => ?_)
      · skip
        refine lv_aload_n hx hb dX1_apply_74 rfl (lv_at hl 1 rfl) ?_
        refine va_get (D := D) (ci := 1) (v := .ref aS) (C := RX1) (T := TX1) (N := 7) hx hb hts i_X1 hown hK hP 0 rfl rfl 4 (by decide) fl23 (fun _ h9 => h9) rfl dX1_apply_75 ?_
        refine lv_iconst (v := (nI 0)) hx hb dX1_apply_78 (by decide) ?_
        refine lv_aload_n hx hb dX1_apply_79 rfl (lv_at hl 2 rfl) ?_
        refine lv_iconst (v := (nI 0)) hx hb dX1_apply_80 (by decide) ?_
        refine lv_aload_n hx hb dX1_apply_81 rfl (lv_at hl 1 rfl) ?_
        refine va_get (D := D) (ci := 1) (v := .ref aS) (C := RX1) (T := TX1) (N := 7) hx hb hts i_X1 hown hK hP 0 rfl rfl 4 (by decide) fl23 (fun _ h9 => h9) rfl dX1_apply_82 ?_
        refine kd_alen hx hb hK hP 5 rfl dX1_apply_85 ?_
        refine kd_copy hx hb (hml.trans hl.1.symm) hown (hts (.methodLink RX1 45 arraycopyName) (by decide +kernel)) (hts (.native arraycopyName) (by decide +kernel)) (hts (.static arraycopyName) (by decide +kernel)) (hts (.initialized "java/lang/System") (by decide +kernel)) hK hP hD hS 5 6 rfl rfl (by omega) (by omega) (by omega) (Nat.le_of_ble_eq_true rfl) (by decide) dX1_apply_86 (fun H locs hP hD hS => ?_)
        have hP : va_P D vwCl [(h0, .inr (1, [.ref aM, .ref aR, .ref aC, .ref aV, .ref aS, .int (nI held), .int (nI (prod + 1))])), (aM, .inr (2, [.int (nI P)])), (aR, kd_ar cI room rows), (aC, kd_ar cI room cols), (aV, kd_ar cI room vals), (aS, kd_ar cI n (pAcc P rows cols vals vec i)), (aX, kd_ar cI n (va_cpy (pAcc P rows cols vals vec i) vec 0 0 n))] H := hP
        have hD : va_D A [(h0, .inr (1, [.ref aM, .ref aR, .ref aC, .ref aV, .ref aS, .int (nI held), .int (nI (prod + 1))])), (aM, .inr (2, [.int (nI P)])), (aR, kd_ar cI room rows), (aC, kd_ar cI room cols), (aV, kd_ar cI room vals), (aS, kd_ar cI n (pAcc P rows cols vals vec i)), (aX, kd_ar cI n (va_cpy (pAcc P rows cols vals vec i) vec 0 0 n))] := hD
        obtain ⟨hP, hD⟩ := kd_swap (g := (pAcc P rows cols vals vec i)) hP hD 6 rfl (fun j hj => cpy_all hj)
        have hP : va_P D vwCl [(h0, .inr (1, [.ref aM, .ref aR, .ref aC, .ref aV, .ref aS, .int (nI held), .int (nI (prod + 1))])), (aM, .inr (2, [.int (nI P)])), (aR, kd_ar cI room rows), (aC, kd_ar cI room cols), (aV, kd_ar cI room vals), (aS, kd_ar cI n (pAcc P rows cols vals vec i)), (aX, kd_ar cI n (pAcc P rows cols vals vec i))] H := hP
        have hD : va_D A [(h0, .inr (1, [.ref aM, .ref aR, .ref aC, .ref aV, .ref aS, .int (nI held), .int (nI (prod + 1))])), (aM, .inr (2, [.int (nI P)])), (aR, kd_ar cI room rows), (aC, kd_ar cI room cols), (aV, kd_ar cI room vals), (aS, kd_ar cI n (pAcc P rows cols vals vec i)), (aX, kd_ar cI n (pAcc P rows cols vals vec i))] := hD
        have e9 : i = held := by omega
        rw [e9] at hP hD
        exact ret () _ _ _ _ dX1_apply_89 hS (hP.sub [0, 1, 2, 3, 4, 5, 6] rfl) (hD.sub [0, 1, 2, 3, 4, 5, 6] (by decide) rfl)
      · skip
        refine lv_aload_n hx hb dX1_apply_28 rfl (lv_at hl 1 rfl) ?_
        refine va_get (D := D) (ci := 1) (v := .ref aR) (C := RX1) (T := TX1) (N := 7) hx hb hts i_X1 hown hK hP 0 rfl rfl 1 (by decide) fl13 (fun _ h9 => h9) rfl dX1_apply_29 ?_
        refine lv_iload_n hx hb dX1_apply_32 rfl (lv_at hl 0 rfl) ?_
        refine kd_ald hx hb hK hP 2 rfl i (by omega) (by omega) dX1_apply_33 ?_
        refine lv_istore_n (lv' := [(3, .int (nI (rows i))), (2, .int (nI i)), (0, .ref h0), (1, .ref aX)]) hx hb dX1_apply_34 rfl hl (by decide) rfl (fun ls hl => ?_)
        refine lv_aload_n hx hb dX1_apply_35 rfl (lv_at hl 2 rfl) ?_
        refine va_get (D := D) (ci := 1) (v := .ref aS) (C := RX1) (T := TX1) (N := 7) hx hb hts i_X1 hown hK hP 0 rfl rfl 4 (by decide) fl23 (fun _ h9 => h9) rfl dX1_apply_36 ?_
        refine lv_iload_n hx hb dX1_apply_39 rfl (lv_at hl 0 rfl) ?_
        refine lv_aload_n hx hb dX1_apply_40 rfl (lv_at hl 2 rfl) ?_
        refine va_get (D := D) (ci := 1) (v := .ref aM) (C := RX1) (T := TX1) (N := 7) hx hb hts i_X1 hown hK hP 0 rfl rfl 0 (by decide) fl7 (fun _ h9 => h9) rfl dX1_apply_41 ?_
        refine lv_aload_n hx hb dX1_apply_44 rfl (lv_at hl 2 rfl) ?_
        refine va_get (D := D) (ci := 1) (v := .ref aS) (C := RX1) (T := TX1) (N := 7) hx hb hts i_X1 hown hK hP 0 rfl rfl 4 (by decide) fl23 (fun _ h9 => h9) rfl dX1_apply_45 ?_
        refine lv_iload_n hx hb dX1_apply_48 rfl (lv_at hl 0 rfl) ?_
        refine kd_ald hx hb hK hP 5 rfl (rows i) (g6 i (by omega)) (by omega) dX1_apply_49 ?_
        refine lv_aload_n hx hb dX1_apply_50 rfl (lv_at hl 2 rfl) ?_
        refine va_get (D := D) (ci := 1) (v := .ref aV) (C := RX1) (T := TX1) (N := 7) hx hb hts i_X1 hown hK hP 0 rfl rfl 3 (by decide) fl20 (fun _ h9 => h9) rfl dX1_apply_51 ?_
        refine lv_iload_n hx hb dX1_apply_54 rfl (lv_at hl 1 rfl) ?_
        refine kd_ald hx hb hK hP 4 rfl i (by omega) (by omega) dX1_apply_55 ?_
        refine lv_aload_n hx hb dX1_apply_56 rfl (lv_at hl 3 rfl) ?_
        refine lv_aload_n hx hb dX1_apply_57 rfl (lv_at hl 2 rfl) ?_
        refine va_get (D := D) (ci := 1) (v := .ref aC) (C := RX1) (T := TX1) (N := 7) hx hb hts i_X1 hown hK hP 0 rfl rfl 2 (by decide) fl17 (fun _ h9 => h9) rfl dX1_apply_58 ?_
        refine lv_iload_n hx hb dX1_apply_61 rfl (lv_at hl 1 rfl) ?_
        refine kd_ald hx hb hK hP 3 rfl i (by omega) (by omega) dX1_apply_62 ?_
        refine kd_ald hx hb hK hP 6 rfl (cols i) (g9 i (by omega)) (by omega) dX1_apply_63 ?_
        refine kd_VI (As := [.int (nI ((pAcc P rows cols vals vec i) (rows i))), .int (nI (vals i)), .int (nI (vec (cols i)))]) (rest := [.int (nI (rows i)), .ref aS]) (Wr := [(h0, .inr (1, [.ref aM, .ref aR, .ref aC, .ref aV, .ref aS, .int (nI held), .int (nI (prod + 1))])), (aR, kd_ar cI room rows), (aC, kd_ar cI room cols), (aV, kd_ar cI room vals), (aS, kd_ar cI n (pAcc P rows cols vals vec i)), (aX, kd_ar cI n vec)]) ⟨hx, hb, hml, hown, hts⟩ (c_X2_plusProduct l D cI cJ aM P ((pAcc P rows cols vals vec i) (rows i)) (vals i) (vec (cols i)) g1 g2 (pAcc_lt (by omega) _ _ _ _ _ _) (g7 i (by omega)) (g8 _ (g9 i (by omega)))) (cwV 3 hts gX1_apply_X2_plusProduct rfl rfl rfl (by decide +kernel) ⟨Nat.le_of_ble_eq_true rfl, Nat.le_of_ble_eq_true rfl⟩) hK hP hD hS hA [1] [0, 2, 3, 4, 5, 6] rfl rfl (by decide) (by decide) 0 rfl rfl rfl rfl hl.1 (Nat.le_of_ble_eq_true rfl) dX1_apply_64 ⟨Nat.le_of_ble_eq_true rfl, Nat.le_of_ble_eq_true rfl⟩ (fun _ H locs hP hD hS => ?_)
        have hP : va_P D vwCl [(h0, .inr (1, [.ref aM, .ref aR, .ref aC, .ref aV, .ref aS, .int (nI held), .int (nI (prod + 1))])), (aR, kd_ar cI room rows), (aC, kd_ar cI room cols), (aV, kd_ar cI room vals), (aS, kd_ar cI n (pAcc P rows cols vals vec i)), (aX, kd_ar cI n vec), (aM, .inr (2, [.int (nI P)]))] H := hP
        have hD : va_D A [(h0, .inr (1, [.ref aM, .ref aR, .ref aC, .ref aV, .ref aS, .int (nI held), .int (nI (prod + 1))])), (aR, kd_ar cI room rows), (aC, kd_ar cI room cols), (aV, kd_ar cI room vals), (aS, kd_ar cI n (pAcc P rows cols vals vec i)), (aX, kd_ar cI n vec), (aM, .inr (2, [.int (nI P)]))] := hD
        refine kd_ast hx hb hK hP hD hS 4 rfl (rows i) (g6 i (by omega)) (by omega) dX1_apply_67 (fun H locs hP hD hS => ?_)
        have hP : va_P D vwCl [(h0, .inr (1, [.ref aM, .ref aR, .ref aC, .ref aV, .ref aS, .int (nI held), .int (nI (prod + 1))])), (aR, kd_ar cI room rows), (aC, kd_ar cI room cols), (aV, kd_ar cI room vals), (aS, kd_ar cI n (va_up (pAcc P rows cols vals vec i) (rows i) ((((pAcc P rows cols vals vec i) (rows i)) + (vals i) * (vec (cols i))) % P))), (aX, kd_ar cI n vec), (aM, .inr (2, [.int (nI P)]))] H := hP
        have hD : va_D A [(h0, .inr (1, [.ref aM, .ref aR, .ref aC, .ref aV, .ref aS, .int (nI held), .int (nI (prod + 1))])), (aR, kd_ar cI room rows), (aC, kd_ar cI room cols), (aV, kd_ar cI room vals), (aS, kd_ar cI n (va_up (pAcc P rows cols vals vec i) (rows i) ((((pAcc P rows cols vals vec i) (rows i)) + (vals i) * (vec (cols i))) % P))), (aX, kd_ar cI n vec), (aM, .inr (2, [.int (nI P)]))] := hD
        obtain ⟨hP, hD⟩ := kd_swap (g := (pAcc P rows cols vals vec (i + 1))) hP hD 4 rfl (fun _ _ => rfl)
        have hP : va_P D vwCl [(h0, .inr (1, [.ref aM, .ref aR, .ref aC, .ref aV, .ref aS, .int (nI held), .int (nI (prod + 1))])), (aR, kd_ar cI room rows), (aC, kd_ar cI room cols), (aV, kd_ar cI room vals), (aS, kd_ar cI n (pAcc P rows cols vals vec (i + 1))), (aX, kd_ar cI n vec), (aM, .inr (2, [.int (nI P)]))] H := hP
        have hD : va_D A [(h0, .inr (1, [.ref aM, .ref aR, .ref aC, .ref aV, .ref aS, .int (nI held), .int (nI (prod + 1))])), (aR, kd_ar cI room rows), (aC, kd_ar cI room cols), (aV, kd_ar cI room vals), (aS, kd_ar cI n (pAcc P rows cols vals vec (i + 1))), (aX, kd_ar cI n vec), (aM, .inr (2, [.int (nI P)]))] := hD
        refine lv_iinc (v := (nI (i + 1))) (lv' := [(2, .int (nI (i + 1))), (3, .int (nI (rows i))), (0, .ref h0), (1, .ref aX)]) hx hb dX1_apply_68 hl (k := 1) rfl (nI_1 _) (by decide) rfl (fun ls hl => ?_)
        refine lv_goto (tgt := 20) hx hb dX1_apply_71 (by decide) ?_
        exact ih_lp (i + 1) _ _ _ (by omega) (by omega) (hP.sub [0, 6, 1, 2, 3, 4, 5] rfl) (hD.sub [0, 6, 1, 2, 3, 4, 5] (by decide) rfl) hS (lv_sub hl [0, 2, 3] rfl)
  exact lp (held + 1) 0 _ _ _ (by omega) (by omega) (hP.sub [0, 1, 2, 3, 4, 6, 5] rfl) (hD.sub [0, 1, 2, 3, 4, 6, 5] (by decide) rfl) hS (lv_sub hl [0, 1, 2] rfl)
end
section
/-! the pure model: the shortest recurrence of a row -/
def pMs (P : Nat) (row C : Nat → Nat) (k : Nat) : Nat → Nat
  | 0 => row k
  | i + 1 => (pMs P row C k i + C (i + 1) * row (k - (i + 1))) % P
theorem pMs_lt {P : Nat} {row : Nat → Nat} {k : Nat} (h : 0 < P) (hr : row k < P) (C : Nat → Nat) : ∀ i, pMs P row C k i < P
  | 0 => hr
  | _ + 1 => Nat.mod_lt _ h
def pSub (P : Nat) (C B : Nat → Nat) (sh f : Nat) : Nat → Nat := fun j => if sh ≤ j then (C j + pNeg P f * B (j - sh)) % P else C j
theorem pSub_lt {P : Nat} (h : 0 < P) {C : Nat → Nat} (hC : ∀ j, C j < P) (B : Nat → Nat) (sh f j : Nat) : pSub P C B sh f j < P := by
  unfold pSub
  split
  · exact Nat.mod_lt _ h
  · exact hC j
def pSubI (P : Nat) (C B : Nat → Nat) (sh f i : Nat) : Nat → Nat := fun j => if sh ≤ j ∧ j < i + sh then (C j + pNeg P f * B (j - sh)) % P else C j
theorem pSubI_at {P : Nat} {C B : Nat → Nat} {sh f i : Nat} : pSubI P C B sh f i (i + sh) = C (i + sh) := if_neg (by omega)
theorem pSubI_0 {P : Nat} {C B : Nat → Nat} {sh f j : Nat} : C j = pSubI P C B sh f 0 j := (if_neg (by omega)).symm
theorem pSubI_end {P : Nat} {C B : Nat → Nat} {sh f i j : Nat} (h : j < i + sh) : pSubI P C B sh f i j = pSub P C B sh f j := by
  unfold pSubI pSub
  by_cases h1 : sh ≤ j
  · rw [if_pos ⟨h1, h⟩, if_pos h1]
  · rw [if_neg (fun q => h1 q.1), if_neg h1]
theorem pSubI_step {P : Nat} {C B : Nat → Nat} {sh f i : Nat} (j : Nat) : va_up (pSubI P C B sh f i) (i + sh) ((pSubI P C B sh f i (i + sh) + pNeg P f * B i) % P) j = pSubI P C B sh f (i + 1) j := by
  by_cases h : j = i + sh
  · rw [h, up_self, pSubI_at]
    unfold pSubI
    rw [if_pos ⟨by omega, by omega⟩, Nat.add_sub_cancel]
  · rw [up_ne h]
    unfold pSubI
    by_cases h1 : sh ≤ j ∧ j < i + sh
    · rw [if_pos h1, if_pos ⟨h1.1, by omega⟩]
    · rw [if_neg h1, if_neg (fun q => h1 ⟨q.1, by omega⟩)]
/-- C, B, L, m, e of section 2 -/
abbrev pZ : Type := (Nat → Nat) × (Nat → Nat) × Nat × Nat × Nat
def pStep (P : Nat) (row : Nat → Nat) (k : Nat) (z : pZ) : pZ :=
  if pMs P row z.1 k z.2.2.1 = 0 then (z.1, z.2.1, z.2.2.1, z.2.2.2.1 + 1, z.2.2.2.2)
  else if k < 2 * z.2.2.1 then (pSub P z.1 z.2.1 z.2.2.2.1 ((0 + pMs P row z.1 k z.2.2.1 * pInv P z.2.2.2.2) % P), z.2.1, z.2.2.1, z.2.2.2.1 + 1, z.2.2.2.2)
  else (pSub P z.1 z.2.1 z.2.2.2.1 ((0 + pMs P row z.1 k z.2.2.1 * pInv P z.2.2.2.2) % P), z.1, k + 1 - z.2.2.1, 1, pMs P row z.1 k z.2.2.1)
theorem pStep_0 {P : Nat} {row C B : Nat → Nat} {k L sh em : Nat} (h : pMs P row C k L = 0) : pStep P row k (C, B, L, sh, em) = (C, B, L, sh + 1, em) := if_pos h
theorem pStep_1 {P : Nat} {row C B : Nat → Nat} {k L sh em : Nat} (h : ¬ pMs P row C k L = 0) (h2 : k < 2 * L) : pStep P row k (C, B, L, sh, em) = (pSub P C B sh ((0 + pMs P row C k L * pInv P em) % P), B, L, sh + 1, em) := (if_neg h).trans (if_pos h2)
theorem pStep_2 {P : Nat} {row C B : Nat → Nat} {k L sh em : Nat} (h : ¬ pMs P row C k L = 0) (h2 : ¬ k < 2 * L) : pStep P row k (C, B, L, sh, em) = (pSub P C B sh ((0 + pMs P row C k L * pInv P em) % P), C, k + 1 - L, 1, pMs P row C k L) := (if_neg h).trans (if_neg h2)
def pBM (P : Nat) (row : Nat → Nat) : Nat → pZ
  | 0 => (va_up (fun _ => 0) 0 1, va_up (fun _ => 0) 0 1, 0, 1, 1)
  | k + 1 => pStep P row k (pBM P row k)
/-- what holds of C, B, L, m, e before number k -/
def pZok (P k : Nat) (z : pZ) : Prop := (∀ j, z.1 j < P) ∧ (∀ j, z.2.1 j < P) ∧ z.2.2.1 ≤ k ∧ z.2.2.2.1 ≤ k + 1 ∧ z.2.2.2.2 < P
theorem pStep_ok {P : Nat} (hP : 2 ≤ P) {row : Nat → Nat} {k : Nat} (hr : row k < P) {z : pZ} (h : pZok P k z) : pZok P (k + 1) (pStep P row k z) := by
  obtain ⟨C, B, L, sh, em⟩ := z
  obtain ⟨h1, h2, h3, h4, h5⟩ := h
  dsimp only at h1 h2 h3 h4 h5
  by_cases a : pMs P row C k L = 0
  · rw [pStep_0 a]
    exact ⟨h1, h2, by dsimp only; omega, by dsimp only; omega, h5⟩
  · by_cases b : k < 2 * L
    · rw [pStep_1 a b]
      exact ⟨fun j => pSub_lt (by omega) h1 _ _ _ j, h2, by dsimp only; omega, by dsimp only; omega, h5⟩
    · rw [pStep_2 a b]
      exact ⟨fun j => pSub_lt (by omega) h1 _ _ _ j, h1, by dsimp only; omega, by dsimp only; omega, pMs_lt (by omega) hr C L⟩
theorem pBM_ok {P : Nat} (hP : 2 ≤ P) {row : Nat → Nat} : ∀ k, (∀ j, j < k → row j < P) → pZok P k (pBM P row k)
  | 0, _ => by
    have h : ∀ j, va_up (fun _ => 0) 0 1 j < P := by
      intro j
      unfold va_up
      dsimp only
      split <;> omega
    exact ⟨h, h, Nat.le_refl _, Nat.le_refl _, by show 1 < P; omega⟩
  | k + 1, hr => pStep_ok hP (hr k (by omega)) (pBM_ok hP k (fun j hj => hr j (by omega)))
end
section
set_option maxHeartbeats 4000000 in
set_option maxRecDepth 100000 in
/-- term i -/
theorem c_X3_term (l : Launch) (D : va_G) (cI cJ : ClassId) (h0 aM aC aB aT : Nat) (w L sh em i0 : Nat) (C : Nat → Nat) (g3 : w ≤ 33) (g4 : i0 < w) : kd_MI (S := Unit) l yX3_term wsX3_term { frames := 0, cells := 0, slots := 0, locals := 0 } [.ref h0, .int (nI i0)] D vwCl cI cJ [(h0, .inr (3, [.ref aM, .ref aC, .ref aB, .ref aT, .int (nI L), .int (nI sh), .int (nI em)])), (aC, kd_ar cI w C)] (fun _ => nI (C i0)) (fun _ => [(h0, .inr (3, [.ref aM, .ref aC, .ref aB, .ref aT, .int (nI L), .int (nI sh), .int (nI em)])), (aC, kd_ar cI w C)]) 0 0 := by
  refine kd_enterI (cc := cX3_term) (maxL := 2) (by decide) rfl (Nat.le_of_ble_eq_true rfl) ?_
  intro p e s m args below meth c A ls Q hx hb hr hts hown hlk hnm hml hP hK hD hA hS hl ret
  have hl : lv_has ls 2 [(0, .ref h0), (1, .int (nI i0))] := hl
  have hown : s.vm.findClass RX3 = some m.cls := hown
  have i_X3 : ∀ w ∈ wsX30, w ∈ wsX3_term := by decide +kernel
  have fl19 := hts (.fieldLink RX3 19 "KrylovDesk$Recurrence" "terms" "[I") (by decide +kernel)
  refine lv_iload_n hx hb dX3_term_0 rfl (lv_at hl 1 rfl) ?_
  refine kd_lt0 (tgt := 22) hx hb dX3_term_1 (by omega) (by decide) ?_
  refine lv_iload_n hx hb dX3_term_4 rfl (lv_at hl 1 rfl) ?_
  refine lv_aload_n hx hb dX3_term_5 rfl (lv_at hl 0 rfl) ?_
  refine va_get (D := D) (ci := 3) (v := .ref aC) (C := RX3) (T := TX3) (N := 7) hx hb hts i_X3 hown hK hP 0 rfl rfl 1 (by decide) fl19 (fun _ h9 => h9) rfl dX3_term_6 ?_
  refine kd_alen hx hb hK hP 1 rfl dX3_term_9 ?_
  refine kd_ge (tgt := 22) hx hb dX3_term_10 (by decide) (by omega) (by omega) (fun c_10 => ?_) (fun c_10 => ?_)
  · skip
    exact absurd c_10 (by omega)
  · skip
    refine lv_aload_n hx hb dX3_term_13 rfl (lv_at hl 0 rfl) ?_
    refine va_get (D := D) (ci := 3) (v := .ref aC) (C := RX3) (T := TX3) (N := 7) hx hb hts i_X3 hown hK hP 0 rfl rfl 1 (by decide) fl19 (fun _ h9 => h9) rfl dX3_term_14 ?_
    refine lv_iload_n hx hb dX3_term_17 rfl (lv_at hl 1 rfl) ?_
    refine kd_ald hx hb hK hP 1 rfl i0 (by omega) (by omega) dX3_term_18 ?_
    refine lv_goto (tgt := 23) hx hb dX3_term_19 (by decide) ?_
    exact ret () _ _ _ _ _ dX3_term_23 rfl hS (hP.sub [0, 1] rfl) (hD.sub [0, 1] (by decide) rfl)

set_option maxHeartbeats 4000000 in
set_option maxRecDepth 100000 in
/-- term L -/
theorem c_X3_lastTerm (l : Launch) (D : va_G) (cI cJ : ClassId) (h0 aM aC aB aT : Nat) (w L sh em : Nat) (C : Nat → Nat) (g3 : w ≤ 33) (g4 : L < w) : kd_MI (S := Unit) l yX3_lastTerm wsX3_lastTerm { frames := 1, cells := 0, slots := 0, locals := 21 } [.ref h0] D vwCl cI cJ [(h0, .inr (3, [.ref aM, .ref aC, .ref aB, .ref aT, .int (nI L), .int (nI sh), .int (nI em)])), (aC, kd_ar cI w C)] (fun _ => nI (C L)) (fun _ => [(h0, .inr (3, [.ref aM, .ref aC, .ref aB, .ref aT, .int (nI L), .int (nI sh), .int (nI em)])), (aC, kd_ar cI w C)]) 0 0 := by
  refine kd_enterI (cc := cX3_lastTerm) (maxL := 1) (by decide) rfl (Nat.le_of_ble_eq_true rfl) ?_
  intro p e s m args below meth c A ls Q hx hb hr hts hown hlk hnm hml hP hK hD hA hS hl ret
  have hl : lv_has ls 1 [(0, .ref h0)] := hl
  have hown : s.vm.findClass RX3 = some m.cls := hown
  have i_X3 : ∀ w ∈ wsX30, w ∈ wsX3_lastTerm := by decide +kernel
  have fl29 := hts (.fieldLink RX3 29 "KrylovDesk$Recurrence" "length" "I") (by decide +kernel)
  refine lv_aload_n hx hb dX3_lastTerm_0 rfl (lv_at hl 0 rfl) ?_
  refine lv_aload_n hx hb dX3_lastTerm_1 rfl (lv_at hl 0 rfl) ?_
  refine va_get (D := D) (ci := 3) (v := .int (nI L)) (C := RX3) (T := TX3) (N := 7) hx hb hts i_X3 hown hK hP 0 rfl rfl 4 (by decide) fl29 (fun _ h9 => h9) rfl dX3_lastTerm_2 ?_
  refine kd_VI (As := [.int (nI L)]) (rest := []) (Wr := []) ⟨hx, hb, hml, hown, hts⟩ (c_X3_term l D cI cJ h0 aM aC aB aT w L sh em L C g3 g4) (cwV 1 hts gX3_lastTerm_X3_term rfl rfl rfl (by decide +kernel) ⟨Nat.le_of_ble_eq_true rfl, Nat.le_of_ble_eq_true rfl⟩) hK hP hD hS hA [0, 1] [] rfl rfl (by decide) (by decide) 0 rfl rfl rfl rfl hl.1 (Nat.le_of_ble_eq_true rfl) dX3_lastTerm_5 ⟨Nat.le_of_ble_eq_true rfl, Nat.le_of_ble_eq_true rfl⟩ (fun _ H locs hP hD hS => ?_)
  have hP : va_P D vwCl [(h0, .inr (3, [.ref aM, .ref aC, .ref aB, .ref aT, .int (nI L), .int (nI sh), .int (nI em)])), (aC, kd_ar cI w C)] H := hP
  have hD : va_D A [(h0, .inr (3, [.ref aM, .ref aC, .ref aB, .ref aT, .int (nI L), .int (nI sh), .int (nI em)])), (aC, kd_ar cI w C)] := hD
  exact ret () _ _ _ _ _ dX3_lastTerm_8 rfl hS (hP.sub [0, 1] rfl) (hD.sub [0, 1] (by decide) rfl)

set_option maxHeartbeats 4000000 in
set_option maxRecDepth 100000 in
/-- how far number k is from what the terms say -/
theorem c_X3_missAt (l : Launch) (D : va_G) (cI cJ : ClassId) (h0 aM aC aB aT : Nat) (aN P w q L sh em k : Nat) (C row : Nat → Nat) (g1 : 2 ≤ P) (g2 : P ≤ 46337) (g3 : w ≤ 33) (g4 : L ≤ k) (g5 : q < w) (g6 : ∀ j, C j < P) (g7 : k < q) (g8 : ∀ j, j < q → row j < P) : kd_MI (S := Unit) l yX3_missAt wsX3_missAt { frames := 1, cells := 0, slots := 0, locals := 23 } [.ref h0, .ref aN, .int (nI k)] D vwCl cI cJ [(h0, .inr (3, [.ref aM, .ref aC, .ref aB, .ref aT, .int (nI L), .int (nI sh), .int (nI em)])), (aM, .inr (2, [.int (nI P)])), (aC, kd_ar cI w C), (aN, kd_ar cI q row)] (fun _ => nI (pMs P row C k L)) (fun _ => [(h0, .inr (3, [.ref aM, .ref aC, .ref aB, .ref aT, .int (nI L), .int (nI sh), .int (nI em)])), (aM, .inr (2, [.int (nI P)])), (aC, kd_ar cI w C), (aN, kd_ar cI q row)]) 0 0 := by
  refine kd_enterI (cc := cX3_missAt) (maxL := 5) (by decide) rfl (Nat.le_of_ble_eq_true rfl) ?_
  intro p e s m args below meth c A ls Q hx hb hr hts hown hlk hnm hml hP hK hD hA hS hl ret
  have hl : lv_has ls 5 [(0, .ref h0), (1, .ref aN), (2, .int (nI k))] := hl
  have hown : s.vm.findClass RX3 = some m.cls := hown
  have i_X3 : ∀ w ∈ wsX30, w ∈ wsX3_missAt := by decide +kernel
  have fl29 := hts (.fieldLink RX3 29 "KrylovDesk$Recurrence" "length" "I") (by decide +kernel)
  have fl7 := hts (.fieldLink RX3 7 "KrylovDesk$Recurrence" "modulus" "LKrylovDesk$Modulus;") (by decide +kernel)
  refine lv_aload_n hx hb dX3_missAt_0 rfl (lv_at hl 1 rfl) ?_
  refine lv_iload_n hx hb dX3_missAt_1 rfl (lv_at hl 2 rfl) ?_
  refine kd_ald hx hb hK hP 3 rfl k (by omega) (by omega) dX3_missAt_2 ?_
  refine lv_istore_n (lv' := [(3, .int (nI (row k))), (0, .ref h0), (1, .ref aN), (2, .int (nI k))]) hx hb dX3_missAt_3 rfl hl (by decide) rfl (fun ls hl => ?_)
  refine lv_iconst (v := (nI 1)) hx hb dX3_missAt_4 (by decide) ?_
  refine lv_istore (lv' := [(4, .int (nI 1)), (3, .int (nI (row k))), (0, .ref h0), (1, .ref aN), (2, .int (nI k))]) hx hb dX3_missAt_5 hl (by decide) rfl (fun ls hl => ?_)
  have lp : ∀ (k_lp : Nat) (i0 : Nat) (H : Heap) (locs : List Loc) (ls : Array Slot), (L - i0 < k_lp) → (i0 ≤ L) → va_P D vwCl [(h0, .inr (3, [.ref aM, .ref aC, .ref aB, .ref aT, .int (nI L), .int (nI sh), .int (nI em)])), (aM, .inr (2, [.int (nI P)])), (aC, kd_ar cI w C), (aN, kd_ar cI q row)] H → va_D A [(h0, .inr (3, [.ref aM, .ref aC, .ref aB, .ref aT, .int (nI L), .int (nI sh), .int (nI em)])), (aM, .inr (2, [.int (nI P)])), (aC, kd_ar cI w C), (aN, kd_ar cI q row)] → va_S A s.heap H locs → lv_has ls 5 [(4, .int (nI (i0 + 1))), (3, .int (nI (pMs P row C k i0))), (0, .ref h0), (1, .ref aN), (2, .int (nI k))] → W p l e { frames := 1, cells := 0, slots := 0, locals := 23 } s m args below meth c H locs 0 0 Q (F0 m 7 ls []) := by
    intro k_lp
    induction k_lp with
    | zero => intro i0 H locs ls i1 i2 hP hD hS hl; omega
    | succ k_lp ih_lp =>
      intro i0 H locs ls i1 i2 hP hD hS hl
      refine lv_iload hx hb dX3_missAt_7 (lv_at hl 0 rfl) ?_
      refine lv_aload_n hx hb dX3_missAt_9 rfl (lv_at hl 2 rfl) ?_
      refine va_get (D := D) (ci := 3) (v := .int (nI L)) (C := RX3) (T := TX3) (N := 7) hx hb hts i_X3 hown hK hP 0 rfl rfl 4 (by decide) fl29 (fun _ h9 => h9) rfl dX3_missAt_10 ?_
      refine kd_gt (tgt := 49) hx hb dX3_missAt_13 (by decide) (by omega) (by omega) (fun c_13 => ?_) (fun c_13 => ?_)
      · skip
        refine lv_iload_n hx hb dX3_missAt_49 rfl (lv_at hl 1 rfl) ?_
        exact ret () _ _ _ _ _ dX3_missAt_50 (by rw [show i0 = L by omega]) hS (hP.sub [0, 1, 2, 3] rfl) (hD.sub [0, 1, 2, 3] (by decide) rfl)
      · skip
        refine lv_iload hx hb dX3_missAt_16 (lv_at hl 0 rfl) ?_
        refine lv_iload_n hx hb dX3_missAt_18 rfl (lv_at hl 4 rfl) ?_
        refine kd_gt (tgt := 49) hx hb dX3_missAt_19 (by decide) (by omega) (by omega) (fun c_19 => ?_) (fun c_19 => ?_)
        · skip
          exact absurd c_19 (by omega)
        · skip
          refine lv_aload_n hx hb dX3_missAt_22 rfl (lv_at hl 2 rfl) ?_
          refine va_get (D := D) (ci := 3) (v := .ref aM) (C := RX3) (T := TX3) (N := 7) hx hb hts i_X3 hown hK hP 0 rfl rfl 0 (by decide) fl7 (fun _ h9 => h9) rfl dX3_missAt_23 ?_
          refine lv_iload_n hx hb dX3_missAt_26 rfl (lv_at hl 1 rfl) ?_
          refine lv_aload_n hx hb dX3_missAt_27 rfl (lv_at hl 2 rfl) ?_
          refine lv_iload hx hb dX3_missAt_28 (lv_at hl 0 rfl) ?_
          refine kd_VI (As := [.int (nI (i0 + 1))]) (rest := [.int (nI (pMs P row C k i0)), .ref aM]) (Wr := [(aM, .inr (2, [.int (nI P)])), (aN, kd_ar cI q row)]) ⟨hx, hb, hml, hown, hts⟩ (c_X3_term l D cI cJ h0 aM aC aB aT w L sh em (i0 + 1) C g3 (by omega)) (cwV 1 hts gX3_missAt_X3_term rfl rfl rfl (by decide +kernel) ⟨Nat.le_of_ble_eq_true rfl, Nat.le_of_ble_eq_true rfl⟩) hK hP hD hS hA [0, 2] [1, 3] rfl rfl (by decide) (by decide) 0 rfl rfl rfl rfl hl.1 (Nat.le_of_ble_eq_true rfl) dX3_missAt_30 ⟨Nat.le_of_ble_eq_true rfl, Nat.le_of_ble_eq_true rfl⟩ (fun _ H locs hP hD hS => ?_)
          have hP : va_P D vwCl [(aM, .inr (2, [.int (nI P)])), (aN, kd_ar cI q row), (h0, .inr (3, [.ref aM, .ref aC, .ref aB, .ref aT, .int (nI L), .int (nI sh), .int (nI em)])), (aC, kd_ar cI w C)] H := hP
          have hD : va_D A [(aM, .inr (2, [.int (nI P)])), (aN, kd_ar cI q row), (h0, .inr (3, [.ref aM, .ref aC, .ref aB, .ref aT, .int (nI L), .int (nI sh), .int (nI em)])), (aC, kd_ar cI w C)] := hD
          refine lv_aload_n hx hb dX3_missAt_33 rfl (lv_at hl 3 rfl) ?_
          refine lv_iload_n hx hb dX3_missAt_34 rfl (lv_at hl 4 rfl) ?_
          refine lv_iload hx hb dX3_missAt_35 (lv_at hl 0 rfl) ?_
          refine kd_sub hx hb (by omega) dX3_missAt_37 ?_
          refine kd_ald hx hb hK hP 1 rfl (k - (i0 + 1)) (by omega) (by omega) dX3_missAt_38 ?_
          refine kd_VI (As := [.int (nI (pMs P row C k i0)), .int (nI (C (i0 + 1))), .int (nI (row (k - (i0 + 1))))]) (rest := []) (Wr := [(aN, kd_ar cI q row), (h0, .inr (3, [.ref aM, .ref aC, .ref aB, .ref aT, .int (nI L), .int (nI sh), .int (nI em)])), (aC, kd_ar cI w C)]) ⟨hx, hb, hml, hown, hts⟩ (c_X2_plusProduct l D cI cJ aM P (pMs P row C k i0) (C (i0 + 1)) (row (k - (i0 + 1))) g1 g2 (pMs_lt (by omega) (g8 k g7) C i0) (g6 _) (g8 _ (by omega))) (cwV 3 hts gX3_missAt_X2_plusProduct rfl rfl rfl (by decide +kernel) ⟨Nat.le_of_ble_eq_true rfl, Nat.le_of_ble_eq_true rfl⟩) hK hP hD hS hA [0] [1, 2, 3] rfl rfl (by decide) (by decide) 0 rfl rfl rfl rfl hl.1 (Nat.le_of_ble_eq_true rfl) dX3_missAt_39 ⟨Nat.le_of_ble_eq_true rfl, Nat.le_of_ble_eq_true rfl⟩ (fun _ H locs hP hD hS => ?_)
          have hP : va_P D vwCl [(aN, kd_ar cI q row), (h0, .inr (3, [.ref aM, .ref aC, .ref aB, .ref aT, .int (nI L), .int (nI sh), .int (nI em)])), (aC, kd_ar cI w C), (aM, .inr (2, [.int (nI P)]))] H := hP
          have hD : va_D A [(aN, kd_ar cI q row), (h0, .inr (3, [.ref aM, .ref aC, .ref aB, .ref aT, .int (nI L), .int (nI sh), .int (nI em)])), (aC, kd_ar cI w C), (aM, .inr (2, [.int (nI P)]))] := hD
          refine lv_istore_n (lv' := [(3, .int (nI (((pMs P row C k i0) + (C (i0 + 1)) * (row (k - (i0 + 1)))) % P))), (4, .int (nI (i0 + 1))), (0, .ref h0), (1, .ref aN), (2, .int (nI k))]) hx hb dX3_missAt_42 rfl hl (by decide) rfl (fun ls hl => ?_)
          refine lv_iinc (v := (nI ((i0 + 1) + 1))) (lv' := [(4, .int (nI ((i0 + 1) + 1))), (3, .int (nI (((pMs P row C k i0) + (C (i0 + 1)) * (row (k - (i0 + 1)))) % P))), (0, .ref h0), (1, .ref aN), (2, .int (nI k))]) hx hb dX3_missAt_43 hl (k := 1) rfl (nI_1 _) (by decide) rfl (fun ls hl => ?_)
          refine lv_goto (tgt := 7) hx hb dX3_missAt_46 (by decide) ?_
          exact ih_lp (i0 + 1) _ _ _ (by omega) (by omega) (hP.sub [1, 3, 2, 0] rfl) (hD.sub [1, 3, 2, 0] (by decide) rfl) hS (lv_sub hl [0, 1, 2, 3, 4] rfl)
  exact lp (L + 1) 0 _ _ _ (by omega) (by omega) (hP.sub [0, 1, 2, 3] rfl) (hD.sub [0, 1, 2, 3] (by decide) rfl) hS (lv_sub hl [0, 1, 2, 3, 4] rfl)

set_option maxHeartbeats 4000000 in
set_option maxRecDepth 100000 in
/-- the older terms, moved and by a factor, off -/
theorem c_X3_subtractOlder (l : Launch) (D : va_G) (cI cJ : ClassId) (h0 aM aC aB aT : Nat) (P w L sh em f0 : Nat) (C B : Nat → Nat) (g1 : 2 ≤ P) (g2 : P ≤ 46337) (g3 : w ≤ 33) (g4 : sh ≤ 33) (g5 : f0 < P) (g6 : ∀ j, C j < P) (g7 : ∀ j, B j < P) : kd_MV (S := Unit) l yX3_subtractOlder wsX3_subtractOlder { frames := 1, cells := 0, slots := 0, locals := 23 } [.ref h0, .int (nI f0)] D vwCl cI cJ [(h0, .inr (3, [.ref aM, .ref aC, .ref aB, .ref aT, .int (nI L), .int (nI sh), .int (nI em)])), (aM, .inr (2, [.int (nI P)])), (aC, kd_ar cI w C), (aB, kd_ar cI w B)] (fun _ => [(h0, .inr (3, [.ref aM, .ref aC, .ref aB, .ref aT, .int (nI L), .int (nI sh), .int (nI em)])), (aM, .inr (2, [.int (nI P)])), (aC, kd_ar cI w (pSub P C B sh f0)), (aB, kd_ar cI w B)]) 0 0 := by
  refine kd_enterV (cc := cX3_subtractOlder) (maxL := 4) (by decide) rfl (Nat.le_of_ble_eq_true rfl) ?_
  intro p e s m args below meth c A ls Q hx hb hr hts hown hlk hnm hml hP hK hD hA hS hl ret
  have hl : lv_has ls 4 [(0, .ref h0), (1, .int (nI f0))] := hl
  have hown : s.vm.findClass RX3 = some m.cls := hown
  have i_X3 : ∀ w ∈ wsX30, w ∈ wsX3_subtractOlder := by decide +kernel
  have fl7 := hts (.fieldLink RX3 7 "KrylovDesk$Recurrence" "modulus" "LKrylovDesk$Modulus;") (by decide +kernel)
  have fl43 := hts (.fieldLink RX3 43 "KrylovDesk$Recurrence" "shift" "I") (by decide +kernel)
  have fl19 := hts (.fieldLink RX3 19 "KrylovDesk$Recurrence" "terms" "[I") (by decide +kernel)
  have fl23 := hts (.fieldLink RX3 23 "KrylovDesk$Recurrence" "olderTerms" "[I") (by decide +kernel)
  refine lv_aload_n hx hb dX3_subtractOlder_0 rfl (lv_at hl 0 rfl) ?_
  refine va_get (D := D) (ci := 3) (v := .ref aM) (C := RX3) (T := TX3) (N := 7) hx hb hts i_X3 hown hK hP 0 rfl rfl 0 (by decide) fl7 (fun _ h9 => h9) rfl dX3_subtractOlder_1 ?_
  refine lv_iload_n hx hb dX3_subtractOlder_4 rfl (lv_at hl 1 rfl) ?_
  refine kd_VI (As := [.int (nI f0)]) (rest := []) (Wr := [(h0, .inr (3, [.ref aM, .ref aC, .ref aB, .ref aT, .int (nI L), .int (nI sh), .int (nI em)])), (aC, kd_ar cI w C), (aB, kd_ar cI w B)]) ⟨hx, hb, hml, hown, hts⟩ (c_X2_negative l D cI cJ aM P f0 g1 g2 g5) (cwV 1 hts gX3_subtractOlder_X2_negative rfl rfl rfl (by decide +kernel) ⟨Nat.le_of_ble_eq_true rfl, Nat.le_of_ble_eq_true rfl⟩) hK hP hD hS hA [1] [0, 2, 3] rfl rfl (by decide) (by decide) 0 rfl rfl rfl rfl hl.1 (Nat.le_of_ble_eq_true rfl) dX3_subtractOlder_5 ⟨Nat.le_of_ble_eq_true rfl, Nat.le_of_ble_eq_true rfl⟩ (fun _ H locs hP hD hS => ?_)
  have hP : va_P D vwCl [(h0, .inr (3, [.ref aM, .ref aC, .ref aB, .ref aT, .int (nI L), .int (nI sh), .int (nI em)])), (aC, kd_ar cI w C), (aB, kd_ar cI w B), (aM, .inr (2, [.int (nI P)]))] H := hP
  have hD : va_D A [(h0, .inr (3, [.ref aM, .ref aC, .ref aB, .ref aT, .int (nI L), .int (nI sh), .int (nI em)])), (aC, kd_ar cI w C), (aB, kd_ar cI w B), (aM, .inr (2, [.int (nI P)]))] := hD
  refine lv_istore_n (lv' := [(2, .int (nI (pNeg P f0))), (0, .ref h0), (1, .int (nI f0))]) hx hb dX3_subtractOlder_8 rfl hl (by decide) rfl (fun ls hl => ?_)
  refine lv_iconst (v := (nI 0)) hx hb dX3_subtractOlder_9 (by decide) ?_
  refine lv_istore_n (lv' := [(3, .int (nI 0)), (2, .int (nI (pNeg P f0))), (0, .ref h0), (1, .int (nI f0))]) hx hb dX3_subtractOlder_10 rfl hl (by decide) rfl (fun ls hl => ?_)
  obtain ⟨hP, hD⟩ := kd_swap (g := (pSubI P C B sh f0 0)) hP hD 1 rfl (fun j hj => pSubI_0)
  have hP : va_P D vwCl [(h0, .inr (3, [.ref aM, .ref aC, .ref aB, .ref aT, .int (nI L), .int (nI sh), .int (nI em)])), (aC, kd_ar cI w (pSubI P C B sh f0 0)), (aB, kd_ar cI w B), (aM, .inr (2, [.int (nI P)]))] H := hP
  have hD : va_D A [(h0, .inr (3, [.ref aM, .ref aC, .ref aB, .ref aT, .int (nI L), .int (nI sh), .int (nI em)])), (aC, kd_ar cI w (pSubI P C B sh f0 0)), (aB, kd_ar cI w B), (aM, .inr (2, [.int (nI P)]))] := hD
  have lp : ∀ (k_lp : Nat) (i : Nat) (H : Heap) (locs : List Loc) (ls : Array Slot), (w - i < k_lp) → (i ≤ w) → va_P D vwCl [(h0, .inr (3, [.ref aM, .ref aC, .ref aB, .ref aT, .int (nI L), .int (nI sh), .int (nI em)])), (aM, .inr (2, [.int (nI P)])), (aC, kd_ar cI w (pSubI P C B sh f0 i)), (aB, kd_ar cI w B)] H → va_D A [(h0, .inr (3, [.ref aM, .ref aC, .ref aB, .ref aT, .int (nI L), .int (nI sh), .int (nI em)])), (aM, .inr (2, [.int (nI P)])), (aC, kd_ar cI w (pSubI P C B sh f0 i)), (aB, kd_ar cI w B)] → va_S A s.heap H locs → lv_has ls 4 [(3, .int (nI i)), (2, .int (nI (pNeg P f0))), (0, .ref h0)] → W p l e { frames := 1, cells := 0, slots := 0, locals := 23 } s m args below meth c H locs 0 0 Q (F0 m 11 ls []) := by
    intro k_lp
    induction k_lp with
    | zero => intro i H locs ls i1 i2 hP hD hS hl; omega
    | succ k_lp ih_lp =>
      intro i H locs ls i1 i2 hP hD hS hl
      refine lv_iload_n hx hb dX3_subtractOlder_11 rfl (lv_at hl 0 rfl) ?_
      refine lv_aload_n hx hb dX3_subtractOlder_12 rfl (lv_at hl 2 rfl) ?_
      refine va_get (D := D) (ci := 3) (v := .int (nI sh)) (C := RX3) (T := TX3) (N := 7) hx hb hts i_X3 hown hK hP 0 rfl rfl 5 (by decide) fl43 (fun _ h9 => h9) rfl dX3_subtractOlder_13 ?_
      refine kd_add hx hb dX3_subtractOlder_16 ?_
      refine lv_aload_n hx hb dX3_subtractOlder_17 rfl (lv_at hl 2 rfl) ?_
      refine va_get (D := D) (ci := 3) (v := .ref aC) (C := RX3) (T := TX3) (N := 7) hx hb hts i_X3 hown hK hP 0 rfl rfl 1 (by decide) fl19 (fun _ h9 => h9) rfl dX3_subtractOlder_18 ?_
      refine kd_alen hx hb hK hP 2 rfl dX3_subtractOlder_21 ?_
      refine kd_ge (tgt := 67) hx hb dX3_subtractOlder_22 (by decide) (by omega) (by omega) (fun c_22 => ?_) (fun c_22 => ?_)
      · skip
        obtain ⟨hP, hD⟩ := kd_swap (g := (pSub P C B sh f0)) hP hD 2 rfl (fun j hj => pSubI_end (by omega))
        have hP : va_P D vwCl [(h0, .inr (3, [.ref aM, .ref aC, .ref aB, .ref aT, .int (nI L), .int (nI sh), .int (nI em)])), (aM, .inr (2, [.int (nI P)])), (aC, kd_ar cI w (pSub P C B sh f0)), (aB, kd_ar cI w B)] H := hP
        have hD : va_D A [(h0, .inr (3, [.ref aM, .ref aC, .ref aB, .ref aT, .int (nI L), .int (nI sh), .int (nI em)])), (aM, .inr (2, [.int (nI P)])), (aC, kd_ar cI w (pSub P C B sh f0)), (aB, kd_ar cI w B)] := hD
        exact ret () _ _ _ _ dX3_subtractOlder_67 hS (hP.sub [0, 1, 2, 3] rfl) (hD.sub [0, 1, 2, 3] (by decide) rfl)
      · skip
        refine lv_aload_n hx hb dX3_subtractOlder_25 rfl (lv_at hl 2 rfl) ?_
        refine va_get (D := D) (ci := 3) (v := .ref aC) (C := RX3) (T := TX3) (N := 7) hx hb hts i_X3 hown hK hP 0 rfl rfl 1 (by decide) fl19 (fun _ h9 => h9) rfl dX3_subtractOlder_26 ?_
        refine lv_iload_n hx hb dX3_subtractOlder_29 rfl (lv_at hl 0 rfl) ?_
        refine lv_aload_n hx hb dX3_subtractOlder_30 rfl (lv_at hl 2 rfl) ?_
        refine va_get (D := D) (ci := 3) (v := .int (nI sh)) (C := RX3) (T := TX3) (N := 7) hx hb hts i_X3 hown hK hP 0 rfl rfl 5 (by decide) fl43 (fun _ h9 => h9) rfl dX3_subtractOlder_31 ?_
        refine kd_add hx hb dX3_subtractOlder_34 ?_
        refine lv_aload_n hx hb dX3_subtractOlder_35 rfl (lv_at hl 2 rfl) ?_
        refine va_get (D := D) (ci := 3) (v := .ref aM) (C := RX3) (T := TX3) (N := 7) hx hb hts i_X3 hown hK hP 0 rfl rfl 0 (by decide) fl7 (fun _ h9 => h9) rfl dX3_subtractOlder_36 ?_
        refine lv_aload_n hx hb dX3_subtractOlder_39 rfl (lv_at hl 2 rfl) ?_
        refine va_get (D := D) (ci := 3) (v := .ref aC) (C := RX3) (T := TX3) (N := 7) hx hb hts i_X3 hown hK hP 0 rfl rfl 1 (by decide) fl19 (fun _ h9 => h9) rfl dX3_subtractOlder_40 ?_
        refine lv_iload_n hx hb dX3_subtractOlder_43 rfl (lv_at hl 0 rfl) ?_
        refine lv_aload_n hx hb dX3_subtractOlder_44 rfl (lv_at hl 2 rfl) ?_
        refine va_get (D := D) (ci := 3) (v := .int (nI sh)) (C := RX3) (T := TX3) (N := 7) hx hb hts i_X3 hown hK hP 0 rfl rfl 5 (by decide) fl43 (fun _ h9 => h9) rfl dX3_subtractOlder_45 ?_
        refine kd_add hx hb dX3_subtractOlder_48 ?_
        refine kd_ald hx hb hK hP 2 rfl (i + sh) (by omega) (by omega) dX3_subtractOlder_49 ?_
        refine lv_iload_n hx hb dX3_subtractOlder_50 rfl (lv_at hl 1 rfl) ?_
        refine lv_aload_n hx hb dX3_subtractOlder_51 rfl (lv_at hl 2 rfl) ?_
        refine va_get (D := D) (ci := 3) (v := .ref aB) (C := RX3) (T := TX3) (N := 7) hx hb hts i_X3 hown hK hP 0 rfl rfl 2 (by decide) fl23 (fun _ h9 => h9) rfl dX3_subtractOlder_52 ?_
        refine lv_iload_n hx hb dX3_subtractOlder_55 rfl (lv_at hl 0 rfl) ?_
        refine kd_ald hx hb hK hP 3 rfl i (by omega) (by omega) dX3_subtractOlder_56 ?_
        refine kd_VI (As := [.int (nI ((pSubI P C B sh f0 i) (i + sh))), .int (nI (pNeg P f0)), .int (nI (B i))]) (rest := [.int (nI (i + sh)), .ref aC]) (Wr := [(h0, .inr (3, [.ref aM, .ref aC, .ref aB, .ref aT, .int (nI L), .int (nI sh), .int (nI em)])), (aC, kd_ar cI w (pSubI P C B sh f0 i)), (aB, kd_ar cI w B)]) ⟨hx, hb, hml, hown, hts⟩ (c_X2_plusProduct l D cI cJ aM P ((pSubI P C B sh f0 i) (i + sh)) (pNeg P f0) (B i) g1 g2 (by rw [pSubI_at]; exact g6 _) (pNeg_lt (by omega)) (g7 _)) (cwV 3 hts gX3_subtractOlder_X2_plusProduct rfl rfl rfl (by decide +kernel) ⟨Nat.le_of_ble_eq_true rfl, Nat.le_of_ble_eq_true rfl⟩) hK hP hD hS hA [1] [0, 2, 3] rfl rfl (by decide) (by decide) 0 rfl rfl rfl rfl hl.1 (Nat.le_of_ble_eq_true rfl) dX3_subtractOlder_57 ⟨Nat.le_of_ble_eq_true rfl, Nat.le_of_ble_eq_true rfl⟩ (fun _ H locs hP hD hS => ?_)
        have hP : va_P D vwCl [(h0, .inr (3, [.ref aM, .ref aC, .ref aB, .ref aT, .int (nI L), .int (nI sh), .int (nI em)])), (aC, kd_ar cI w (pSubI P C B sh f0 i)), (aB, kd_ar cI w B), (aM, .inr (2, [.int (nI P)]))] H := hP
        have hD : va_D A [(h0, .inr (3, [.ref aM, .ref aC, .ref aB, .ref aT, .int (nI L), .int (nI sh), .int (nI em)])), (aC, kd_ar cI w (pSubI P C B sh f0 i)), (aB, kd_ar cI w B), (aM, .inr (2, [.int (nI P)]))] := hD
        refine kd_ast hx hb hK hP hD hS 1 rfl (i + sh) (by omega) (by omega) dX3_subtractOlder_60 (fun H locs hP hD hS => ?_)
        have hP : va_P D vwCl [(h0, .inr (3, [.ref aM, .ref aC, .ref aB, .ref aT, .int (nI L), .int (nI sh), .int (nI em)])), (aC, kd_ar cI w (va_up (pSubI P C B sh f0 i) (i + sh) ((((pSubI P C B sh f0 i) (i + sh)) + (pNeg P f0) * (B i)) % P))), (aB, kd_ar cI w B), (aM, .inr (2, [.int (nI P)]))] H := hP
        have hD : va_D A [(h0, .inr (3, [.ref aM, .ref aC, .ref aB, .ref aT, .int (nI L), .int (nI sh), .int (nI em)])), (aC, kd_ar cI w (va_up (pSubI P C B sh f0 i) (i + sh) ((((pSubI P C B sh f0 i) (i + sh)) + (pNeg P f0) * (B i)) % P))), (aB, kd_ar cI w B), (aM, .inr (2, [.int (nI P)]))] := hD
        obtain ⟨hP, hD⟩ := kd_swap (g := (pSubI P C B sh f0 (i + 1))) hP hD 1 rfl (fun j _ => pSubI_step j)
        have hP : va_P D vwCl [(h0, .inr (3, [.ref aM, .ref aC, .ref aB, .ref aT, .int (nI L), .int (nI sh), .int (nI em)])), (aC, kd_ar cI w (pSubI P C B sh f0 (i + 1))), (aB, kd_ar cI w B), (aM, .inr (2, [.int (nI P)]))] H := hP
        have hD : va_D A [(h0, .inr (3, [.ref aM, .ref aC, .ref aB, .ref aT, .int (nI L), .int (nI sh), .int (nI em)])), (aC, kd_ar cI w (pSubI P C B sh f0 (i + 1))), (aB, kd_ar cI w B), (aM, .inr (2, [.int (nI P)]))] := hD
        refine lv_iinc (v := (nI (i + 1))) (lv' := [(3, .int (nI (i + 1))), (2, .int (nI (pNeg P f0))), (0, .ref h0)]) hx hb dX3_subtractOlder_61 hl (k := 0) rfl (nI_1 _) (by decide) rfl (fun ls hl => ?_)
        refine lv_goto (tgt := 11) hx hb dX3_subtractOlder_64 (by decide) ?_
        exact ih_lp (i + 1) _ _ _ (by omega) (by omega) (hP.sub [0, 3, 1, 2] rfl) (hD.sub [0, 3, 1, 2] (by decide) rfl) hS (lv_sub hl [0, 1, 2] rfl)
  exact lp (w + 1) 0 _ _ _ (by omega) (by omega) (hP.sub [0, 3, 1, 2] rfl) (hD.sub [0, 3, 1, 2] (by decide) rfl) hS (lv_sub hl [0, 1, 2] rfl)

set_option maxHeartbeats 4000000 in
set_option maxRecDepth 100000 in
/-- one number more -/
theorem c_X3_learn (l : Launch) (D : va_G) (cI cJ : ClassId) (h0 aM aC aB aT : Nat) (aN P w q L sh em k : Nat) (C B T row : Nat → Nat) (g1 : 2 ≤ P) (g2 : P ≤ 46337) (g3 : w ≤ 33) (g4 : L ≤ k) (g5 : q < w) (g6 : ∀ j, C j < P) (g7 : k < q) (g8 : ∀ j, j < q → row j < P) (g9 : ∀ j, B j < P) (g10 : em < P) (g11 : sh ≤ k + 1) : kd_MV (S := Nat → Nat) l yX3_learn wsX3_learn { frames := 2, cells := 0, slots := 0, locals := 64 } [.ref h0, .ref aN, .int (nI k)] D vwCl cI cJ [(h0, .inr (3, [.ref aM, .ref aC, .ref aB, .ref aT, .int (nI L), .int (nI sh), .int (nI em)])), (aM, .inr (2, [.int (nI P)])), (aC, kd_ar cI w C), (aB, kd_ar cI w B), (aT, kd_ar cI w T), (aN, kd_ar cI q row)] (fun t9 => [(h0, .inr (3, [.ref aM, .ref aC, .ref aB, .ref aT, .int (nI ((pStep P row k (C, B, L, sh, em)).2.2.1)), .int (nI ((pStep P row k (C, B, L, sh, em)).2.2.2.1)), .int (nI ((pStep P row k (C, B, L, sh, em)).2.2.2.2))])), (aM, .inr (2, [.int (nI P)])), (aC, kd_ar cI w ((pStep P row k (C, B, L, sh, em)).1)), (aB, kd_ar cI w ((pStep P row k (C, B, L, sh, em)).2.1)), (aT, kd_ar cI w t9), (aN, kd_ar cI q row)]) 0 0 := by
  refine kd_enterV (cc := cX3_learn) (maxL := 5) (by decide) rfl (Nat.le_of_ble_eq_true rfl) ?_
  intro p e s m args below meth c A ls Q hx hb hr hts hown hlk hnm hml hP hK hD hA hS hl ret
  have hl : lv_has ls 5 [(0, .ref h0), (1, .ref aN), (2, .int (nI k))] := hl
  have hown : s.vm.findClass RX3 = some m.cls := hown
  have i_X3 : ∀ w ∈ wsX30, w ∈ wsX3_learn := by decide +kernel
  have fl7 := hts (.fieldLink RX3 7 "KrylovDesk$Recurrence" "modulus" "LKrylovDesk$Modulus;") (by decide +kernel)
  have fl46 := hts (.fieldLink RX3 46 "KrylovDesk$Recurrence" "olderMiss" "I") (by decide +kernel)
  have fl19 := hts (.fieldLink RX3 19 "KrylovDesk$Recurrence" "terms" "[I") (by decide +kernel)
  have fl26 := hts (.fieldLink RX3 26 "KrylovDesk$Recurrence" "keptTerms" "[I") (by decide +kernel)
  have fl29 := hts (.fieldLink RX3 29 "KrylovDesk$Recurrence" "length" "I") (by decide +kernel)
  have fl23 := hts (.fieldLink RX3 23 "KrylovDesk$Recurrence" "olderTerms" "[I") (by decide +kernel)
  have fl43 := hts (.fieldLink RX3 43 "KrylovDesk$Recurrence" "shift" "I") (by decide +kernel)
  have hms : pMs P row C k L < P := pMs_lt (by omega) (g8 k g7) C L
  refine lv_aload_n hx hb dX3_learn_0 rfl (lv_at hl 0 rfl) ?_
  refine lv_aload_n hx hb dX3_learn_1 rfl (lv_at hl 1 rfl) ?_
  refine lv_iload_n hx hb dX3_learn_2 rfl (lv_at hl 2 rfl) ?_
  refine kd_VI (As := [.ref aN, .int (nI k)]) (rest := []) (Wr := [(aB, kd_ar cI w B), (aT, kd_ar cI w T)]) ⟨hx, hb, hml, hown, hts⟩ (c_X3_missAt l D cI cJ h0 aM aC aB aT aN P w q L sh em k C row g1 g2 g3 g4 g5 g6 g7 g8) (cwV 2 hts gX3_learn_X3_missAt rfl rfl rfl (by decide +kernel) ⟨Nat.le_of_ble_eq_true rfl, Nat.le_of_ble_eq_true rfl⟩) hK hP hD hS hA [0, 1, 2, 5] [3, 4] rfl rfl (by decide) (by decide) 0 rfl rfl rfl rfl hl.1 (Nat.le_of_ble_eq_true rfl) dX3_learn_3 ⟨Nat.le_of_ble_eq_true rfl, Nat.le_of_ble_eq_true rfl⟩ (fun _ H locs hP hD hS => ?_)
  have hP : va_P D vwCl [(aB, kd_ar cI w B), (aT, kd_ar cI w T), (h0, .inr (3, [.ref aM, .ref aC, .ref aB, .ref aT, .int (nI L), .int (nI sh), .int (nI em)])), (aM, .inr (2, [.int (nI P)])), (aC, kd_ar cI w C), (aN, kd_ar cI q row)] H := hP
  have hD : va_D A [(aB, kd_ar cI w B), (aT, kd_ar cI w T), (h0, .inr (3, [.ref aM, .ref aC, .ref aB, .ref aT, .int (nI L), .int (nI sh), .int (nI em)])), (aM, .inr (2, [.int (nI P)])), (aC, kd_ar cI w C), (aN, kd_ar cI q row)] := hD
  refine lv_istore_n (lv' := [(3, .int (nI (pMs P row C k L))), (0, .ref h0), (1, .ref aN), (2, .int (nI k))]) hx hb dX3_learn_6 rfl hl (by decide) rfl (fun ls hl => ?_)
  refine lv_iload_n hx hb dX3_learn_7 rfl (lv_at hl 0 rfl) ?_
  refine kd_ne0 (tgt := 22) hx hb dX3_learn_8 (by decide) (by omega) (fun c_8 => ?_) (fun c_8 => ?_)
  · skip
    refine lv_aload_n hx hb dX3_learn_22 rfl (lv_at hl 1 rfl) ?_
    refine va_get (D := D) (ci := 3) (v := .ref aM) (C := RX3) (T := TX3) (N := 7) hx hb hts i_X3 hown hK hP 2 rfl rfl 0 (by decide) fl7 (fun _ h9 => h9) rfl dX3_learn_23 ?_
    refine lv_iconst (v := (nI 0)) hx hb dX3_learn_26 (by decide) ?_
    refine lv_iload_n hx hb dX3_learn_27 rfl (lv_at hl 0 rfl) ?_
    refine lv_aload_n hx hb dX3_learn_28 rfl (lv_at hl 1 rfl) ?_
    refine va_get (D := D) (ci := 3) (v := .ref aM) (C := RX3) (T := TX3) (N := 7) hx hb hts i_X3 hown hK hP 2 rfl rfl 0 (by decide) fl7 (fun _ h9 => h9) rfl dX3_learn_29 ?_
    refine lv_aload_n hx hb dX3_learn_32 rfl (lv_at hl 1 rfl) ?_
    refine va_get (D := D) (ci := 3) (v := .int (nI em)) (C := RX3) (T := TX3) (N := 7) hx hb hts i_X3 hown hK hP 2 rfl rfl 6 (by decide) fl46 (fun _ h9 => h9) rfl dX3_learn_33 ?_
    refine kd_VI (As := [.int (nI em)]) (rest := [.int (nI (pMs P row C k L)), .int (nI 0), .ref aM]) (Wr := [(aB, kd_ar cI w B), (aT, kd_ar cI w T), (h0, .inr (3, [.ref aM, .ref aC, .ref aB, .ref aT, .int (nI L), .int (nI sh), .int (nI em)])), (aC, kd_ar cI w C), (aN, kd_ar cI q row)]) ⟨hx, hb, hml, hown, hts⟩ (c_X2_inverse l D cI cJ aM P em g1 g2 g10) (cwV 1 hts gX3_learn_X2_inverse rfl rfl rfl (by decide +kernel) ⟨Nat.le_of_ble_eq_true rfl, Nat.le_of_ble_eq_true rfl⟩) hK hP hD hS hA [3] [0, 1, 2, 4, 5] rfl rfl (by decide) (by decide) 0 rfl rfl rfl rfl hl.1 (Nat.le_of_ble_eq_true rfl) dX3_learn_36 ⟨Nat.le_of_ble_eq_true rfl, Nat.le_of_ble_eq_true rfl⟩ (fun _ H locs hP hD hS => ?_)
    have hP : va_P D vwCl [(aB, kd_ar cI w B), (aT, kd_ar cI w T), (h0, .inr (3, [.ref aM, .ref aC, .ref aB, .ref aT, .int (nI L), .int (nI sh), .int (nI em)])), (aC, kd_ar cI w C), (aN, kd_ar cI q row), (aM, .inr (2, [.int (nI P)]))] H := hP
    have hD : va_D A [(aB, kd_ar cI w B), (aT, kd_ar cI w T), (h0, .inr (3, [.ref aM, .ref aC, .ref aB, .ref aT, .int (nI L), .int (nI sh), .int (nI em)])), (aC, kd_ar cI w C), (aN, kd_ar cI q row), (aM, .inr (2, [.int (nI P)]))] := hD
    refine kd_VI (As := [.int (nI 0), .int (nI (pMs P row C k L)), .int (nI (pInv P em))]) (rest := []) (Wr := [(aB, kd_ar cI w B), (aT, kd_ar cI w T), (h0, .inr (3, [.ref aM, .ref aC, .ref aB, .ref aT, .int (nI L), .int (nI sh), .int (nI em)])), (aC, kd_ar cI w C), (aN, kd_ar cI q row)]) ⟨hx, hb, hml, hown, hts⟩ (c_X2_plusProduct l D cI cJ aM P 0 (pMs P row C k L) (pInv P em) g1 g2 (by omega) (pMs_lt (by omega) (g8 k g7) C L) (pInv_lt (by omega))) (cwV 3 hts gX3_learn_X2_plusProduct rfl rfl rfl (by decide +kernel) ⟨Nat.le_of_ble_eq_true rfl, Nat.le_of_ble_eq_true rfl⟩) hK hP hD hS hA [5] [0, 1, 2, 3, 4] rfl rfl (by decide) (by decide) 0 rfl rfl rfl rfl hl.1 (Nat.le_of_ble_eq_true rfl) dX3_learn_39 ⟨Nat.le_of_ble_eq_true rfl, Nat.le_of_ble_eq_true rfl⟩ (fun _ H locs hP hD hS => ?_)
    have hP : va_P D vwCl [(aB, kd_ar cI w B), (aT, kd_ar cI w T), (h0, .inr (3, [.ref aM, .ref aC, .ref aB, .ref aT, .int (nI L), .int (nI sh), .int (nI em)])), (aC, kd_ar cI w C), (aN, kd_ar cI q row), (aM, .inr (2, [.int (nI P)]))] H := hP
    have hD : va_D A [(aB, kd_ar cI w B), (aT, kd_ar cI w T), (h0, .inr (3, [.ref aM, .ref aC, .ref aB, .ref aT, .int (nI L), .int (nI sh), .int (nI em)])), (aC, kd_ar cI w C), (aN, kd_ar cI q row), (aM, .inr (2, [.int (nI P)]))] := hD
    refine lv_istore (lv' := [(4, .int (nI ((0 + pMs P row C k L * pInv P em) % P))), (3, .int (nI (pMs P row C k L))), (0, .ref h0), (1, .ref aN), (2, .int (nI k))]) hx hb dX3_learn_42 hl (by decide) rfl (fun ls hl => ?_)
    refine lv_aload_n hx hb dX3_learn_44 rfl (lv_at hl 2 rfl) ?_
    refine va_get (D := D) (ci := 3) (v := .ref aC) (C := RX3) (T := TX3) (N := 7) hx hb hts i_X3 hown hK hP 2 rfl rfl 1 (by decide) fl19 (fun _ h9 => h9) rfl dX3_learn_45 ?_
    refine lv_iconst (v := (nI 0)) hx hb dX3_learn_48 (by decide) ?_
    refine lv_aload_n hx hb dX3_learn_49 rfl (lv_at hl 2 rfl) ?_
    refine va_get (D := D) (ci := 3) (v := .ref aT) (C := RX3) (T := TX3) (N := 7) hx hb hts i_X3 hown hK hP 2 rfl rfl 3 (by decide) fl26 (fun _ h9 => h9) rfl dX3_learn_50 ?_
    refine lv_iconst (v := (nI 0)) hx hb dX3_learn_53 (by decide) ?_
    refine lv_aload_n hx hb dX3_learn_54 rfl (lv_at hl 2 rfl) ?_
    refine va_get (D := D) (ci := 3) (v := .ref aC) (C := RX3) (T := TX3) (N := 7) hx hb hts i_X3 hown hK hP 2 rfl rfl 1 (by decide) fl19 (fun _ h9 => h9) rfl dX3_learn_55 ?_
    refine kd_alen hx hb hK hP 3 rfl dX3_learn_58 ?_
    refine kd_copy hx hb (hml.trans hl.1.symm) hown (hts (.methodLink RX3 65 arraycopyName) (by decide +kernel)) (hts (.native arraycopyName) (by decide +kernel)) (hts (.static arraycopyName) (by decide +kernel)) (hts (.initialized "java/lang/System") (by decide +kernel)) hK hP hD hS 3 1 rfl rfl (by omega) (by omega) (by omega) (Nat.le_of_ble_eq_true rfl) (by decide) dX3_learn_59 (fun H locs hP hD hS => ?_)
    have hP : va_P D vwCl [(aB, kd_ar cI w B), (aT, kd_ar cI w (va_cpy C T 0 0 w)), (h0, .inr (3, [.ref aM, .ref aC, .ref aB, .ref aT, .int (nI L), .int (nI sh), .int (nI em)])), (aC, kd_ar cI w C), (aN, kd_ar cI q row), (aM, .inr (2, [.int (nI P)]))] H := hP
    have hD : va_D A [(aB, kd_ar cI w B), (aT, kd_ar cI w (va_cpy C T 0 0 w)), (h0, .inr (3, [.ref aM, .ref aC, .ref aB, .ref aT, .int (nI L), .int (nI sh), .int (nI em)])), (aC, kd_ar cI w C), (aN, kd_ar cI q row), (aM, .inr (2, [.int (nI P)]))] := hD
    obtain ⟨hP, hD⟩ := kd_swap (g := C) hP hD 1 rfl (fun j hj => cpy_all hj)
    have hP : va_P D vwCl [(aB, kd_ar cI w B), (aT, kd_ar cI w C), (h0, .inr (3, [.ref aM, .ref aC, .ref aB, .ref aT, .int (nI L), .int (nI sh), .int (nI em)])), (aC, kd_ar cI w C), (aN, kd_ar cI q row), (aM, .inr (2, [.int (nI P)]))] H := hP
    have hD : va_D A [(aB, kd_ar cI w B), (aT, kd_ar cI w C), (h0, .inr (3, [.ref aM, .ref aC, .ref aB, .ref aT, .int (nI L), .int (nI sh), .int (nI em)])), (aC, kd_ar cI w C), (aN, kd_ar cI q row), (aM, .inr (2, [.int (nI P)]))] := hD
    refine lv_aload_n hx hb dX3_learn_62 rfl (lv_at hl 2 rfl) ?_
    refine lv_iload hx hb dX3_learn_63 (lv_at hl 0 rfl) ?_
    refine kd_VV (As := [.int (nI ((0 + pMs P row C k L * pInv P em) % P))]) (rest := []) (Wr := [(aT, kd_ar cI w C), (aN, kd_ar cI q row)]) ⟨hx, hb, hml, hown, hts⟩ (c_X3_subtractOlder l D cI cJ h0 aM aC aB aT P w L sh em ((0 + pMs P row C k L * pInv P em) % P) C B g1 g2 g3 (by omega) (Nat.mod_lt _ (by omega)) g6 g9) (cwV 1 hts gX3_learn_X3_subtractOlder rfl rfl rfl (by decide +kernel) ⟨Nat.le_of_ble_eq_true rfl, Nat.le_of_ble_eq_true rfl⟩) hK hP hD hS hA [2, 5, 3, 0] [1, 4] rfl rfl (by decide) (by decide) 0 rfl rfl rfl rfl hl.1 (Nat.le_of_ble_eq_true rfl) dX3_learn_65 ⟨Nat.le_of_ble_eq_true rfl, Nat.le_of_ble_eq_true rfl⟩ (fun _ H locs hP hD hS => ?_)
    have hP : va_P D vwCl [(aT, kd_ar cI w C), (aN, kd_ar cI q row), (h0, .inr (3, [.ref aM, .ref aC, .ref aB, .ref aT, .int (nI L), .int (nI sh), .int (nI em)])), (aM, .inr (2, [.int (nI P)])), (aC, kd_ar cI w (pSub P C B sh ((0 + pMs P row C k L * pInv P em) % P))), (aB, kd_ar cI w B)] H := hP
    have hD : va_D A [(aT, kd_ar cI w C), (aN, kd_ar cI q row), (h0, .inr (3, [.ref aM, .ref aC, .ref aB, .ref aT, .int (nI L), .int (nI sh), .int (nI em)])), (aM, .inr (2, [.int (nI P)])), (aC, kd_ar cI w (pSub P C B sh ((0 + pMs P row C k L * pInv P em) % P))), (aB, kd_ar cI w B)] := hD
    refine lv_iconst (v := (nI 2)) hx hb dX3_learn_68 (by decide) ?_
    refine lv_aload_n hx hb dX3_learn_69 rfl (lv_at hl 2 rfl) ?_
    refine va_get (D := D) (ci := 3) (v := .int (nI L)) (C := RX3) (T := TX3) (N := 7) hx hb hts i_X3 hown hK hP 2 rfl rfl 4 (by decide) fl29 (fun _ h9 => h9) rfl dX3_learn_70 ?_
    refine kd_mul hx hb dX3_learn_73 ?_
    refine lv_iload_n hx hb dX3_learn_74 rfl (lv_at hl 4 rfl) ?_
    refine kd_le (tgt := 89) hx hb dX3_learn_75 (by decide) (by omega) (by omega) (fun c_75 => ?_) (fun c_75 => ?_)
    · skip
      refine lv_aload_n hx hb dX3_learn_89 rfl (lv_at hl 2 rfl) ?_
      refine lv_iload_n hx hb dX3_learn_90 rfl (lv_at hl 4 rfl) ?_
      refine lv_iconst (v := (nI 1)) hx hb dX3_learn_91 (by decide) ?_
      refine kd_add hx hb dX3_learn_92 ?_
      refine lv_aload_n hx hb dX3_learn_93 rfl (lv_at hl 2 rfl) ?_
      refine va_get (D := D) (ci := 3) (v := .int (nI L)) (C := RX3) (T := TX3) (N := 7) hx hb hts i_X3 hown hK hP 2 rfl rfl 4 (by decide) fl29 (fun _ h9 => h9) rfl dX3_learn_94 ?_
      refine kd_sub hx hb (by omega) dX3_learn_97 ?_
      refine va_put (D := D) (ci := 3) (v := .int (nI ((k + 1) - L))) (ty := .int) (C := RX3) (T := TX3) (N := 7) hx hb hts i_X3 tyX3 tyX3_ok nmX3 hown hK hP hD hS 2 rfl rfl 4 (by decide) fl29 (fun _ h9 => h9) rfl (by decide +kernel) rfl rfl (Nat.le_of_ble_eq_true rfl) dX3_learn_98 (fun H locs hP hD hS => ?_)
      have hP : va_P D vwCl [(aT, kd_ar cI w C), (aN, kd_ar cI q row), (h0, .inr (3, [.ref aM, .ref aC, .ref aB, .ref aT, .int (nI ((k + 1) - L)), .int (nI sh), .int (nI em)])), (aM, .inr (2, [.int (nI P)])), (aC, kd_ar cI w (pSub P C B sh ((0 + pMs P row C k L * pInv P em) % P))), (aB, kd_ar cI w B)] H := hP
      have hD : va_D A [(aT, kd_ar cI w C), (aN, kd_ar cI q row), (h0, .inr (3, [.ref aM, .ref aC, .ref aB, .ref aT, .int (nI ((k + 1) - L)), .int (nI sh), .int (nI em)])), (aM, .inr (2, [.int (nI P)])), (aC, kd_ar cI w (pSub P C B sh ((0 + pMs P row C k L * pInv P em) % P))), (aB, kd_ar cI w B)] := hD
      refine lv_aload_n hx hb dX3_learn_101 rfl (lv_at hl 2 rfl) ?_
      refine va_get (D := D) (ci := 3) (v := .ref aT) (C := RX3) (T := TX3) (N := 7) hx hb hts i_X3 hown hK hP 2 rfl rfl 3 (by decide) fl26 (fun _ h9 => h9) rfl dX3_learn_102 ?_
      refine lv_iconst (v := (nI 0)) hx hb dX3_learn_105 (by decide) ?_
      refine lv_aload_n hx hb dX3_learn_106 rfl (lv_at hl 2 rfl) ?_
      refine va_get (D := D) (ci := 3) (v := .ref aB) (C := RX3) (T := TX3) (N := 7) hx hb hts i_X3 hown hK hP 2 rfl rfl 2 (by decide) fl23 (fun _ h9 => h9) rfl dX3_learn_107 ?_
      refine lv_iconst (v := (nI 0)) hx hb dX3_learn_110 (by decide) ?_
      refine lv_aload_n hx hb dX3_learn_111 rfl (lv_at hl 2 rfl) ?_
      refine va_get (D := D) (ci := 3) (v := .ref aT) (C := RX3) (T := TX3) (N := 7) hx hb hts i_X3 hown hK hP 2 rfl rfl 3 (by decide) fl26 (fun _ h9 => h9) rfl dX3_learn_112 ?_
      refine kd_alen hx hb hK hP 0 rfl dX3_learn_115 ?_
      refine kd_copy hx hb (hml.trans hl.1.symm) hown (hts (.methodLink RX3 65 arraycopyName) (by decide +kernel)) (hts (.native arraycopyName) (by decide +kernel)) (hts (.static arraycopyName) (by decide +kernel)) (hts (.initialized "java/lang/System") (by decide +kernel)) hK hP hD hS 0 5 rfl rfl (by omega) (by omega) (by omega) (Nat.le_of_ble_eq_true rfl) (by decide) dX3_learn_116 (fun H locs hP hD hS => ?_)
      have hP : va_P D vwCl [(aT, kd_ar cI w C), (aN, kd_ar cI q row), (h0, .inr (3, [.ref aM, .ref aC, .ref aB, .ref aT, .int (nI ((k + 1) - L)), .int (nI sh), .int (nI em)])), (aM, .inr (2, [.int (nI P)])), (aC, kd_ar cI w (pSub P C B sh ((0 + pMs P row C k L * pInv P em) % P))), (aB, kd_ar cI w (va_cpy C B 0 0 w))] H := hP
      have hD : va_D A [(aT, kd_ar cI w C), (aN, kd_ar cI q row), (h0, .inr (3, [.ref aM, .ref aC, .ref aB, .ref aT, .int (nI ((k + 1) - L)), .int (nI sh), .int (nI em)])), (aM, .inr (2, [.int (nI P)])), (aC, kd_ar cI w (pSub P C B sh ((0 + pMs P row C k L * pInv P em) % P))), (aB, kd_ar cI w (va_cpy C B 0 0 w))] := hD
      obtain ⟨hP, hD⟩ := kd_swap (g := C) hP hD 5 rfl (fun j hj => cpy_all hj)
      have hP : va_P D vwCl [(aT, kd_ar cI w C), (aN, kd_ar cI q row), (h0, .inr (3, [.ref aM, .ref aC, .ref aB, .ref aT, .int (nI ((k + 1) - L)), .int (nI sh), .int (nI em)])), (aM, .inr (2, [.int (nI P)])), (aC, kd_ar cI w (pSub P C B sh ((0 + pMs P row C k L * pInv P em) % P))), (aB, kd_ar cI w C)] H := hP
      have hD : va_D A [(aT, kd_ar cI w C), (aN, kd_ar cI q row), (h0, .inr (3, [.ref aM, .ref aC, .ref aB, .ref aT, .int (nI ((k + 1) - L)), .int (nI sh), .int (nI em)])), (aM, .inr (2, [.int (nI P)])), (aC, kd_ar cI w (pSub P C B sh ((0 + pMs P row C k L * pInv P em) % P))), (aB, kd_ar cI w C)] := hD
      refine lv_aload_n hx hb dX3_learn_119 rfl (lv_at hl 2 rfl) ?_
      refine lv_iload_n hx hb dX3_learn_120 rfl (lv_at hl 1 rfl) ?_
      refine va_put (D := D) (ci := 3) (v := .int (nI (pMs P row C k L))) (ty := .int) (C := RX3) (T := TX3) (N := 7) hx hb hts i_X3 tyX3 tyX3_ok nmX3 hown hK hP hD hS 2 rfl rfl 6 (by decide) fl46 (fun _ h9 => h9) rfl (by decide +kernel) rfl rfl (Nat.le_of_ble_eq_true rfl) dX3_learn_121 (fun H locs hP hD hS => ?_)
      have hP : va_P D vwCl [(aT, kd_ar cI w C), (aN, kd_ar cI q row), (h0, .inr (3, [.ref aM, .ref aC, .ref aB, .ref aT, .int (nI ((k + 1) - L)), .int (nI sh), .int (nI (pMs P row C k L))])), (aM, .inr (2, [.int (nI P)])), (aC, kd_ar cI w (pSub P C B sh ((0 + pMs P row C k L * pInv P em) % P))), (aB, kd_ar cI w C)] H := hP
      have hD : va_D A [(aT, kd_ar cI w C), (aN, kd_ar cI q row), (h0, .inr (3, [.ref aM, .ref aC, .ref aB, .ref aT, .int (nI ((k + 1) - L)), .int (nI sh), .int (nI (pMs P row C k L))])), (aM, .inr (2, [.int (nI P)])), (aC, kd_ar cI w (pSub P C B sh ((0 + pMs P row C k L * pInv P em) % P))), (aB, kd_ar cI w C)] := hD
      refine lv_aload_n hx hb dX3_learn_124 rfl (lv_at hl 2 rfl) ?_
      refine lv_iconst (v := (nI 1)) hx hb dX3_learn_125 (by decide) ?_
      refine va_put (D := D) (ci := 3) (v := .int (nI 1)) (ty := .int) (C := RX3) (T := TX3) (N := 7) hx hb hts i_X3 tyX3 tyX3_ok nmX3 hown hK hP hD hS 2 rfl rfl 5 (by decide) fl43 (fun _ h9 => h9) rfl (by decide +kernel) rfl rfl (Nat.le_of_ble_eq_true rfl) dX3_learn_126 (fun H locs hP hD hS => ?_)
      have hP : va_P D vwCl [(aT, kd_ar cI w C), (aN, kd_ar cI q row), (h0, .inr (3, [.ref aM, .ref aC, .ref aB, .ref aT, .int (nI ((k + 1) - L)), .int (nI 1), .int (nI (pMs P row C k L))])), (aM, .inr (2, [.int (nI P)])), (aC, kd_ar cI w (pSub P C B sh ((0 + pMs P row C k L * pInv P em) % P))), (aB, kd_ar cI w C)] H := hP
      have hD : va_D A [(aT, kd_ar cI w C), (aN, kd_ar cI q row), (h0, .inr (3, [.ref aM, .ref aC, .ref aB, .ref aT, .int (nI ((k + 1) - L)), .int (nI 1), .int (nI (pMs P row C k L))])), (aM, .inr (2, [.int (nI P)])), (aC, kd_ar cI w (pSub P C B sh ((0 + pMs P row C k L * pInv P em) % P))), (aB, kd_ar cI w C)] := hD
      have e9 := pStep_2 (P := P) (row := row) (C := C) (B := B) (k := k) (L := L) (sh := sh) (em := em) c_8 (by omega)
      rw [e9] at ret
      exact ret C _ _ _ _ dX3_learn_129 hS (hP.sub [2, 3, 4, 5, 0, 1] rfl) (hD.sub [2, 3, 4, 5, 0, 1] (by decide) rfl)
    · skip
      refine lv_aload_n hx hb dX3_learn_78 rfl (lv_at hl 2 rfl) ?_
      refine lv_dup hx hb dX3_learn_79 rfl ?_
      refine va_get (D := D) (ci := 3) (v := .int (nI sh)) (C := RX3) (T := TX3) (N := 7) hx hb hts i_X3 hown hK hP 2 rfl rfl 5 (by decide) fl43 (fun _ h9 => h9) rfl dX3_learn_80 ?_
      refine lv_iconst (v := (nI 1)) hx hb dX3_learn_83 (by decide) ?_
      refine kd_add hx hb dX3_learn_84 ?_
      refine va_put (D := D) (ci := 3) (v := .int (nI (sh + 1))) (ty := .int) (C := RX3) (T := TX3) (N := 7) hx hb hts i_X3 tyX3 tyX3_ok nmX3 hown hK hP hD hS 2 rfl rfl 5 (by decide) fl43 (fun _ h9 => h9) rfl (by decide +kernel) rfl rfl (Nat.le_of_ble_eq_true rfl) dX3_learn_85 (fun H locs hP hD hS => ?_)
      have hP : va_P D vwCl [(aT, kd_ar cI w C), (aN, kd_ar cI q row), (h0, .inr (3, [.ref aM, .ref aC, .ref aB, .ref aT, .int (nI L), .int (nI (sh + 1)), .int (nI em)])), (aM, .inr (2, [.int (nI P)])), (aC, kd_ar cI w (pSub P C B sh ((0 + pMs P row C k L * pInv P em) % P))), (aB, kd_ar cI w B)] H := hP
      have hD : va_D A [(aT, kd_ar cI w C), (aN, kd_ar cI q row), (h0, .inr (3, [.ref aM, .ref aC, .ref aB, .ref aT, .int (nI L), .int (nI (sh + 1)), .int (nI em)])), (aM, .inr (2, [.int (nI P)])), (aC, kd_ar cI w (pSub P C B sh ((0 + pMs P row C k L * pInv P em) % P))), (aB, kd_ar cI w B)] := hD
      have e9 := pStep_1 (P := P) (row := row) (C := C) (B := B) (k := k) (L := L) (sh := sh) (em := em) c_8 (by omega)
      rw [e9] at ret
      exact ret C _ _ _ _ dX3_learn_88 hS (hP.sub [2, 3, 4, 5, 0, 1] rfl) (hD.sub [2, 3, 4, 5, 0, 1] (by decide) rfl)
  · skip
    refine lv_aload_n hx hb dX3_learn_11 rfl (lv_at hl 1 rfl) ?_
    refine lv_dup hx hb dX3_learn_12 rfl ?_
    refine va_get (D := D) (ci := 3) (v := .int (nI sh)) (C := RX3) (T := TX3) (N := 7) hx hb hts i_X3 hown hK hP 2 rfl rfl 5 (by decide) fl43 (fun _ h9 => h9) rfl dX3_learn_13 ?_
    refine lv_iconst (v := (nI 1)) hx hb dX3_learn_16 (by decide) ?_
    refine kd_add hx hb dX3_learn_17 ?_
    refine va_put (D := D) (ci := 3) (v := .int (nI (sh + 1))) (ty := .int) (C := RX3) (T := TX3) (N := 7) hx hb hts i_X3 tyX3 tyX3_ok nmX3 hown hK hP hD hS 2 rfl rfl 5 (by decide) fl43 (fun _ h9 => h9) rfl (by decide +kernel) rfl rfl (Nat.le_of_ble_eq_true rfl) dX3_learn_18 (fun H locs hP hD hS => ?_)
    have hP : va_P D vwCl [(aB, kd_ar cI w B), (aT, kd_ar cI w T), (h0, .inr (3, [.ref aM, .ref aC, .ref aB, .ref aT, .int (nI L), .int (nI (sh + 1)), .int (nI em)])), (aM, .inr (2, [.int (nI P)])), (aC, kd_ar cI w C), (aN, kd_ar cI q row)] H := hP
    have hD : va_D A [(aB, kd_ar cI w B), (aT, kd_ar cI w T), (h0, .inr (3, [.ref aM, .ref aC, .ref aB, .ref aT, .int (nI L), .int (nI (sh + 1)), .int (nI em)])), (aM, .inr (2, [.int (nI P)])), (aC, kd_ar cI w C), (aN, kd_ar cI q row)] := hD
    have e9 := pStep_0 (P := P) (row := row) (C := C) (B := B) (k := k) (L := L) (sh := sh) (em := em) c_8
    rw [e9] at ret
    exact ret T _ _ _ _ dX3_learn_21 hS (hP.sub [2, 3, 4, 0, 1, 5] rfl) (hD.sub [2, 3, 4, 0, 1, 5] (by decide) rfl)

set_option maxHeartbeats 4000000 in
set_option maxRecDepth 100000 in
/-- the recurrence of the row -/
theorem c_X3_find (l : Launch) (D : va_G) (cI cJ : ClassId) (h0 aM aC aB aT : Nat) (aN P w q L sh em : Nat) (C B T row : Nat → Nat) (g1 : 2 ≤ P) (g2 : P ≤ 46337) (g3 : w ≤ 33) (g5 : q < w) (g8 : ∀ j, j < q → row j < P) : kd_MV (S := Nat → Nat) l yX3_find wsX3_find { frames := 3, cells := 0, slots := 0, locals := 88 } [.ref h0, .ref aN] D vwCl cI cJ [(h0, .inr (3, [.ref aM, .ref aC, .ref aB, .ref aT, .int (nI L), .int (nI sh), .int (nI em)])), (aM, .inr (2, [.int (nI P)])), (aC, kd_ar cI w C), (aB, kd_ar cI w B), (aT, kd_ar cI w T), (aN, kd_ar cI q row)] (fun t9 => [(h0, .inr (3, [.ref aM, .ref aC, .ref aB, .ref aT, .int (nI ((pBM P row q).2.2.1)), .int (nI ((pBM P row q).2.2.2.1)), .int (nI ((pBM P row q).2.2.2.2))])), (aM, .inr (2, [.int (nI P)])), (aC, kd_ar cI w ((pBM P row q).1)), (aB, kd_ar cI w ((pBM P row q).2.1)), (aT, kd_ar cI w t9), (aN, kd_ar cI q row)]) 0 0 := by
  refine kd_enterV (cc := cX3_find) (maxL := 3) (by decide) rfl (Nat.le_of_ble_eq_true rfl) ?_
  intro p e s m args below meth c A ls Q hx hb hr hts hown hlk hnm hml hP hK hD hA hS hl ret
  have hl : lv_has ls 3 [(0, .ref h0), (1, .ref aN)] := hl
  have hown : s.vm.findClass RX3 = some m.cls := hown
  have i_X3 : ∀ w ∈ wsX30, w ∈ wsX3_find := by decide +kernel
  have fl19 := hts (.fieldLink RX3 19 "KrylovDesk$Recurrence" "terms" "[I") (by decide +kernel)
  have fl23 := hts (.fieldLink RX3 23 "KrylovDesk$Recurrence" "olderTerms" "[I") (by decide +kernel)
  have fl29 := hts (.fieldLink RX3 29 "KrylovDesk$Recurrence" "length" "I") (by decide +kernel)
  have fl43 := hts (.fieldLink RX3 43 "KrylovDesk$Recurrence" "shift" "I") (by decide +kernel)
  have fl46 := hts (.fieldLink RX3 46 "KrylovDesk$Recurrence" "olderMiss" "I") (by decide +kernel)
  refine lv_aload_n hx hb dX3_find_0 rfl (lv_at hl 0 rfl) ?_
  refine va_get (D := D) (ci := 3) (v := .ref aC) (C := RX3) (T := TX3) (N := 7) hx hb hts i_X3 hown hK hP 0 rfl rfl 1 (by decide) fl19 (fun _ h9 => h9) rfl dX3_find_1 ?_
  refine lv_iconst (v := (nI 0)) hx hb dX3_find_4 (by decide) ?_
  refine kd_SV (As := [.ref aC, .int (nI 0)]) (rest := []) (Wr := [(h0, .inr (3, [.ref aM, .ref aC, .ref aB, .ref aT, .int (nI L), .int (nI sh), .int (nI em)])), (aM, .inr (2, [.int (nI P)])), (aB, kd_ar cI w B), (aT, kd_ar cI w T), (aN, kd_ar cI q row)]) ⟨hx, hb, hml, hown, hts⟩ (c_J7_fill_53178 l D cI cJ aC w 0 C (by omega)) (va_cwS 2 hts gX3_find_J7_fill_53178 rfl rfl rfl (by decide +kernel) ⟨Nat.le_of_ble_eq_true rfl, Nat.le_of_ble_eq_true rfl⟩) hK hP hD hS hA [2] [0, 1, 3, 4, 5] rfl rfl (by decide) (by decide) rfl rfl hl.1 (Nat.le_of_ble_eq_true rfl) dX3_find_5 ⟨Nat.le_of_ble_eq_true rfl, Nat.le_of_ble_eq_true rfl⟩ (fun _ H locs hP hD hS => ?_)
  have hP : va_P D vwCl [(h0, .inr (3, [.ref aM, .ref aC, .ref aB, .ref aT, .int (nI L), .int (nI sh), .int (nI em)])), (aM, .inr (2, [.int (nI P)])), (aB, kd_ar cI w B), (aT, kd_ar cI w T), (aN, kd_ar cI q row), (aC, kd_ar cI w (fun _ => 0))] H := hP
  have hD : va_D A [(h0, .inr (3, [.ref aM, .ref aC, .ref aB, .ref aT, .int (nI L), .int (nI sh), .int (nI em)])), (aM, .inr (2, [.int (nI P)])), (aB, kd_ar cI w B), (aT, kd_ar cI w T), (aN, kd_ar cI q row), (aC, kd_ar cI w (fun _ => 0))] := hD
  refine lv_aload_n hx hb dX3_find_8 rfl (lv_at hl 0 rfl) ?_
  refine va_get (D := D) (ci := 3) (v := .ref aB) (C := RX3) (T := TX3) (N := 7) hx hb hts i_X3 hown hK hP 0 rfl rfl 2 (by decide) fl23 (fun _ h9 => h9) rfl dX3_find_9 ?_
  refine lv_iconst (v := (nI 0)) hx hb dX3_find_12 (by decide) ?_
  refine kd_SV (As := [.ref aB, .int (nI 0)]) (rest := []) (Wr := [(h0, .inr (3, [.ref aM, .ref aC, .ref aB, .ref aT, .int (nI L), .int (nI sh), .int (nI em)])), (aM, .inr (2, [.int (nI P)])), (aT, kd_ar cI w T), (aN, kd_ar cI q row), (aC, kd_ar cI w (fun _ => 0))]) ⟨hx, hb, hml, hown, hts⟩ (c_J7_fill_53178 l D cI cJ aB w 0 B (by omega)) (va_cwS 2 hts gX3_find_J7_fill_53178 rfl rfl rfl (by decide +kernel) ⟨Nat.le_of_ble_eq_true rfl, Nat.le_of_ble_eq_true rfl⟩) hK hP hD hS hA [2] [0, 1, 3, 4, 5] rfl rfl (by decide) (by decide) rfl rfl hl.1 (Nat.le_of_ble_eq_true rfl) dX3_find_13 ⟨Nat.le_of_ble_eq_true rfl, Nat.le_of_ble_eq_true rfl⟩ (fun _ H locs hP hD hS => ?_)
  have hP : va_P D vwCl [(h0, .inr (3, [.ref aM, .ref aC, .ref aB, .ref aT, .int (nI L), .int (nI sh), .int (nI em)])), (aM, .inr (2, [.int (nI P)])), (aT, kd_ar cI w T), (aN, kd_ar cI q row), (aC, kd_ar cI w (fun _ => 0)), (aB, kd_ar cI w (fun _ => 0))] H := hP
  have hD : va_D A [(h0, .inr (3, [.ref aM, .ref aC, .ref aB, .ref aT, .int (nI L), .int (nI sh), .int (nI em)])), (aM, .inr (2, [.int (nI P)])), (aT, kd_ar cI w T), (aN, kd_ar cI q row), (aC, kd_ar cI w (fun _ => 0)), (aB, kd_ar cI w (fun _ => 0))] := hD
  refine lv_aload_n hx hb dX3_find_16 rfl (lv_at hl 0 rfl) ?_
  refine va_get (D := D) (ci := 3) (v := .ref aC) (C := RX3) (T := TX3) (N := 7) hx hb hts i_X3 hown hK hP 0 rfl rfl 1 (by decide) fl19 (fun _ h9 => h9) rfl dX3_find_17 ?_
  refine lv_iconst (v := (nI 0)) hx hb dX3_find_20 (by decide) ?_
  refine lv_iconst (v := (nI 1)) hx hb dX3_find_21 (by decide) ?_
  refine kd_ast hx hb hK hP hD hS 4 rfl 0 (by omega) (by omega) dX3_find_22 (fun H locs hP hD hS => ?_)
  have hP : va_P D vwCl [(h0, .inr (3, [.ref aM, .ref aC, .ref aB, .ref aT, .int (nI L), .int (nI sh), .int (nI em)])), (aM, .inr (2, [.int (nI P)])), (aT, kd_ar cI w T), (aN, kd_ar cI q row), (aC, kd_ar cI w (va_up (fun _ => 0) 0 1)), (aB, kd_ar cI w (fun _ => 0))] H := hP
  have hD : va_D A [(h0, .inr (3, [.ref aM, .ref aC, .ref aB, .ref aT, .int (nI L), .int (nI sh), .int (nI em)])), (aM, .inr (2, [.int (nI P)])), (aT, kd_ar cI w T), (aN, kd_ar cI q row), (aC, kd_ar cI w (va_up (fun _ => 0) 0 1)), (aB, kd_ar cI w (fun _ => 0))] := hD
  refine lv_aload_n hx hb dX3_find_23 rfl (lv_at hl 0 rfl) ?_
  refine va_get (D := D) (ci := 3) (v := .ref aB) (C := RX3) (T := TX3) (N := 7) hx hb hts i_X3 hown hK hP 0 rfl rfl 2 (by decide) fl23 (fun _ h9 => h9) rfl dX3_find_24 ?_
  refine lv_iconst (v := (nI 0)) hx hb dX3_find_27 (by decide) ?_
  refine lv_iconst (v := (nI 1)) hx hb dX3_find_28 (by decide) ?_
  refine kd_ast hx hb hK hP hD hS 5 rfl 0 (by omega) (by omega) dX3_find_29 (fun H locs hP hD hS => ?_)
  have hP : va_P D vwCl [(h0, .inr (3, [.ref aM, .ref aC, .ref aB, .ref aT, .int (nI L), .int (nI sh), .int (nI em)])), (aM, .inr (2, [.int (nI P)])), (aT, kd_ar cI w T), (aN, kd_ar cI q row), (aC, kd_ar cI w (va_up (fun _ => 0) 0 1)), (aB, kd_ar cI w (va_up (fun _ => 0) 0 1))] H := hP
  have hD : va_D A [(h0, .inr (3, [.ref aM, .ref aC, .ref aB, .ref aT, .int (nI L), .int (nI sh), .int (nI em)])), (aM, .inr (2, [.int (nI P)])), (aT, kd_ar cI w T), (aN, kd_ar cI q row), (aC, kd_ar cI w (va_up (fun _ => 0) 0 1)), (aB, kd_ar cI w (va_up (fun _ => 0) 0 1))] := hD
  refine lv_aload_n hx hb dX3_find_30 rfl (lv_at hl 0 rfl) ?_
  refine lv_iconst (v := (nI 0)) hx hb dX3_find_31 (by decide) ?_
  refine va_put (D := D) (ci := 3) (v := .int (nI 0)) (ty := .int) (C := RX3) (T := TX3) (N := 7) hx hb hts i_X3 tyX3 tyX3_ok nmX3 hown hK hP hD hS 0 rfl rfl 4 (by decide) fl29 (fun _ h9 => h9) rfl (by decide +kernel) rfl rfl (Nat.le_of_ble_eq_true rfl) dX3_find_32 (fun H locs hP hD hS => ?_)
  have hP : va_P D vwCl [(h0, .inr (3, [.ref aM, .ref aC, .ref aB, .ref aT, .int (nI 0), .int (nI sh), .int (nI em)])), (aM, .inr (2, [.int (nI P)])), (aT, kd_ar cI w T), (aN, kd_ar cI q row), (aC, kd_ar cI w (va_up (fun _ => 0) 0 1)), (aB, kd_ar cI w (va_up (fun _ => 0) 0 1))] H := hP
  have hD : va_D A [(h0, .inr (3, [.ref aM, .ref aC, .ref aB, .ref aT, .int (nI 0), .int (nI sh), .int (nI em)])), (aM, .inr (2, [.int (nI P)])), (aT, kd_ar cI w T), (aN, kd_ar cI q row), (aC, kd_ar cI w (va_up (fun _ => 0) 0 1)), (aB, kd_ar cI w (va_up (fun _ => 0) 0 1))] := hD
  refine lv_aload_n hx hb dX3_find_35 rfl (lv_at hl 0 rfl) ?_
  refine lv_iconst (v := (nI 1)) hx hb dX3_find_36 (by decide) ?_
  refine va_put (D := D) (ci := 3) (v := .int (nI 1)) (ty := .int) (C := RX3) (T := TX3) (N := 7) hx hb hts i_X3 tyX3 tyX3_ok nmX3 hown hK hP hD hS 0 rfl rfl 5 (by decide) fl43 (fun _ h9 => h9) rfl (by decide +kernel) rfl rfl (Nat.le_of_ble_eq_true rfl) dX3_find_37 (fun H locs hP hD hS => ?_)
  have hP : va_P D vwCl [(h0, .inr (3, [.ref aM, .ref aC, .ref aB, .ref aT, .int (nI 0), .int (nI 1), .int (nI em)])), (aM, .inr (2, [.int (nI P)])), (aT, kd_ar cI w T), (aN, kd_ar cI q row), (aC, kd_ar cI w (va_up (fun _ => 0) 0 1)), (aB, kd_ar cI w (va_up (fun _ => 0) 0 1))] H := hP
  have hD : va_D A [(h0, .inr (3, [.ref aM, .ref aC, .ref aB, .ref aT, .int (nI 0), .int (nI 1), .int (nI em)])), (aM, .inr (2, [.int (nI P)])), (aT, kd_ar cI w T), (aN, kd_ar cI q row), (aC, kd_ar cI w (va_up (fun _ => 0) 0 1)), (aB, kd_ar cI w (va_up (fun _ => 0) 0 1))] := hD
  refine lv_aload_n hx hb dX3_find_40 rfl (lv_at hl 0 rfl) ?_
  refine lv_iconst (v := (nI 1)) hx hb dX3_find_41 (by decide) ?_
  refine va_put (D := D) (ci := 3) (v := .int (nI 1)) (ty := .int) (C := RX3) (T := TX3) (N := 7) hx hb hts i_X3 tyX3 tyX3_ok nmX3 hown hK hP hD hS 0 rfl rfl 6 (by decide) fl46 (fun _ h9 => h9) rfl (by decide +kernel) rfl rfl (Nat.le_of_ble_eq_true rfl) dX3_find_42 (fun H locs hP hD hS => ?_)
  have hP : va_P D vwCl [(h0, .inr (3, [.ref aM, .ref aC, .ref aB, .ref aT, .int (nI 0), .int (nI 1), .int (nI 1)])), (aM, .inr (2, [.int (nI P)])), (aT, kd_ar cI w T), (aN, kd_ar cI q row), (aC, kd_ar cI w (va_up (fun _ => 0) 0 1)), (aB, kd_ar cI w (va_up (fun _ => 0) 0 1))] H := hP
  have hD : va_D A [(h0, .inr (3, [.ref aM, .ref aC, .ref aB, .ref aT, .int (nI 0), .int (nI 1), .int (nI 1)])), (aM, .inr (2, [.int (nI P)])), (aT, kd_ar cI w T), (aN, kd_ar cI q row), (aC, kd_ar cI w (va_up (fun _ => 0) 0 1)), (aB, kd_ar cI w (va_up (fun _ => 0) 0 1))] := hD
  refine lv_iconst (v := (nI 0)) hx hb dX3_find_45 (by decide) ?_
  refine lv_istore_n (lv' := [(2, .int (nI 0)), (0, .ref h0), (1, .ref aN)]) hx hb dX3_find_46 rfl hl (by decide) rfl (fun ls hl => ?_)
  have lp : ∀ (k_lp : Nat) (k : Nat) (T : Nat → Nat) (H : Heap) (locs : List Loc) (ls : Array Slot), (q - k < k_lp) → (k ≤ q) → va_P D vwCl [(h0, .inr (3, [.ref aM, .ref aC, .ref aB, .ref aT, .int (nI ((pBM P row k).2.2.1)), .int (nI ((pBM P row k).2.2.2.1)), .int (nI ((pBM P row k).2.2.2.2))])), (aM, .inr (2, [.int (nI P)])), (aC, kd_ar cI w ((pBM P row k).1)), (aB, kd_ar cI w ((pBM P row k).2.1)), (aT, kd_ar cI w T), (aN, kd_ar cI q row)] H → va_D A [(h0, .inr (3, [.ref aM, .ref aC, .ref aB, .ref aT, .int (nI ((pBM P row k).2.2.1)), .int (nI ((pBM P row k).2.2.2.1)), .int (nI ((pBM P row k).2.2.2.2))])), (aM, .inr (2, [.int (nI P)])), (aC, kd_ar cI w ((pBM P row k).1)), (aB, kd_ar cI w ((pBM P row k).2.1)), (aT, kd_ar cI w T), (aN, kd_ar cI q row)] → va_S A s.heap H locs → lv_has ls 3 [(2, .int (nI k)), (0, .ref h0), (1, .ref aN)] → W p l e { frames := 3, cells := 0, slots := 0, locals := 88 } s m args below meth c H locs 0 0 Q (F0 m 47 ls []) := by
    intro k_lp
    induction k_lp with
    | zero => intro k T H locs ls i1 i2 hP hD hS hl; omega
    | succ k_lp ih_lp =>
      intro k T H locs ls i1 i2 hP hD hS hl
      refine lv_iload_n hx hb dX3_find_47 rfl (lv_at hl 0 rfl) ?_
      refine lv_aload_n hx hb dX3_find_48 rfl (lv_at hl 2 rfl) ?_
      refine kd_alen hx hb hK hP 5 rfl dX3_find_49 ?_
      refine kd_ge (tgt := 65) hx hb dX3_find_50 (by decide) (by omega) (by omega) (fun c_50 => ?_) (fun c_50 => ?_)
      · skip
        have e9 : k = q := by omega
        rw [e9] at hP hD
        exact ret T _ _ _ _ dX3_find_65 hS (hP.sub [0, 1, 2, 3, 4, 5] rfl) (hD.sub [0, 1, 2, 3, 4, 5] (by decide) rfl)
      · skip
        refine lv_aload_n hx hb dX3_find_53 rfl (lv_at hl 1 rfl) ?_
        refine lv_aload_n hx hb dX3_find_54 rfl (lv_at hl 2 rfl) ?_
        refine lv_iload_n hx hb dX3_find_55 rfl (lv_at hl 0 rfl) ?_
        obtain ⟨z1, z2, z3, z4, z5⟩ := pBM_ok g1 k (fun j hj => g8 j (by omega)) (row := row)
        refine kd_VV (As := [.ref aN, .int (nI k)]) (rest := []) (Wr := []) ⟨hx, hb, hml, hown, hts⟩ (c_X3_learn l D cI cJ h0 aM aC aB aT aN P w q (pBM P row k).2.2.1 (pBM P row k).2.2.2.1 (pBM P row k).2.2.2.2 k (pBM P row k).1 (pBM P row k).2.1 T row g1 g2 g3 z3 g5 z1 (by omega) g8 z2 z5 z4) (cwV 2 hts gX3_find_X3_learn rfl rfl rfl (by decide +kernel) ⟨Nat.le_of_ble_eq_true rfl, Nat.le_of_ble_eq_true rfl⟩) hK hP hD hS hA [0, 1, 2, 3, 4, 5] [] rfl rfl (by decide) (by decide) 0 rfl rfl rfl rfl hl.1 (Nat.le_of_ble_eq_true rfl) dX3_find_56 ⟨Nat.le_of_ble_eq_true rfl, Nat.le_of_ble_eq_true rfl⟩ (fun T H locs hP hD hS => ?_)
        have hP : va_P D vwCl [(h0, .inr (3, [.ref aM, .ref aC, .ref aB, .ref aT, .int (nI ((pBM P row (k + 1)).2.2.1)), .int (nI ((pBM P row (k + 1)).2.2.2.1)), .int (nI ((pBM P row (k + 1)).2.2.2.2))])), (aM, .inr (2, [.int (nI P)])), (aC, kd_ar cI w ((pBM P row (k + 1)).1)), (aB, kd_ar cI w ((pBM P row (k + 1)).2.1)), (aT, kd_ar cI w T), (aN, kd_ar cI q row)] H := hP
        have hD : va_D A [(h0, .inr (3, [.ref aM, .ref aC, .ref aB, .ref aT, .int (nI ((pBM P row (k + 1)).2.2.1)), .int (nI ((pBM P row (k + 1)).2.2.2.1)), .int (nI ((pBM P row (k + 1)).2.2.2.2))])), (aM, .inr (2, [.int (nI P)])), (aC, kd_ar cI w ((pBM P row (k + 1)).1)), (aB, kd_ar cI w ((pBM P row (k + 1)).2.1)), (aT, kd_ar cI w T), (aN, kd_ar cI q row)] := hD
        refine lv_iinc (v := (nI (k + 1))) (lv' := [(2, .int (nI (k + 1))), (0, .ref h0), (1, .ref aN)]) hx hb dX3_find_59 hl (k := 0) rfl (nI_1 _) (by decide) rfl (fun ls hl => ?_)
        refine lv_goto (tgt := 47) hx hb dX3_find_62 (by decide) ?_
        exact ih_lp (k + 1) T _ _ _ (by omega) (by omega) (hP.sub [0, 1, 2, 3, 4, 5] rfl) (hD.sub [0, 1, 2, 3, 4, 5] (by decide) rfl) hS (lv_sub hl [0, 1, 2] rfl)
  exact lp (q + 1) 0 T _ _ _ (by omega) (by omega) (hP.sub [0, 1, 4, 5, 2, 3] rfl) (hD.sub [0, 1, 4, 5, 2, 3] (by decide) rfl) hS (lv_sub hl [0, 1, 2] rfl)
end
section
/-! the pure model: places, draws, the row, the candidate, the check -/
abbrev pPl (n : Nat) (i : Int32) : Prop := 0 ≤ i.toInt ∧ i.toInt < (n : Int)
def pIx (i : Int32) : Nat := i.toInt.toNat
theorem pPl_neg {n : Nat} {i : Int32} (h : i < 0) : ¬ pPl n i := by
  intro q
  have h1 : ¬ 0 ≤ i := fun z => absurd h (Int32.not_lt.mpr z)
  exact h1 (Jvm.Kit.i32_nonneg.mpr q.1)
theorem pPl_big {n : Nat} {i : Int32} (hn : n < 2 ^ 31) (h : nI n ≤ i) : ¬ pPl n i := by
  intro q
  have h1 := Int32.le_iff_toInt_le.mp h
  rw [nI_toInt hn] at h1
  omega
theorem pPl_in {n : Nat} {i : Int32} (hn : n < 2 ^ 31) (h0 : ¬ i < 0) (h : ¬ nI n ≤ i) : pPl n i := by
  have h1 : 0 ≤ i := Int32.not_lt.mp h0
  have h2 := Jvm.Kit.i32_nonneg.mp h1
  refine ⟨h2, ?_⟩
  apply Decidable.byContradiction
  intro q
  apply h
  apply Int32.le_iff_toInt_le.mpr
  rw [nI_toInt hn]
  omega
theorem pPl_ix {n : Nat} {i : Int32} (h : pPl n i) : i = nI (pIx i) ∧ pIx i < n := by
  have h2 : pIx i < n := by unfold pIx; omega
  refine ⟨?_, h2⟩
  apply Int32.toInt_inj.mp
  have h3 := Int32.toInt_lt i
  rw [nI_toInt (by unfold pIx; omega)]
  unfold pIx
  omega
theorem pIx_nI {j : Nat} (h : j < 2 ^ 31) : pIx (nI j) = j := by
  unfold pIx
  rw [nI_toInt h]
  omega
theorem pPl_nI {n j : Nat} (h : j < 2 ^ 31) : pPl n (nI j) ↔ j < n := by
  unfold pPl
  rw [nI_toInt h]
  omega
theorem pRed_nI {P x : Nat} (h : x < 2 ^ 31) : pRed P (nI x) = x % P := by
  unfold pRed
  rw [nI_toInt h]
  exact Int.toNat_natCast (x % P)
/-- the generator's number behind k draws -/
def pGn (g : Nat) : Nat → Nat
  | 0 => g
  | k + 1 => pGen (pGn g k)
theorem pGn_lt {g : Nat} (h : g < 2 ^ 31) : ∀ k, pGn g k < 2 ^ 31
  | 0 => h
  | _ + 1 => pGen_lt _
def pCh (P g i : Nat) : Nat := pGn g (i + 1) / 65536 % P
theorem pCh_lt {P : Nat} (h : 0 < P) (g i : Nat) : pCh P g i < P := Nat.mod_lt _ h
theorem pCh_eq (P g i : Nat) : pRed P (nI (pGen (pGn g i) / 65536)) = pCh P g i := by
  have h := pGen_lt (pGn g i)
  rw [pRed_nI (by omega)]
  rfl
/-- a sum of products -/
def pDot (P : Nat) (u v : Nat → Nat) : Nat → Nat
  | 0 => 0
  | i + 1 => (pDot P u v i + u i * v i) % P
theorem pDot_lt {P : Nat} (h : 0 < P) (u v : Nat → Nat) : ∀ i, pDot P u v i < P
  | 0 => h
  | _ + 1 => Nat.mod_lt _ h
/-- b, A b, A A b .. -/
def pVk (P : Nat) (rows cols vals : Nat → Nat) (held : Nat) (b : Nat → Nat) : Nat → Nat → Nat
  | 0 => b
  | k + 1 => pAcc P rows cols vals (pVk P rows cols vals held b k) held
theorem pVk_lt {P : Nat} (h : 0 < P) {rows cols vals : Nat → Nat} {held n : Nat} {b : Nat → Nat} (hb : ∀ j, j < n → b j < P) : ∀ k j, j < n → pVk P rows cols vals held b k j < P
  | 0, j, hj => hb j hj
  | _ + 1, j, _ => pAcc_lt h _ _ _ _ _ j
/-- the row -/
def pRow (P n : Nat) (rows cols vals : Nat → Nat) (held : Nat) (b : Nat → Nat) (g k : Nat) : Nat := pDot P (pCh P g) (pVk P rows cols vals held b k) n
theorem pRow_lt {P : Nat} (h : 0 < P) {n : Nat} {rows cols vals : Nat → Nat} {held : Nat} {b : Nat → Nat} {g k : Nat} : pRow P n rows cols vals held b g k < P := pDot_lt h _ _ n
/-- w on its way -/
def pWk (P : Nat) (rows cols vals : Nat → Nat) (held : Nat) (b C : Nat → Nat) : Nat → Nat → Nat
  | 0 => b
  | i + 1 => fun j => (pAcc P rows cols vals (pWk P rows cols vals held b C i) held j + C (i + 1) * b j) % P
theorem pWk_lt {P : Nat} (h : 0 < P) {rows cols vals : Nat → Nat} {held n : Nat} {b C : Nat → Nat} (hb : ∀ j, j < n → b j < P) : ∀ k j, j < n → pWk P rows cols vals held b C k j < P
  | 0, j, hj => hb j hj
  | _ + 1, _, _ => Nat.mod_lt _ h
def pCand (P : Nat) (rows cols vals : Nat → Nat) (held : Nat) (b C : Nat → Nat) (L : Nat) : Nat → Nat := fun j => if L = 0 then 0 else (0 + pWk P rows cols vals held b C (L - 1) j * pInv P (pNeg P (C L))) % P
theorem pCand_lt {P : Nat} (h : 0 < P) {rows cols vals : Nat → Nat} {held : Nat} {b C : Nat → Nat} {L j : Nat} : pCand P rows cols vals held b C L j < P := by
  unfold pCand
  split
  · exact h
  · exact Nat.mod_lt _ h
/-- whether A times it is b -/
abbrev pHolds (P n : Nat) (rows cols vals : Nat → Nat) (held : Nat) (b x : Nat → Nat) : Prop := ∀ j, j < n → pAcc P rows cols vals x held j = b j
def pOK (P n room held : Nat) (rows cols vals b : Nat → Nat) : Prop := 2 ≤ P ∧ P ≤ 46337 ∧ 1 ≤ n ∧ n ≤ 16 ∧ room ≤ 100 ∧ held ≤ room ∧ (∀ i, i < held → rows i < n) ∧ (∀ i, i < held → cols i < n) ∧ (∀ i, i < held → vals i < P) ∧ (∀ j, j < n → b j < P)
theorem lt_upf {x y : Nat → Nat} {i : Nat} (h : ∀ j, j < i → x j = y j) : ∀ j, j < i + 1 → va_up x i (y i) j = y j := by
  intro j hj
  by_cases e9 : j = i
  · rw [e9, up_self]
  · rw [up_ne e9]
    exact h j (by omega)
theorem lt_upg {x y z : Nat → Nat} {i : Nat} (h : ∀ j, x j = if j < i then y j else z j) : ∀ j, va_up x i (y i) j = if j < i + 1 then y j else z j := by
  intro j
  by_cases e9 : j = i
  · rw [e9, up_self, if_pos (by omega)]
  · rw [up_ne e9, h j]
    by_cases e8 : j < i
    · rw [if_pos e8, if_pos (by omega)]
    · rw [if_neg e8, if_neg (by omega)]
end
section
set_option maxHeartbeats 4000000 in
set_option maxRecDepth 100000 in
/-- whether there is such a place -/
theorem c_X4_isPlace (l : Launch) (D : va_G) (cI cJ : ClassId) (h0 aM aK aG aE aRi aCh aWo aNu aAn : Nat) (n rs ss att : Nat) (i0 : Int32) (g4 : n ≤ 16) : kd_MI (S := Unit) l yX4_isPlace wsX4_isPlace { frames := 0, cells := 0, slots := 0, locals := 0 } [.ref h0, .int i0] D vwCl cI cJ [(h0, .inr (4, [.ref aM, .ref aK, .ref aG, .ref aE, .int (nI n), .ref aRi, .ref aCh, .ref aWo, .ref aNu, .ref aAn, .int (nI rs), .int (nI ss), .int (nI att)]))] (fun _ => nI (pB (pPl n i0))) (fun _ => [(h0, .inr (4, [.ref aM, .ref aK, .ref aG, .ref aE, .int (nI n), .ref aRi, .ref aCh, .ref aWo, .ref aNu, .ref aAn, .int (nI rs), .int (nI ss), .int (nI att)]))]) 0 0 := by
  refine kd_enterZ (cc := cX4_isPlace) (maxL := 2) (by decide) rfl (Nat.le_of_ble_eq_true rfl) (fun _ => pB_01 _) ?_
  intro p e s m args below meth c A ls Q hx hb hr hts hown hlk hnm hml hP hK hD hA hS hl ret
  have hl : lv_has ls 2 [(0, .ref h0), (1, .int i0)] := hl
  have hown : s.vm.findClass RX4 = some m.cls := hown
  have i_X4 : ∀ w ∈ wsX40, w ∈ wsX4_isPlace := by decide +kernel
  have fl13 := hts (.fieldLink RX4 13 "KrylovDesk" "size" "I") (by decide +kernel)
  refine lv_iload_n hx hb dX4_isPlace_0 rfl (lv_at hl 1 rfl) ?_
  refine lv_if_lt (tgt := 16) hx hb dX4_isPlace_1 (by decide) (fun c_1 => ?_) (fun c_1 => ?_)
  · skip
    refine lv_iconst (v := (nI 0)) hx hb dX4_isPlace_16 (by decide) ?_
    exact ret () _ _ _ _ _ dX4_isPlace_17 (by first | rw [pB_f (pPl_neg c_1)] | rw [pB_f (pPl_big (by omega) c_9)] | rw [pB_t (pPl_in (by omega) c_1 c_9)]) hS (hP.sub [0] rfl) (hD.sub [0] (by decide) rfl)
  · skip
    refine lv_iload_n hx hb dX4_isPlace_4 rfl (lv_at hl 1 rfl) ?_
    refine lv_aload_n hx hb dX4_isPlace_5 rfl (lv_at hl 0 rfl) ?_
    refine va_get (D := D) (ci := 4) (v := .int (nI n)) (C := RX4) (T := TX4) (N := 13) hx hb hts i_X4 hown hK hP 0 rfl rfl 4 (by decide) fl13 (fun _ h9 => h9) rfl dX4_isPlace_6 ?_
    refine lv_icmp_ge (tgt := 16) hx hb dX4_isPlace_9 (by decide) (fun c_9 => ?_) (fun c_9 => ?_)
    · skip
      refine lv_iconst (v := (nI 0)) hx hb dX4_isPlace_16 (by decide) ?_
      exact ret () _ _ _ _ _ dX4_isPlace_17 (by first | rw [pB_f (pPl_neg c_1)] | rw [pB_f (pPl_big (by omega) c_9)] | rw [pB_t (pPl_in (by omega) c_1 c_9)]) hS (hP.sub [0] rfl) (hD.sub [0] (by decide) rfl)
    · skip
      refine lv_iconst (v := (nI 1)) hx hb dX4_isPlace_12 (by decide) ?_
      refine lv_goto (tgt := 17) hx hb dX4_isPlace_13 (by decide) ?_
      exact ret () _ _ _ _ _ dX4_isPlace_17 (by first | rw [pB_f (pPl_neg c_1)] | rw [pB_f (pPl_big (by omega) c_9)] | rw [pB_t (pPl_in (by omega) c_1 c_9)]) hS (hP.sub [0] rfl) (hD.sub [0] (by decide) rfl)

set_option maxHeartbeats 4000000 in
set_option maxRecDepth 100000 in
/-- nothing stands -/
theorem c_X4_forgetResults (l : Launch) (D : va_G) (cI cJ : ClassId) (h0 aM aK aG aE aRi aCh aWo aNu aAn : Nat) (n rs ss att : Nat) : kd_MV (S := Unit) l yX4_forgetResults wsX4_forgetResults { frames := 0, cells := 0, slots := 0, locals := 0 } [.ref h0] D vwCl cI cJ [(h0, .inr (4, [.ref aM, .ref aK, .ref aG, .ref aE, .int (nI n), .ref aRi, .ref aCh, .ref aWo, .ref aNu, .ref aAn, .int (nI rs), .int (nI ss), .int (nI att)]))] (fun _ => [(h0, .inr (4, [.ref aM, .ref aK, .ref aG, .ref aE, .int (nI n), .ref aRi, .ref aCh, .ref aWo, .ref aNu, .ref aAn, .int (nI 0), .int (nI 0), .int (nI att)]))]) 0 0 := by
  refine kd_enterV (cc := cX4_forgetResults) (maxL := 1) (by decide) rfl (Nat.le_of_ble_eq_true rfl) ?_
  intro p e s m args below meth c A ls Q hx hb hr hts hown hlk hnm hml hP hK hD hA hS hl ret
  have hl : lv_has ls 1 [(0, .ref h0)] := hl
  have hown : s.vm.findClass RX4 = some m.cls := hown
  have i_X4 : ∀ w ∈ wsX40, w ∈ wsX4_forgetResults := by decide +kernel
  have fl110 := hts (.fieldLink RX4 110 "KrylovDesk" "rowStands" "Z") (by decide +kernel)
  have fl96 := hts (.fieldLink RX4 96 "KrylovDesk" "answerStands" "Z") (by decide +kernel)
  refine lv_aload_n hx hb dX4_forgetResults_0 rfl (lv_at hl 0 rfl) ?_
  refine lv_iconst (v := (nI 0)) hx hb dX4_forgetResults_1 (by decide) ?_
  refine va_put (D := D) (ci := 4) (v := .int (nI 0)) (ty := .boolean) (C := RX4) (T := TX4) (N := 13) hx hb hts i_X4 tyX4 tyX4_ok nmX4 hown hK hP hD hS 0 rfl rfl 10 (by decide) fl110 (fun _ h9 => h9) rfl (by decide +kernel) rfl rfl (Nat.le_of_ble_eq_true rfl) dX4_forgetResults_2 (fun H locs hP hD hS => ?_)
  have hP : va_P D vwCl [(h0, .inr (4, [.ref aM, .ref aK, .ref aG, .ref aE, .int (nI n), .ref aRi, .ref aCh, .ref aWo, .ref aNu, .ref aAn, .int (nI 0), .int (nI ss), .int (nI att)]))] H := hP
  have hD : va_D A [(h0, .inr (4, [.ref aM, .ref aK, .ref aG, .ref aE, .int (nI n), .ref aRi, .ref aCh, .ref aWo, .ref aNu, .ref aAn, .int (nI 0), .int (nI ss), .int (nI att)]))] := hD
  refine lv_aload_n hx hb dX4_forgetResults_5 rfl (lv_at hl 0 rfl) ?_
  refine lv_iconst (v := (nI 0)) hx hb dX4_forgetResults_6 (by decide) ?_
  refine va_put (D := D) (ci := 4) (v := .int (nI 0)) (ty := .boolean) (C := RX4) (T := TX4) (N := 13) hx hb hts i_X4 tyX4 tyX4_ok nmX4 hown hK hP hD hS 0 rfl rfl 11 (by decide) fl96 (fun _ h9 => h9) rfl (by decide +kernel) rfl rfl (Nat.le_of_ble_eq_true rfl) dX4_forgetResults_7 (fun H locs hP hD hS => ?_)
  have hP : va_P D vwCl [(h0, .inr (4, [.ref aM, .ref aK, .ref aG, .ref aE, .int (nI n), .ref aRi, .ref aCh, .ref aWo, .ref aNu, .ref aAn, .int (nI 0), .int (nI 0), .int (nI att)]))] H := hP
  have hD : va_D A [(h0, .inr (4, [.ref aM, .ref aK, .ref aG, .ref aE, .int (nI n), .ref aRi, .ref aCh, .ref aWo, .ref aNu, .ref aAn, .int (nI 0), .int (nI 0), .int (nI att)]))] := hD
  exact ret () _ _ _ _ dX4_forgetResults_10 hS (hP.sub [0] rfl) (hD.sub [0] (by decide) rfl)

set_option maxHeartbeats 4000000 in
set_option maxRecDepth 100000 in
/-- u, n draws -/
theorem c_X4_drawChance (l : Launch) (D : va_G) (cI cJ : ClassId) (h0 aM aK aG aE aRi aCh aWo aNu aAn : Nat) (P n rs ss att gg : Nat) (ch : Nat → Nat) (g1 : 2 ≤ P) (g2 : P ≤ 46337) (g4 : n ≤ 16) : kd_MV (S := Unit) l yX4_drawChance wsX4_drawChance { frames := 1, cells := 0, slots := 0, locals := 22 } [.ref h0] D vwCl cI cJ [(h0, .inr (4, [.ref aM, .ref aK, .ref aG, .ref aE, .int (nI n), .ref aRi, .ref aCh, .ref aWo, .ref aNu, .ref aAn, .int (nI rs), .int (nI ss), .int (nI att)])), (aM, .inr (2, [.int (nI P)])), (aG, .inr (0, [.int (nI gg)])), (aCh, kd_ar cI n ch)] (fun _ => [(h0, .inr (4, [.ref aM, .ref aK, .ref aG, .ref aE, .int (nI n), .ref aRi, .ref aCh, .ref aWo, .ref aNu, .ref aAn, .int (nI rs), .int (nI ss), .int (nI att)])), (aM, .inr (2, [.int (nI P)])), (aG, .inr (0, [.int (nI (pGn gg n))])), (aCh, kd_ar cI n (pCh P gg))]) 0 0 := by
  refine kd_enterV (cc := cX4_drawChance) (maxL := 2) (by decide) rfl (Nat.le_of_ble_eq_true rfl) ?_
  intro p e s m args below meth c A ls Q hx hb hr hts hown hlk hnm hml hP hK hD hA hS hl ret
  have hl : lv_has ls 2 [(0, .ref h0)] := hl
  have hown : s.vm.findClass RX4 = some m.cls := hown
  have i_X4 : ∀ w ∈ wsX40, w ∈ wsX4_drawChance := by decide +kernel
  have fl13 := hts (.fieldLink RX4 13 "KrylovDesk" "size" "I") (by decide +kernel)
  have fl60 := hts (.fieldLink RX4 60 "KrylovDesk" "chance" "[I") (by decide +kernel)
  have fl27 := hts (.fieldLink RX4 27 "KrylovDesk" "modulus" "LKrylovDesk$Modulus;") (by decide +kernel)
  have fl43 := hts (.fieldLink RX4 43 "KrylovDesk" "generator" "LKrylovDesk$Generator;") (by decide +kernel)
  refine lv_iconst (v := (nI 0)) hx hb dX4_drawChance_0 (by decide) ?_
  refine lv_istore_n (lv' := [(1, .int (nI 0)), (0, .ref h0)]) hx hb dX4_drawChance_1 rfl hl (by decide) rfl (fun ls hl => ?_)
  have lp : ∀ (k_lp : Nat) (i : Nat) (x : Nat → Nat) (H : Heap) (locs : List Loc) (ls : Array Slot), (n - i < k_lp) → (i ≤ n) → (∀ j, j < i → x j = pCh P gg j) → va_P D vwCl [(h0, .inr (4, [.ref aM, .ref aK, .ref aG, .ref aE, .int (nI n), .ref aRi, .ref aCh, .ref aWo, .ref aNu, .ref aAn, .int (nI rs), .int (nI ss), .int (nI att)])), (aM, .inr (2, [.int (nI P)])), (aG, .inr (0, [.int (nI (pGn gg i))])), (aCh, kd_ar cI n x)] H → va_D A [(h0, .inr (4, [.ref aM, .ref aK, .ref aG, .ref aE, .int (nI n), .ref aRi, .ref aCh, .ref aWo, .ref aNu, .ref aAn, .int (nI rs), .int (nI ss), .int (nI att)])), (aM, .inr (2, [.int (nI P)])), (aG, .inr (0, [.int (nI (pGn gg i))])), (aCh, kd_ar cI n x)] → va_S A s.heap H locs → lv_has ls 2 [(1, .int (nI i)), (0, .ref h0)] → W p l e { frames := 1, cells := 0, slots := 0, locals := 22 } s m args below meth c H locs 0 0 Q (F0 m 2 ls []) := by
    intro k_lp
    induction k_lp with
    | zero => intro i x H locs ls i1 i2 i3 hP hD hS hl; omega
    | succ k_lp ih_lp =>
      intro i x H locs ls i1 i2 i3 hP hD hS hl
      refine lv_iload_n hx hb dX4_drawChance_2 rfl (lv_at hl 0 rfl) ?_
      refine lv_aload_n hx hb dX4_drawChance_3 rfl (lv_at hl 1 rfl) ?_
      refine va_get (D := D) (ci := 4) (v := .int (nI n)) (C := RX4) (T := TX4) (N := 13) hx hb hts i_X4 hown hK hP 0 rfl rfl 4 (by decide) fl13 (fun _ h9 => h9) rfl dX4_drawChance_4 ?_
      refine kd_ge (tgt := 36) hx hb dX4_drawChance_7 (by decide) (by omega) (by omega) (fun c_7 => ?_) (fun c_7 => ?_)
      · skip
        have e9 : i = n := by omega
        rw [e9] at hP hD i3
        obtain ⟨hP, hD⟩ := kd_swap (g := (pCh P gg)) hP hD 3 rfl (fun j hj => i3 j hj)
        have hP : va_P D vwCl [(h0, .inr (4, [.ref aM, .ref aK, .ref aG, .ref aE, .int (nI n), .ref aRi, .ref aCh, .ref aWo, .ref aNu, .ref aAn, .int (nI rs), .int (nI ss), .int (nI att)])), (aM, .inr (2, [.int (nI P)])), (aG, .inr (0, [.int (nI (pGn gg n))])), (aCh, kd_ar cI n (pCh P gg))] H := hP
        have hD : va_D A [(h0, .inr (4, [.ref aM, .ref aK, .ref aG, .ref aE, .int (nI n), .ref aRi, .ref aCh, .ref aWo, .ref aNu, .ref aAn, .int (nI rs), .int (nI ss), .int (nI att)])), (aM, .inr (2, [.int (nI P)])), (aG, .inr (0, [.int (nI (pGn gg n))])), (aCh, kd_ar cI n (pCh P gg))] := hD
        exact ret () _ _ _ _ dX4_drawChance_36 hS (hP.sub [0, 1, 2, 3] rfl) (hD.sub [0, 1, 2, 3] (by decide) rfl)
      · skip
        refine lv_aload_n hx hb dX4_drawChance_10 rfl (lv_at hl 1 rfl) ?_
        refine va_get (D := D) (ci := 4) (v := .ref aCh) (C := RX4) (T := TX4) (N := 13) hx hb hts i_X4 hown hK hP 0 rfl rfl 6 (by decide) fl60 (fun _ h9 => h9) rfl dX4_drawChance_11 ?_
        refine lv_iload_n hx hb dX4_drawChance_14 rfl (lv_at hl 0 rfl) ?_
        refine lv_aload_n hx hb dX4_drawChance_15 rfl (lv_at hl 1 rfl) ?_
        refine va_get (D := D) (ci := 4) (v := .ref aM) (C := RX4) (T := TX4) (N := 13) hx hb hts i_X4 hown hK hP 0 rfl rfl 0 (by decide) fl27 (fun _ h9 => h9) rfl dX4_drawChance_16 ?_
        refine lv_aload_n hx hb dX4_drawChance_19 rfl (lv_at hl 1 rfl) ?_
        refine va_get (D := D) (ci := 4) (v := .ref aG) (C := RX4) (T := TX4) (N := 13) hx hb hts i_X4 hown hK hP 0 rfl rfl 2 (by decide) fl43 (fun _ h9 => h9) rfl dX4_drawChance_20 ?_
        refine kd_VI (As := []) (rest := [.ref aM, .int (nI i), .ref aCh]) (Wr := [(h0, .inr (4, [.ref aM, .ref aK, .ref aG, .ref aE, .int (nI n), .ref aRi, .ref aCh, .ref aWo, .ref aNu, .ref aAn, .int (nI rs), .int (nI ss), .int (nI att)])), (aM, .inr (2, [.int (nI P)])), (aCh, kd_ar cI n x)]) ⟨hx, hb, hml, hown, hts⟩ (c_X0_next l D cI cJ aG (pGn gg i)) (cwV 0 hts gX4_drawChance_X0_next rfl rfl rfl (by decide +kernel) ⟨Nat.le_of_ble_eq_true rfl, Nat.le_of_ble_eq_true rfl⟩) hK hP hD hS hA [2] [0, 1, 3] rfl rfl (by decide) (by decide) 0 rfl rfl rfl rfl hl.1 (Nat.le_of_ble_eq_true rfl) dX4_drawChance_23 ⟨Nat.le_of_ble_eq_true rfl, Nat.le_of_ble_eq_true rfl⟩ (fun _ H locs hP hD hS => ?_)
        have hP : va_P D vwCl [(h0, .inr (4, [.ref aM, .ref aK, .ref aG, .ref aE, .int (nI n), .ref aRi, .ref aCh, .ref aWo, .ref aNu, .ref aAn, .int (nI rs), .int (nI ss), .int (nI att)])), (aM, .inr (2, [.int (nI P)])), (aCh, kd_ar cI n x), (aG, .inr (0, [.int (nI (pGn gg (i + 1)))]))] H := hP
        have hD : va_D A [(h0, .inr (4, [.ref aM, .ref aK, .ref aG, .ref aE, .int (nI n), .ref aRi, .ref aCh, .ref aWo, .ref aNu, .ref aAn, .int (nI rs), .int (nI ss), .int (nI att)])), (aM, .inr (2, [.int (nI P)])), (aCh, kd_ar cI n x), (aG, .inr (0, [.int (nI (pGn gg (i + 1)))]))] := hD
        refine kd_VI (As := [.int (nI (pGen (pGn gg i) / 65536))]) (rest := [.int (nI i), .ref aCh]) (Wr := [(h0, .inr (4, [.ref aM, .ref aK, .ref aG, .ref aE, .int (nI n), .ref aRi, .ref aCh, .ref aWo, .ref aNu, .ref aAn, .int (nI rs), .int (nI ss), .int (nI att)])), (aCh, kd_ar cI n x), (aG, .inr (0, [.int (nI (pGn gg (i + 1)))]))]) ⟨hx, hb, hml, hown, hts⟩ (c_X2_reduce l D cI cJ aM P (nI (pGen (pGn gg i) / 65536)) g1 g2) (cwV 1 hts gX4_drawChance_X2_reduce rfl rfl rfl (by decide +kernel) ⟨Nat.le_of_ble_eq_true rfl, Nat.le_of_ble_eq_true rfl⟩) hK hP hD hS hA [1] [0, 2, 3] rfl rfl (by decide) (by decide) 0 rfl rfl rfl rfl hl.1 (Nat.le_of_ble_eq_true rfl) dX4_drawChance_26 ⟨Nat.le_of_ble_eq_true rfl, Nat.le_of_ble_eq_true rfl⟩ (fun _ H locs hP hD hS => ?_)
        have hP : va_P D vwCl [(h0, .inr (4, [.ref aM, .ref aK, .ref aG, .ref aE, .int (nI n), .ref aRi, .ref aCh, .ref aWo, .ref aNu, .ref aAn, .int (nI rs), .int (nI ss), .int (nI att)])), (aCh, kd_ar cI n x), (aG, .inr (0, [.int (nI (pGn gg (i + 1)))])), (aM, .inr (2, [.int (nI P)]))] H := hP
        have hD : va_D A [(h0, .inr (4, [.ref aM, .ref aK, .ref aG, .ref aE, .int (nI n), .ref aRi, .ref aCh, .ref aWo, .ref aNu, .ref aAn, .int (nI rs), .int (nI ss), .int (nI att)])), (aCh, kd_ar cI n x), (aG, .inr (0, [.int (nI (pGn gg (i + 1)))])), (aM, .inr (2, [.int (nI P)]))] := hD
        rw [pCh_eq]
        refine kd_ast hx hb hK hP hD hS 1 rfl i (by omega) (by omega) dX4_drawChance_29 (fun H locs hP hD hS => ?_)
        have hP : va_P D vwCl [(h0, .inr (4, [.ref aM, .ref aK, .ref aG, .ref aE, .int (nI n), .ref aRi, .ref aCh, .ref aWo, .ref aNu, .ref aAn, .int (nI rs), .int (nI ss), .int (nI att)])), (aCh, kd_ar cI n (va_up x i (pCh P gg i))), (aG, .inr (0, [.int (nI (pGn gg (i + 1)))])), (aM, .inr (2, [.int (nI P)]))] H := hP
        have hD : va_D A [(h0, .inr (4, [.ref aM, .ref aK, .ref aG, .ref aE, .int (nI n), .ref aRi, .ref aCh, .ref aWo, .ref aNu, .ref aAn, .int (nI rs), .int (nI ss), .int (nI att)])), (aCh, kd_ar cI n (va_up x i (pCh P gg i))), (aG, .inr (0, [.int (nI (pGn gg (i + 1)))])), (aM, .inr (2, [.int (nI P)]))] := hD
        refine lv_iinc (v := (nI (i + 1))) (lv' := [(1, .int (nI (i + 1))), (0, .ref h0)]) hx hb dX4_drawChance_30 hl (k := 0) rfl (nI_1 _) (by decide) rfl (fun ls hl => ?_)
        refine lv_goto (tgt := 2) hx hb dX4_drawChance_33 (by decide) ?_
        exact ih_lp (i + 1) (va_up x i (pCh P gg i)) _ _ _ (by omega) (by omega) (lt_upf i3) (hP.sub [0, 3, 2, 1] rfl) (hD.sub [0, 3, 2, 1] (by decide) rfl) hS (lv_sub hl [0, 1] rfl)
  exact lp (n + 1) 0 ch _ _ _ (by omega) (by omega) (fun j hj => by omega) (hP.sub [0, 1, 2, 3] rfl) (hD.sub [0, 1, 2, 3] (by decide) rfl) hS (lv_sub hl [0, 1] rfl)

set_option maxHeartbeats 4000000 in
set_option maxRecDepth 100000 in
/-- u times w -/
theorem c_X4_chanceTimesWork (l : Launch) (D : va_G) (cI cJ : ClassId) (h0 aM aK aG aE aRi aCh aWo aNu aAn : Nat) (P n rs ss att : Nat) (ch wo : Nat → Nat) (g1 : 2 ≤ P) (g2 : P ≤ 46337) (g4 : n ≤ 16) (g5 : ∀ j, j < n → ch j < P) (g6 : ∀ j, j < n → wo j < P) : kd_MI (S := Unit) l yX4_chanceTimesWork wsX4_chanceTimesWork { frames := 1, cells := 0, slots := 0, locals := 23 } [.ref h0] D vwCl cI cJ [(h0, .inr (4, [.ref aM, .ref aK, .ref aG, .ref aE, .int (nI n), .ref aRi, .ref aCh, .ref aWo, .ref aNu, .ref aAn, .int (nI rs), .int (nI ss), .int (nI att)])), (aM, .inr (2, [.int (nI P)])), (aCh, kd_ar cI n ch), (aWo, kd_ar cI n wo)] (fun _ => nI (pDot P ch wo n)) (fun _ => [(h0, .inr (4, [.ref aM, .ref aK, .ref aG, .ref aE, .int (nI n), .ref aRi, .ref aCh, .ref aWo, .ref aNu, .ref aAn, .int (nI rs), .int (nI ss), .int (nI att)])), (aM, .inr (2, [.int (nI P)])), (aCh, kd_ar cI n ch), (aWo, kd_ar cI n wo)]) 0 0 := by
  refine kd_enterI (cc := cX4_chanceTimesWork) (maxL := 3) (by decide) rfl (Nat.le_of_ble_eq_true rfl) ?_
  intro p e s m args below meth c A ls Q hx hb hr hts hown hlk hnm hml hP hK hD hA hS hl ret
  have hl : lv_has ls 3 [(0, .ref h0)] := hl
  have hown : s.vm.findClass RX4 = some m.cls := hown
  have i_X4 : ∀ w ∈ wsX40, w ∈ wsX4_chanceTimesWork := by decide +kernel
  have fl13 := hts (.fieldLink RX4 13 "KrylovDesk" "size" "I") (by decide +kernel)
  have fl27 := hts (.fieldLink RX4 27 "KrylovDesk" "modulus" "LKrylovDesk$Modulus;") (by decide +kernel)
  have fl60 := hts (.fieldLink RX4 60 "KrylovDesk" "chance" "[I") (by decide +kernel)
  have fl63 := hts (.fieldLink RX4 63 "KrylovDesk" "work" "[I") (by decide +kernel)
  refine lv_iconst (v := (nI 0)) hx hb dX4_chanceTimesWork_0 (by decide) ?_
  refine lv_istore_n (lv' := [(1, .int (nI 0)), (0, .ref h0)]) hx hb dX4_chanceTimesWork_1 rfl hl (by decide) rfl (fun ls hl => ?_)
  refine lv_iconst (v := (nI 0)) hx hb dX4_chanceTimesWork_2 (by decide) ?_
  refine lv_istore_n (lv' := [(2, .int (nI 0)), (1, .int (nI 0)), (0, .ref h0)]) hx hb dX4_chanceTimesWork_3 rfl hl (by decide) rfl (fun ls hl => ?_)
  have lp : ∀ (k_lp : Nat) (i : Nat) (H : Heap) (locs : List Loc) (ls : Array Slot), (n - i < k_lp) → (i ≤ n) → va_P D vwCl [(h0, .inr (4, [.ref aM, .ref aK, .ref aG, .ref aE, .int (nI n), .ref aRi, .ref aCh, .ref aWo, .ref aNu, .ref aAn, .int (nI rs), .int (nI ss), .int (nI att)])), (aM, .inr (2, [.int (nI P)])), (aCh, kd_ar cI n ch), (aWo, kd_ar cI n wo)] H → va_D A [(h0, .inr (4, [.ref aM, .ref aK, .ref aG, .ref aE, .int (nI n), .ref aRi, .ref aCh, .ref aWo, .ref aNu, .ref aAn, .int (nI rs), .int (nI ss), .int (nI att)])), (aM, .inr (2, [.int (nI P)])), (aCh, kd_ar cI n ch), (aWo, kd_ar cI n wo)] → va_S A s.heap H locs → lv_has ls 3 [(2, .int (nI i)), (1, .int (nI (pDot P ch wo i))), (0, .ref h0)] → W p l e { frames := 1, cells := 0, slots := 0, locals := 23 } s m args below meth c H locs 0 0 Q (F0 m 4 ls []) := by
    intro k_lp
    induction k_lp with
    | zero => intro i H locs ls i1 i2 hP hD hS hl; omega
    | succ k_lp ih_lp =>
      intro i H locs ls i1 i2 hP hD hS hl
      refine lv_iload_n hx hb dX4_chanceTimesWork_4 rfl (lv_at hl 0 rfl) ?_
      refine lv_aload_n hx hb dX4_chanceTimesWork_5 rfl (lv_at hl 2 rfl) ?_
      refine va_get (D := D) (ci := 4) (v := .int (nI n)) (C := RX4) (T := TX4) (N := 13) hx hb hts i_X4 hown hK hP 0 rfl rfl 4 (by decide) fl13 (fun _ h9 => h9) rfl dX4_chanceTimesWork_6 ?_
      refine kd_ge (tgt := 39) hx hb dX4_chanceTimesWork_9 (by decide) (by omega) (by omega) (fun c_9 => ?_) (fun c_9 => ?_)
      · skip
        refine lv_iload_n hx hb dX4_chanceTimesWork_39 rfl (lv_at hl 1 rfl) ?_
        exact ret () _ _ _ _ _ dX4_chanceTimesWork_40 (by rw [show i = n by omega]) hS (hP.sub [0, 1, 2, 3] rfl) (hD.sub [0, 1, 2, 3] (by decide) rfl)
      · skip
        refine lv_aload_n hx hb dX4_chanceTimesWork_12 rfl (lv_at hl 2 rfl) ?_
        refine va_get (D := D) (ci := 4) (v := .ref aM) (C := RX4) (T := TX4) (N := 13) hx hb hts i_X4 hown hK hP 0 rfl rfl 0 (by decide) fl27 (fun _ h9 => h9) rfl dX4_chanceTimesWork_13 ?_
        refine lv_iload_n hx hb dX4_chanceTimesWork_16 rfl (lv_at hl 1 rfl) ?_
        refine lv_aload_n hx hb dX4_chanceTimesWork_17 rfl (lv_at hl 2 rfl) ?_
        refine va_get (D := D) (ci := 4) (v := .ref aCh) (C := RX4) (T := TX4) (N := 13) hx hb hts i_X4 hown hK hP 0 rfl rfl 6 (by decide) fl60 (fun _ h9 => h9) rfl dX4_chanceTimesWork_18 ?_
        refine lv_iload_n hx hb dX4_chanceTimesWork_21 rfl (lv_at hl 0 rfl) ?_
        refine kd_ald hx hb hK hP 2 rfl i (by omega) (by omega) dX4_chanceTimesWork_22 ?_
        refine lv_aload_n hx hb dX4_chanceTimesWork_23 rfl (lv_at hl 2 rfl) ?_
        refine va_get (D := D) (ci := 4) (v := .ref aWo) (C := RX4) (T := TX4) (N := 13) hx hb hts i_X4 hown hK hP 0 rfl rfl 7 (by decide) fl63 (fun _ h9 => h9) rfl dX4_chanceTimesWork_24 ?_
        refine lv_iload_n hx hb dX4_chanceTimesWork_27 rfl (lv_at hl 0 rfl) ?_
        refine kd_ald hx hb hK hP 3 rfl i (by omega) (by omega) dX4_chanceTimesWork_28 ?_
        refine kd_VI (As := [.int (nI (pDot P ch wo i)), .int (nI (ch i)), .int (nI (wo i))]) (rest := []) (Wr := [(h0, .inr (4, [.ref aM, .ref aK, .ref aG, .ref aE, .int (nI n), .ref aRi, .ref aCh, .ref aWo, .ref aNu, .ref aAn, .int (nI rs), .int (nI ss), .int (nI att)])), (aCh, kd_ar cI n ch), (aWo, kd_ar cI n wo)]) ⟨hx, hb, hml, hown, hts⟩ (c_X2_plusProduct l D cI cJ aM P (pDot P ch wo i) (ch i) (wo i) g1 g2 (pDot_lt (by omega) _ _ _) (g5 i (by omega)) (g6 i (by omega))) (cwV 3 hts gX4_chanceTimesWork_X2_plusProduct rfl rfl rfl (by decide +kernel) ⟨Nat.le_of_ble_eq_true rfl, Nat.le_of_ble_eq_true rfl⟩) hK hP hD hS hA [1] [0, 2, 3] rfl rfl (by decide) (by decide) 0 rfl rfl rfl rfl hl.1 (Nat.le_of_ble_eq_true rfl) dX4_chanceTimesWork_29 ⟨Nat.le_of_ble_eq_true rfl, Nat.le_of_ble_eq_true rfl⟩ (fun _ H locs hP hD hS => ?_)
        have hP : va_P D vwCl [(h0, .inr (4, [.ref aM, .ref aK, .ref aG, .ref aE, .int (nI n), .ref aRi, .ref aCh, .ref aWo, .ref aNu, .ref aAn, .int (nI rs), .int (nI ss), .int (nI att)])), (aCh, kd_ar cI n ch), (aWo, kd_ar cI n wo), (aM, .inr (2, [.int (nI P)]))] H := hP
        have hD : va_D A [(h0, .inr (4, [.ref aM, .ref aK, .ref aG, .ref aE, .int (nI n), .ref aRi, .ref aCh, .ref aWo, .ref aNu, .ref aAn, .int (nI rs), .int (nI ss), .int (nI att)])), (aCh, kd_ar cI n ch), (aWo, kd_ar cI n wo), (aM, .inr (2, [.int (nI P)]))] := hD
        refine lv_istore_n (lv' := [(1, .int (nI (((pDot P ch wo i) + (ch i) * (wo i)) % P))), (2, .int (nI i)), (0, .ref h0)]) hx hb dX4_chanceTimesWork_32 rfl hl (by decide) rfl (fun ls hl => ?_)
        refine lv_iinc (v := (nI (i + 1))) (lv' := [(2, .int (nI (i + 1))), (1, .int (nI (((pDot P ch wo i) + (ch i) * (wo i)) % P))), (0, .ref h0)]) hx hb dX4_chanceTimesWork_33 hl (k := 1) rfl (nI_1 _) (by decide) rfl (fun ls hl => ?_)
        refine lv_goto (tgt := 4) hx hb dX4_chanceTimesWork_36 (by decide) ?_
        exact ih_lp (i + 1) _ _ _ (by omega) (by omega) (hP.sub [0, 3, 1, 2] rfl) (hD.sub [0, 3, 1, 2] (by decide) rfl) hS (lv_sub hl [0, 1, 2] rfl)
  exact lp (n + 1) 0 _ _ _ (by omega) (by omega) (hP.sub [0, 1, 2, 3] rfl) (hD.sub [0, 1, 2, 3] (by decide) rfl) hS (lv_sub hl [0, 1, 2] rfl)

set_option maxHeartbeats 4000000 in
set_option maxRecDepth 100000 in
/-- the row -/
theorem c_X4_fillRow (l : Launch) (D : va_G) (cI cJ : ClassId) (h0 aM aK aG aE aRi aCh aWo aNu aAn : Nat) (aR aC aV aS : Nat) (P n room held prod : Nat) (rows cols vals sums : Nat → Nat) (rs ss att gg : Nat) (b0 wo nu : Nat → Nat) (g : pOK P n room held rows cols vals b0) : kd_MV (S := (Nat → Nat) × (Nat → Nat)) l yX4_fillRow wsX4_fillRow { frames := 2, cells := 0, slots := 0, locals := 87 } [.ref h0] D vwCl cI cJ [(h0, .inr (4, [.ref aM, .ref aK, .ref aG, .ref aE, .int (nI n), .ref aRi, .ref aCh, .ref aWo, .ref aNu, .ref aAn, .int (nI rs), .int (nI ss), .int (nI att)])), (aM, .inr (2, [.int (nI P)])), (aK, .inr (1, [.ref aM, .ref aR, .ref aC, .ref aV, .ref aS, .int (nI held), .int (nI prod)])), (aR, kd_ar cI room rows), (aC, kd_ar cI room cols), (aV, kd_ar cI room vals), (aS, kd_ar cI n sums), (aRi, kd_ar cI n b0), (aCh, kd_ar cI n (pCh P gg)), (aWo, kd_ar cI n wo), (aNu, kd_ar cI (2 * n) nu)] (fun u9 => [(h0, .inr (4, [.ref aM, .ref aK, .ref aG, .ref aE, .int (nI n), .ref aRi, .ref aCh, .ref aWo, .ref aNu, .ref aAn, .int (nI rs), .int (nI ss), .int (nI att)])), (aM, .inr (2, [.int (nI P)])), (aK, .inr (1, [.ref aM, .ref aR, .ref aC, .ref aV, .ref aS, .int (nI held), .int (nI (prod + (2 * n - 1)))])), (aR, kd_ar cI room rows), (aC, kd_ar cI room cols), (aV, kd_ar cI room vals), (aS, kd_ar cI n u9.1), (aRi, kd_ar cI n b0), (aCh, kd_ar cI n (pCh P gg)), (aWo, kd_ar cI n u9.2), (aNu, kd_ar cI (2 * n) (pRow P n rows cols vals held b0 gg))]) 0 0 := by
  refine kd_enterV (cc := cX4_fillRow) (maxL := 2) (by decide) rfl (Nat.le_of_ble_eq_true rfl) ?_
  intro p e s m args below meth c A ls Q hx hb hr hts hown hlk hnm hml hP hK hD hA hS hl ret
  have hl : lv_has ls 2 [(0, .ref h0)] := hl
  have hown : s.vm.findClass RX4 = some m.cls := hown
  have i_X4 : ∀ w ∈ wsX40, w ∈ wsX4_fillRow := by decide +kernel
  have fl56 := hts (.fieldLink RX4 56 "KrylovDesk" "right" "[I") (by decide +kernel)
  have fl63 := hts (.fieldLink RX4 63 "KrylovDesk" "work" "[I") (by decide +kernel)
  have fl13 := hts (.fieldLink RX4 13 "KrylovDesk" "size" "I") (by decide +kernel)
  have fl66 := hts (.fieldLink RX4 66 "KrylovDesk" "numbers" "[I") (by decide +kernel)
  have fl36 := hts (.fieldLink RX4 36 "KrylovDesk" "matrix" "LKrylovDesk$Matrix;") (by decide +kernel)
  obtain ⟨g1, g2, g3, g4, g5, g6, g7, g8, g9, g10⟩ := g
  refine lv_aload_n hx hb dX4_fillRow_0 rfl (lv_at hl 0 rfl) ?_
  refine va_get (D := D) (ci := 4) (v := .ref aRi) (C := RX4) (T := TX4) (N := 13) hx hb hts i_X4 hown hK hP 0 rfl rfl 5 (by decide) fl56 (fun _ h9 => h9) rfl dX4_fillRow_1 ?_
  refine lv_iconst (v := (nI 0)) hx hb dX4_fillRow_4 (by decide) ?_
  refine lv_aload_n hx hb dX4_fillRow_5 rfl (lv_at hl 0 rfl) ?_
  refine va_get (D := D) (ci := 4) (v := .ref aWo) (C := RX4) (T := TX4) (N := 13) hx hb hts i_X4 hown hK hP 0 rfl rfl 7 (by decide) fl63 (fun _ h9 => h9) rfl dX4_fillRow_6 ?_
  refine lv_iconst (v := (nI 0)) hx hb dX4_fillRow_9 (by decide) ?_
  refine lv_aload_n hx hb dX4_fillRow_10 rfl (lv_at hl 0 rfl) ?_
  refine va_get (D := D) (ci := 4) (v := .int (nI n)) (C := RX4) (T := TX4) (N := 13) hx hb hts i_X4 hown hK hP 0 rfl rfl 4 (by decide) fl13 (fun _ h9 => h9) rfl dX4_fillRow_11 ?_
  refine kd_copy hx hb (hml.trans hl.1.symm) hown (hts (.methodLink RX4 147 arraycopyName) (by decide +kernel)) (hts (.native arraycopyName) (by decide +kernel)) (hts (.static arraycopyName) (by decide +kernel)) (hts (.initialized "java/lang/System") (by decide +kernel)) hK hP hD hS 7 9 rfl rfl (by omega) (by omega) (by omega) (Nat.le_of_ble_eq_true rfl) (by decide) dX4_fillRow_14 (fun H locs hP hD hS => ?_)
  have hP : va_P D vwCl [(h0, .inr (4, [.ref aM, .ref aK, .ref aG, .ref aE, .int (nI n), .ref aRi, .ref aCh, .ref aWo, .ref aNu, .ref aAn, .int (nI rs), .int (nI ss), .int (nI att)])), (aM, .inr (2, [.int (nI P)])), (aK, .inr (1, [.ref aM, .ref aR, .ref aC, .ref aV, .ref aS, .int (nI held), .int (nI prod)])), (aR, kd_ar cI room rows), (aC, kd_ar cI room cols), (aV, kd_ar cI room vals), (aS, kd_ar cI n sums), (aRi, kd_ar cI n b0), (aCh, kd_ar cI n (pCh P gg)), (aWo, kd_ar cI n (va_cpy b0 wo 0 0 n)), (aNu, kd_ar cI (2 * n) nu)] H := hP
  have hD : va_D A [(h0, .inr (4, [.ref aM, .ref aK, .ref aG, .ref aE, .int (nI n), .ref aRi, .ref aCh, .ref aWo, .ref aNu, .ref aAn, .int (nI rs), .int (nI ss), .int (nI att)])), (aM, .inr (2, [.int (nI P)])), (aK, .inr (1, [.ref aM, .ref aR, .ref aC, .ref aV, .ref aS, .int (nI held), .int (nI prod)])), (aR, kd_ar cI room rows), (aC, kd_ar cI room cols), (aV, kd_ar cI room vals), (aS, kd_ar cI n sums), (aRi, kd_ar cI n b0), (aCh, kd_ar cI n (pCh P gg)), (aWo, kd_ar cI n (va_cpy b0 wo 0 0 n)), (aNu, kd_ar cI (2 * n) nu)] := hD
  obtain ⟨hP, hD⟩ := kd_swap (g := (pVk P rows cols vals held b0 0)) hP hD 9 rfl (fun j hj => cpy_all hj)
  have hP : va_P D vwCl [(h0, .inr (4, [.ref aM, .ref aK, .ref aG, .ref aE, .int (nI n), .ref aRi, .ref aCh, .ref aWo, .ref aNu, .ref aAn, .int (nI rs), .int (nI ss), .int (nI att)])), (aM, .inr (2, [.int (nI P)])), (aK, .inr (1, [.ref aM, .ref aR, .ref aC, .ref aV, .ref aS, .int (nI held), .int (nI prod)])), (aR, kd_ar cI room rows), (aC, kd_ar cI room cols), (aV, kd_ar cI room vals), (aS, kd_ar cI n sums), (aRi, kd_ar cI n b0), (aCh, kd_ar cI n (pCh P gg)), (aWo, kd_ar cI n (pVk P rows cols vals held b0 0)), (aNu, kd_ar cI (2 * n) nu)] H := hP
  have hD : va_D A [(h0, .inr (4, [.ref aM, .ref aK, .ref aG, .ref aE, .int (nI n), .ref aRi, .ref aCh, .ref aWo, .ref aNu, .ref aAn, .int (nI rs), .int (nI ss), .int (nI att)])), (aM, .inr (2, [.int (nI P)])), (aK, .inr (1, [.ref aM, .ref aR, .ref aC, .ref aV, .ref aS, .int (nI held), .int (nI prod)])), (aR, kd_ar cI room rows), (aC, kd_ar cI room cols), (aV, kd_ar cI room vals), (aS, kd_ar cI n sums), (aRi, kd_ar cI n b0), (aCh, kd_ar cI n (pCh P gg)), (aWo, kd_ar cI n (pVk P rows cols vals held b0 0)), (aNu, kd_ar cI (2 * n) nu)] := hD
  refine lv_aload_n hx hb dX4_fillRow_17 rfl (lv_at hl 0 rfl) ?_
  refine va_get (D := D) (ci := 4) (v := .ref aNu) (C := RX4) (T := TX4) (N := 13) hx hb hts i_X4 hown hK hP 0 rfl rfl 8 (by decide) fl66 (fun _ h9 => h9) rfl dX4_fillRow_18 ?_
  refine lv_iconst (v := (nI 0)) hx hb dX4_fillRow_21 (by decide) ?_
  refine lv_aload_n hx hb dX4_fillRow_22 rfl (lv_at hl 0 rfl) ?_
  refine kd_VI (As := []) (rest := [.int (nI 0), .ref aNu]) (Wr := [(aK, .inr (1, [.ref aM, .ref aR, .ref aC, .ref aV, .ref aS, .int (nI held), .int (nI prod)])), (aR, kd_ar cI room rows), (aC, kd_ar cI room cols), (aV, kd_ar cI room vals), (aS, kd_ar cI n sums), (aRi, kd_ar cI n b0), (aNu, kd_ar cI (2 * n) nu)]) ⟨hx, hb, hml, hown, hts⟩ (c_X4_chanceTimesWork l D cI cJ h0 aM aK aG aE aRi aCh aWo aNu aAn P n rs ss att (pCh P gg) (pVk P rows cols vals held b0 0) g1 g2 g4 (fun j _ => pCh_lt (by omega) gg j) (fun j hj => pVk_lt (by omega) g10 _ j hj)) (cwV 0 hts gX4_fillRow_X4_chanceTimesWork rfl rfl rfl (by decide +kernel) ⟨Nat.le_of_ble_eq_true rfl, Nat.le_of_ble_eq_true rfl⟩) hK hP hD hS hA [0, 1, 8, 9] [2, 3, 4, 5, 6, 7, 10] rfl rfl (by decide) (by decide) 0 rfl rfl rfl rfl hl.1 (Nat.le_of_ble_eq_true rfl) dX4_fillRow_23 ⟨Nat.le_of_ble_eq_true rfl, Nat.le_of_ble_eq_true rfl⟩ (fun _ H locs hP hD hS => ?_)
  have hP : va_P D vwCl [(aK, .inr (1, [.ref aM, .ref aR, .ref aC, .ref aV, .ref aS, .int (nI held), .int (nI prod)])), (aR, kd_ar cI room rows), (aC, kd_ar cI room cols), (aV, kd_ar cI room vals), (aS, kd_ar cI n sums), (aRi, kd_ar cI n b0), (aNu, kd_ar cI (2 * n) nu), (h0, .inr (4, [.ref aM, .ref aK, .ref aG, .ref aE, .int (nI n), .ref aRi, .ref aCh, .ref aWo, .ref aNu, .ref aAn, .int (nI rs), .int (nI ss), .int (nI att)])), (aM, .inr (2, [.int (nI P)])), (aCh, kd_ar cI n (pCh P gg)), (aWo, kd_ar cI n (pVk P rows cols vals held b0 0))] H := hP
  have hD : va_D A [(aK, .inr (1, [.ref aM, .ref aR, .ref aC, .ref aV, .ref aS, .int (nI held), .int (nI prod)])), (aR, kd_ar cI room rows), (aC, kd_ar cI room cols), (aV, kd_ar cI room vals), (aS, kd_ar cI n sums), (aRi, kd_ar cI n b0), (aNu, kd_ar cI (2 * n) nu), (h0, .inr (4, [.ref aM, .ref aK, .ref aG, .ref aE, .int (nI n), .ref aRi, .ref aCh, .ref aWo, .ref aNu, .ref aAn, .int (nI rs), .int (nI ss), .int (nI att)])), (aM, .inr (2, [.int (nI P)])), (aCh, kd_ar cI n (pCh P gg)), (aWo, kd_ar cI n (pVk P rows cols vals held b0 0))] := hD
  refine kd_ast hx hb hK hP hD hS 6 rfl 0 (by omega) (by omega) dX4_fillRow_26 (fun H locs hP hD hS => ?_)
  have hP : va_P D vwCl [(aK, .inr (1, [.ref aM, .ref aR, .ref aC, .ref aV, .ref aS, .int (nI held), .int (nI prod)])), (aR, kd_ar cI room rows), (aC, kd_ar cI room cols), (aV, kd_ar cI room vals), (aS, kd_ar cI n sums), (aRi, kd_ar cI n b0), (aNu, kd_ar cI (2 * n) (va_up nu 0 (pRow P n rows cols vals held b0 gg 0))), (h0, .inr (4, [.ref aM, .ref aK, .ref aG, .ref aE, .int (nI n), .ref aRi, .ref aCh, .ref aWo, .ref aNu, .ref aAn, .int (nI rs), .int (nI ss), .int (nI att)])), (aM, .inr (2, [.int (nI P)])), (aCh, kd_ar cI n (pCh P gg)), (aWo, kd_ar cI n (pVk P rows cols vals held b0 0))] H := hP
  have hD : va_D A [(aK, .inr (1, [.ref aM, .ref aR, .ref aC, .ref aV, .ref aS, .int (nI held), .int (nI prod)])), (aR, kd_ar cI room rows), (aC, kd_ar cI room cols), (aV, kd_ar cI room vals), (aS, kd_ar cI n sums), (aRi, kd_ar cI n b0), (aNu, kd_ar cI (2 * n) (va_up nu 0 (pRow P n rows cols vals held b0 gg 0))), (h0, .inr (4, [.ref aM, .ref aK, .ref aG, .ref aE, .int (nI n), .ref aRi, .ref aCh, .ref aWo, .ref aNu, .ref aAn, .int (nI rs), .int (nI ss), .int (nI att)])), (aM, .inr (2, [.int (nI P)])), (aCh, kd_ar cI n (pCh P gg)), (aWo, kd_ar cI n (pVk P rows cols vals held b0 0))] := hD
  refine lv_iconst (v := (nI 1)) hx hb dX4_fillRow_27 (by decide) ?_
  refine lv_istore_n (lv' := [(1, .int (nI 1)), (0, .ref h0)]) hx hb dX4_fillRow_28 rfl hl (by decide) rfl (fun ls hl => ?_)
  have lp : ∀ (k_lp : Nat) (k0 : Nat) (sm : Nat → Nat) (x : Nat → Nat) (H : Heap) (locs : List Loc) (ls : Array Slot), (2 * n - k0 < k_lp) → (k0 + 1 ≤ 2 * n) → (∀ j, j < k0 + 1 → x j = pRow P n rows cols vals held b0 gg j) → va_P D vwCl [(h0, .inr (4, [.ref aM, .ref aK, .ref aG, .ref aE, .int (nI n), .ref aRi, .ref aCh, .ref aWo, .ref aNu, .ref aAn, .int (nI rs), .int (nI ss), .int (nI att)])), (aM, .inr (2, [.int (nI P)])), (aK, .inr (1, [.ref aM, .ref aR, .ref aC, .ref aV, .ref aS, .int (nI held), .int (nI (prod + k0))])), (aR, kd_ar cI room rows), (aC, kd_ar cI room cols), (aV, kd_ar cI room vals), (aS, kd_ar cI n sm), (aRi, kd_ar cI n b0), (aCh, kd_ar cI n (pCh P gg)), (aWo, kd_ar cI n (pVk P rows cols vals held b0 k0)), (aNu, kd_ar cI (2 * n) x)] H → va_D A [(h0, .inr (4, [.ref aM, .ref aK, .ref aG, .ref aE, .int (nI n), .ref aRi, .ref aCh, .ref aWo, .ref aNu, .ref aAn, .int (nI rs), .int (nI ss), .int (nI att)])), (aM, .inr (2, [.int (nI P)])), (aK, .inr (1, [.ref aM, .ref aR, .ref aC, .ref aV, .ref aS, .int (nI held), .int (nI (prod + k0))])), (aR, kd_ar cI room rows), (aC, kd_ar cI room cols), (aV, kd_ar cI room vals), (aS, kd_ar cI n sm), (aRi, kd_ar cI n b0), (aCh, kd_ar cI n (pCh P gg)), (aWo, kd_ar cI n (pVk P rows cols vals held b0 k0)), (aNu, kd_ar cI (2 * n) x)] → va_S A s.heap H locs → lv_has ls 2 [(1, .int (nI (k0 + 1))), (0, .ref h0)] → W p l e { frames := 2, cells := 0, slots := 0, locals := 87 } s m args below meth c H locs 0 0 Q (F0 m 29 ls []) := by
    intro k_lp
    induction k_lp with
    | zero => intro k0 sm x H locs ls i1 i2 i3 hP hD hS hl; omega
    | succ k_lp ih_lp =>
      intro k0 sm x H locs ls i1 i2 i3 hP hD hS hl
      refine lv_iload_n hx hb dX4_fillRow_29 rfl (lv_at hl 0 rfl) ?_
      refine lv_aload_n hx hb dX4_fillRow_30 rfl (lv_at hl 1 rfl) ?_
      refine va_get (D := D) (ci := 4) (v := .ref aNu) (C := RX4) (T := TX4) (N := 13) hx hb hts i_X4 hown hK hP 0 rfl rfl 8 (by decide) fl66 (fun _ h9 => h9) rfl dX4_fillRow_31 ?_
      refine kd_alen hx hb hK hP 10 rfl dX4_fillRow_34 ?_
      refine kd_ge (tgt := 65) hx hb dX4_fillRow_35 (by decide) (by omega) (by omega) (fun c_35 => ?_) (fun c_35 => ?_)
      · skip
        have e9 : k0 = 2 * n - 1 := by omega
        rw [e9] at hP hD
        obtain ⟨hP, hD⟩ := kd_swap (g := (pRow P n rows cols vals held b0 gg)) hP hD 10 rfl (fun j hj => i3 j (by omega))
        have hP : va_P D vwCl [(h0, .inr (4, [.ref aM, .ref aK, .ref aG, .ref aE, .int (nI n), .ref aRi, .ref aCh, .ref aWo, .ref aNu, .ref aAn, .int (nI rs), .int (nI ss), .int (nI att)])), (aM, .inr (2, [.int (nI P)])), (aK, .inr (1, [.ref aM, .ref aR, .ref aC, .ref aV, .ref aS, .int (nI held), .int (nI (prod + (2 * n - 1)))])), (aR, kd_ar cI room rows), (aC, kd_ar cI room cols), (aV, kd_ar cI room vals), (aS, kd_ar cI n sm), (aRi, kd_ar cI n b0), (aCh, kd_ar cI n (pCh P gg)), (aWo, kd_ar cI n (pVk P rows cols vals held b0 (2 * n - 1))), (aNu, kd_ar cI (2 * n) (pRow P n rows cols vals held b0 gg))] H := hP
        have hD : va_D A [(h0, .inr (4, [.ref aM, .ref aK, .ref aG, .ref aE, .int (nI n), .ref aRi, .ref aCh, .ref aWo, .ref aNu, .ref aAn, .int (nI rs), .int (nI ss), .int (nI att)])), (aM, .inr (2, [.int (nI P)])), (aK, .inr (1, [.ref aM, .ref aR, .ref aC, .ref aV, .ref aS, .int (nI held), .int (nI (prod + (2 * n - 1)))])), (aR, kd_ar cI room rows), (aC, kd_ar cI room cols), (aV, kd_ar cI room vals), (aS, kd_ar cI n sm), (aRi, kd_ar cI n b0), (aCh, kd_ar cI n (pCh P gg)), (aWo, kd_ar cI n (pVk P rows cols vals held b0 (2 * n - 1))), (aNu, kd_ar cI (2 * n) (pRow P n rows cols vals held b0 gg))] := hD
        exact ret (sm, (pVk P rows cols vals held b0 (2 * n - 1))) _ _ _ _ dX4_fillRow_65 hS (hP.sub [0, 1, 2, 3, 4, 5, 6, 7, 8, 9, 10] rfl) (hD.sub [0, 1, 2, 3, 4, 5, 6, 7, 8, 9, 10] (by decide) rfl)
      · skip
        refine lv_aload_n hx hb dX4_fillRow_38 rfl (lv_at hl 1 rfl) ?_
        refine va_get (D := D) (ci := 4) (v := .ref aK) (C := RX4) (T := TX4) (N := 13) hx hb hts i_X4 hown hK hP 0 rfl rfl 1 (by decide) fl36 (fun _ h9 => h9) rfl dX4_fillRow_39 ?_
        refine lv_aload_n hx hb dX4_fillRow_42 rfl (lv_at hl 1 rfl) ?_
        refine va_get (D := D) (ci := 4) (v := .ref aWo) (C := RX4) (T := TX4) (N := 13) hx hb hts i_X4 hown hK hP 0 rfl rfl 7 (by decide) fl63 (fun _ h9 => h9) rfl dX4_fillRow_43 ?_
        refine kd_VV (As := [.ref aWo]) (rest := []) (Wr := [(h0, .inr (4, [.ref aM, .ref aK, .ref aG, .ref aE, .int (nI n), .ref aRi, .ref aCh, .ref aWo, .ref aNu, .ref aAn, .int (nI rs), .int (nI ss), .int (nI att)])), (aRi, kd_ar cI n b0), (aCh, kd_ar cI n (pCh P gg)), (aNu, kd_ar cI (2 * n) x)]) ⟨hx, hb, hml, hown, hts⟩ (c_X1_apply l D cI cJ aK aM aR aC aV aS P n room held (prod + k0) rows cols vals sm aWo (pVk P rows cols vals held b0 k0) g1 g2 (by omega) g5 g6 g7 g8 g9 (fun j hj => pVk_lt (by omega) g10 _ j hj)) (cwV 1 hts gX4_fillRow_X1_apply rfl rfl rfl (by decide +kernel) ⟨Nat.le_of_ble_eq_true rfl, Nat.le_of_ble_eq_true rfl⟩) hK hP hD hS hA [2, 1, 3, 4, 5, 6, 9] [0, 7, 8, 10] rfl rfl (by decide) (by decide) 0 rfl rfl rfl rfl hl.1 (Nat.le_of_ble_eq_true rfl) dX4_fillRow_46 ⟨Nat.le_of_ble_eq_true rfl, Nat.le_of_ble_eq_true rfl⟩ (fun _ H locs hP hD hS => ?_)
        have hP : va_P D vwCl [(h0, .inr (4, [.ref aM, .ref aK, .ref aG, .ref aE, .int (nI n), .ref aRi, .ref aCh, .ref aWo, .ref aNu, .ref aAn, .int (nI rs), .int (nI ss), .int (nI att)])), (aRi, kd_ar cI n b0), (aCh, kd_ar cI n (pCh P gg)), (aNu, kd_ar cI (2 * n) x), (aK, .inr (1, [.ref aM, .ref aR, .ref aC, .ref aV, .ref aS, .int (nI held), .int (nI ((prod + k0) + 1))])), (aM, .inr (2, [.int (nI P)])), (aR, kd_ar cI room rows), (aC, kd_ar cI room cols), (aV, kd_ar cI room vals), (aS, kd_ar cI n (pVk P rows cols vals held b0 (k0 + 1))), (aWo, kd_ar cI n (pVk P rows cols vals held b0 (k0 + 1)))] H := hP
        have hD : va_D A [(h0, .inr (4, [.ref aM, .ref aK, .ref aG, .ref aE, .int (nI n), .ref aRi, .ref aCh, .ref aWo, .ref aNu, .ref aAn, .int (nI rs), .int (nI ss), .int (nI att)])), (aRi, kd_ar cI n b0), (aCh, kd_ar cI n (pCh P gg)), (aNu, kd_ar cI (2 * n) x), (aK, .inr (1, [.ref aM, .ref aR, .ref aC, .ref aV, .ref aS, .int (nI held), .int (nI ((prod + k0) + 1))])), (aM, .inr (2, [.int (nI P)])), (aR, kd_ar cI room rows), (aC, kd_ar cI room cols), (aV, kd_ar cI room vals), (aS, kd_ar cI n (pVk P rows cols vals held b0 (k0 + 1))), (aWo, kd_ar cI n (pVk P rows cols vals held b0 (k0 + 1)))] := hD
        refine lv_aload_n hx hb dX4_fillRow_49 rfl (lv_at hl 1 rfl) ?_
        refine va_get (D := D) (ci := 4) (v := .ref aNu) (C := RX4) (T := TX4) (N := 13) hx hb hts i_X4 hown hK hP 0 rfl rfl 8 (by decide) fl66 (fun _ h9 => h9) rfl dX4_fillRow_50 ?_
        refine lv_iload_n hx hb dX4_fillRow_53 rfl (lv_at hl 0 rfl) ?_
        refine lv_aload_n hx hb dX4_fillRow_54 rfl (lv_at hl 1 rfl) ?_
        refine kd_VI (As := []) (rest := [.int (nI (k0 + 1)), .ref aNu]) (Wr := [(aRi, kd_ar cI n b0), (aNu, kd_ar cI (2 * n) x), (aK, .inr (1, [.ref aM, .ref aR, .ref aC, .ref aV, .ref aS, .int (nI held), .int (nI ((prod + k0) + 1))])), (aR, kd_ar cI room rows), (aC, kd_ar cI room cols), (aV, kd_ar cI room vals), (aS, kd_ar cI n (pVk P rows cols vals held b0 (k0 + 1)))]) ⟨hx, hb, hml, hown, hts⟩ (c_X4_chanceTimesWork l D cI cJ h0 aM aK aG aE aRi aCh aWo aNu aAn P n rs ss att (pCh P gg) (pVk P rows cols vals held b0 (k0 + 1)) g1 g2 g4 (fun j _ => pCh_lt (by omega) gg j) (fun j hj => pVk_lt (by omega) g10 _ j hj)) (cwV 0 hts gX4_fillRow_X4_chanceTimesWork rfl rfl rfl (by decide +kernel) ⟨Nat.le_of_ble_eq_true rfl, Nat.le_of_ble_eq_true rfl⟩) hK hP hD hS hA [0, 5, 2, 10] [1, 3, 4, 6, 7, 8, 9] rfl rfl (by decide) (by decide) 0 rfl rfl rfl rfl hl.1 (Nat.le_of_ble_eq_true rfl) dX4_fillRow_55 ⟨Nat.le_of_ble_eq_true rfl, Nat.le_of_ble_eq_true rfl⟩ (fun _ H locs hP hD hS => ?_)
        have hP : va_P D vwCl [(aRi, kd_ar cI n b0), (aNu, kd_ar cI (2 * n) x), (aK, .inr (1, [.ref aM, .ref aR, .ref aC, .ref aV, .ref aS, .int (nI held), .int (nI ((prod + k0) + 1))])), (aR, kd_ar cI room rows), (aC, kd_ar cI room cols), (aV, kd_ar cI room vals), (aS, kd_ar cI n (pVk P rows cols vals held b0 (k0 + 1))), (h0, .inr (4, [.ref aM, .ref aK, .ref aG, .ref aE, .int (nI n), .ref aRi, .ref aCh, .ref aWo, .ref aNu, .ref aAn, .int (nI rs), .int (nI ss), .int (nI att)])), (aM, .inr (2, [.int (nI P)])), (aCh, kd_ar cI n (pCh P gg)), (aWo, kd_ar cI n (pVk P rows cols vals held b0 (k0 + 1)))] H := hP
        have hD : va_D A [(aRi, kd_ar cI n b0), (aNu, kd_ar cI (2 * n) x), (aK, .inr (1, [.ref aM, .ref aR, .ref aC, .ref aV, .ref aS, .int (nI held), .int (nI ((prod + k0) + 1))])), (aR, kd_ar cI room rows), (aC, kd_ar cI room cols), (aV, kd_ar cI room vals), (aS, kd_ar cI n (pVk P rows cols vals held b0 (k0 + 1))), (h0, .inr (4, [.ref aM, .ref aK, .ref aG, .ref aE, .int (nI n), .ref aRi, .ref aCh, .ref aWo, .ref aNu, .ref aAn, .int (nI rs), .int (nI ss), .int (nI att)])), (aM, .inr (2, [.int (nI P)])), (aCh, kd_ar cI n (pCh P gg)), (aWo, kd_ar cI n (pVk P rows cols vals held b0 (k0 + 1)))] := hD
        refine kd_ast hx hb hK hP hD hS 1 rfl (k0 + 1) (by omega) (by omega) dX4_fillRow_58 (fun H locs hP hD hS => ?_)
        have hP : va_P D vwCl [(aRi, kd_ar cI n b0), (aNu, kd_ar cI (2 * n) (va_up x (k0 + 1) (pRow P n rows cols vals held b0 gg (k0 + 1)))), (aK, .inr (1, [.ref aM, .ref aR, .ref aC, .ref aV, .ref aS, .int (nI held), .int (nI ((prod + k0) + 1))])), (aR, kd_ar cI room rows), (aC, kd_ar cI room cols), (aV, kd_ar cI room vals), (aS, kd_ar cI n (pVk P rows cols vals held b0 (k0 + 1))), (h0, .inr (4, [.ref aM, .ref aK, .ref aG, .ref aE, .int (nI n), .ref aRi, .ref aCh, .ref aWo, .ref aNu, .ref aAn, .int (nI rs), .int (nI ss), .int (nI att)])), (aM, .inr (2, [.int (nI P)])), (aCh, kd_ar cI n (pCh P gg)), (aWo, kd_ar cI n (pVk P rows cols vals held b0 (k0 + 1)))] H := hP
        have hD : va_D A [(aRi, kd_ar cI n b0), (aNu, kd_ar cI (2 * n) (va_up x (k0 + 1) (pRow P n rows cols vals held b0 gg (k0 + 1)))), (aK, .inr (1, [.ref aM, .ref aR, .ref aC, .ref aV, .ref aS, .int (nI held), .int (nI ((prod + k0) + 1))])), (aR, kd_ar cI room rows), (aC, kd_ar cI room cols), (aV, kd_ar cI room vals), (aS, kd_ar cI n (pVk P rows cols vals held b0 (k0 + 1))), (h0, .inr (4, [.ref aM, .ref aK, .ref aG, .ref aE, .int (nI n), .ref aRi, .ref aCh, .ref aWo, .ref aNu, .ref aAn, .int (nI rs), .int (nI ss), .int (nI att)])), (aM, .inr (2, [.int (nI P)])), (aCh, kd_ar cI n (pCh P gg)), (aWo, kd_ar cI n (pVk P rows cols vals held b0 (k0 + 1)))] := hD
        refine lv_iinc (v := (nI ((k0 + 1) + 1))) (lv' := [(1, .int (nI ((k0 + 1) + 1))), (0, .ref h0)]) hx hb dX4_fillRow_59 hl (k := 0) rfl (nI_1 _) (by decide) rfl (fun ls hl => ?_)
        refine lv_goto (tgt := 29) hx hb dX4_fillRow_62 (by decide) ?_
        exact ih_lp (k0 + 1) (pVk P rows cols vals held b0 (k0 + 1)) (va_up x (k0 + 1) (pRow P n rows cols vals held b0 gg (k0 + 1))) _ _ _ (by omega) (by omega) (lt_upf i3) (hP.sub [7, 8, 2, 3, 4, 5, 6, 0, 9, 10, 1] rfl) (hD.sub [7, 8, 2, 3, 4, 5, 6, 0, 9, 10, 1] (by decide) rfl) hS (lv_sub hl [0, 1] rfl)
  exact lp (2 * n + 1) 0 sums (va_up nu 0 (pRow P n rows cols vals held b0 gg 0)) _ _ _ (by omega) (by omega) (lt_upf (y := pRow P n rows cols vals held b0 gg) (fun j hj => by omega)) (hP.sub [7, 8, 0, 1, 2, 3, 4, 5, 9, 10, 6] rfl) (hD.sub [7, 8, 0, 1, 2, 3, 4, 5, 9, 10, 6] (by decide) rfl) hS (lv_sub hl [0, 1] rfl)

set_option maxHeartbeats 4000000 in
set_option maxRecDepth 100000 in
/-- w and f b -/
theorem c_X4_addRightToWork (l : Launch) (D : va_G) (cI cJ : ClassId) (h0 aM aK aG aE aRi aCh aWo aNu aAn : Nat) (P n rs ss att f0 : Nat) (b0 wo : Nat → Nat) (g1 : 2 ≤ P) (g2 : P ≤ 46337) (g4 : n ≤ 16) (g5 : ∀ j, j < n → wo j < P) (g6 : ∀ j, j < n → b0 j < P) (g7 : f0 < P) : kd_MV (S := Unit) l yX4_addRightToWork wsX4_addRightToWork { frames := 1, cells := 0, slots := 0, locals := 23 } [.ref h0, .int (nI f0)] D vwCl cI cJ [(h0, .inr (4, [.ref aM, .ref aK, .ref aG, .ref aE, .int (nI n), .ref aRi, .ref aCh, .ref aWo, .ref aNu, .ref aAn, .int (nI rs), .int (nI ss), .int (nI att)])), (aM, .inr (2, [.int (nI P)])), (aRi, kd_ar cI n b0), (aWo, kd_ar cI n wo)] (fun _ => [(h0, .inr (4, [.ref aM, .ref aK, .ref aG, .ref aE, .int (nI n), .ref aRi, .ref aCh, .ref aWo, .ref aNu, .ref aAn, .int (nI rs), .int (nI ss), .int (nI att)])), (aM, .inr (2, [.int (nI P)])), (aRi, kd_ar cI n b0), (aWo, kd_ar cI n (fun j => (wo j + f0 * b0 j) % P))]) 0 0 := by
  refine kd_enterV (cc := cX4_addRightToWork) (maxL := 3) (by decide) rfl (Nat.le_of_ble_eq_true rfl) ?_
  intro p e s m args below meth c A ls Q hx hb hr hts hown hlk hnm hml hP hK hD hA hS hl ret
  have hl : lv_has ls 3 [(0, .ref h0), (1, .int (nI f0))] := hl
  have hown : s.vm.findClass RX4 = some m.cls := hown
  have i_X4 : ∀ w ∈ wsX40, w ∈ wsX4_addRightToWork := by decide +kernel
  have fl13 := hts (.fieldLink RX4 13 "KrylovDesk" "size" "I") (by decide +kernel)
  have fl63 := hts (.fieldLink RX4 63 "KrylovDesk" "work" "[I") (by decide +kernel)
  have fl27 := hts (.fieldLink RX4 27 "KrylovDesk" "modulus" "LKrylovDesk$Modulus;") (by decide +kernel)
  have fl56 := hts (.fieldLink RX4 56 "KrylovDesk" "right" "[I") (by decide +kernel)
  refine lv_iconst (v := (nI 0)) hx hb dX4_addRightToWork_0 (by decide) ?_
  refine lv_istore_n (lv' := [(2, .int (nI 0)), (0, .ref h0), (1, .int (nI f0))]) hx hb dX4_addRightToWork_1 rfl hl (by decide) rfl (fun ls hl => ?_)
  have lp : ∀ (k_lp : Nat) (i : Nat) (x : Nat → Nat) (H : Heap) (locs : List Loc) (ls : Array Slot), (n - i < k_lp) → (i ≤ n) → (∀ j, x j = if j < i then (fun j => (wo j + f0 * b0 j) % P) j else wo j) → va_P D vwCl [(h0, .inr (4, [.ref aM, .ref aK, .ref aG, .ref aE, .int (nI n), .ref aRi, .ref aCh, .ref aWo, .ref aNu, .ref aAn, .int (nI rs), .int (nI ss), .int (nI att)])), (aM, .inr (2, [.int (nI P)])), (aRi, kd_ar cI n b0), (aWo, kd_ar cI n x)] H → va_D A [(h0, .inr (4, [.ref aM, .ref aK, .ref aG, .ref aE, .int (nI n), .ref aRi, .ref aCh, .ref aWo, .ref aNu, .ref aAn, .int (nI rs), .int (nI ss), .int (nI att)])), (aM, .inr (2, [.int (nI P)])), (aRi, kd_ar cI n b0), (aWo, kd_ar cI n x)] → va_S A s.heap H locs → lv_has ls 3 [(2, .int (nI i)), (0, .ref h0), (1, .int (nI f0))] → W p l e { frames := 1, cells := 0, slots := 0, locals := 23 } s m args below meth c H locs 0 0 Q (F0 m 2 ls []) := by
    intro k_lp
    induction k_lp with
    | zero => intro i x H locs ls i1 i2 i3 hP hD hS hl; omega
    | succ k_lp ih_lp =>
      intro i x H locs ls i1 i2 i3 hP hD hS hl
      refine lv_iload_n hx hb dX4_addRightToWork_2 rfl (lv_at hl 0 rfl) ?_
      refine lv_aload_n hx hb dX4_addRightToWork_3 rfl (lv_at hl 1 rfl) ?_
      refine va_get (D := D) (ci := 4) (v := .int (nI n)) (C := RX4) (T := TX4) (N := 13) hx hb hts i_X4 hown hK hP 0 rfl rfl 4 (by decide) fl13 (fun _ h9 => h9) rfl dX4_addRightToWork_4 ?_
      refine kd_ge (tgt := 42) hx hb dX4_addRightToWork_7 (by decide) (by omega) (by omega) (fun c_7 => ?_) (fun c_7 => ?_)
      · skip
        obtain ⟨hP, hD⟩ := kd_swap (g := (fun j => (wo j + f0 * b0 j) % P)) hP hD 3 rfl (fun j hj => by rw [i3 j, if_pos (by omega)])
        have hP : va_P D vwCl [(h0, .inr (4, [.ref aM, .ref aK, .ref aG, .ref aE, .int (nI n), .ref aRi, .ref aCh, .ref aWo, .ref aNu, .ref aAn, .int (nI rs), .int (nI ss), .int (nI att)])), (aM, .inr (2, [.int (nI P)])), (aRi, kd_ar cI n b0), (aWo, kd_ar cI n (fun j => (wo j + f0 * b0 j) % P))] H := hP
        have hD : va_D A [(h0, .inr (4, [.ref aM, .ref aK, .ref aG, .ref aE, .int (nI n), .ref aRi, .ref aCh, .ref aWo, .ref aNu, .ref aAn, .int (nI rs), .int (nI ss), .int (nI att)])), (aM, .inr (2, [.int (nI P)])), (aRi, kd_ar cI n b0), (aWo, kd_ar cI n (fun j => (wo j + f0 * b0 j) % P))] := hD
        exact ret () _ _ _ _ dX4_addRightToWork_42 hS (hP.sub [0, 1, 2, 3] rfl) (hD.sub [0, 1, 2, 3] (by decide) rfl)
      · skip
        refine lv_aload_n hx hb dX4_addRightToWork_10 rfl (lv_at hl 1 rfl) ?_
        refine va_get (D := D) (ci := 4) (v := .ref aWo) (C := RX4) (T := TX4) (N := 13) hx hb hts i_X4 hown hK hP 0 rfl rfl 7 (by decide) fl63 (fun _ h9 => h9) rfl dX4_addRightToWork_11 ?_
        refine lv_iload_n hx hb dX4_addRightToWork_14 rfl (lv_at hl 0 rfl) ?_
        refine lv_aload_n hx hb dX4_addRightToWork_15 rfl (lv_at hl 1 rfl) ?_
        refine va_get (D := D) (ci := 4) (v := .ref aM) (C := RX4) (T := TX4) (N := 13) hx hb hts i_X4 hown hK hP 0 rfl rfl 0 (by decide) fl27 (fun _ h9 => h9) rfl dX4_addRightToWork_16 ?_
        refine lv_aload_n hx hb dX4_addRightToWork_19 rfl (lv_at hl 1 rfl) ?_
        refine va_get (D := D) (ci := 4) (v := .ref aWo) (C := RX4) (T := TX4) (N := 13) hx hb hts i_X4 hown hK hP 0 rfl rfl 7 (by decide) fl63 (fun _ h9 => h9) rfl dX4_addRightToWork_20 ?_
        refine lv_iload_n hx hb dX4_addRightToWork_23 rfl (lv_at hl 0 rfl) ?_
        refine kd_ald hx hb hK hP 3 rfl i (by omega) (by omega) dX4_addRightToWork_24 ?_
        refine lv_iload_n hx hb dX4_addRightToWork_25 rfl (lv_at hl 2 rfl) ?_
        refine lv_aload_n hx hb dX4_addRightToWork_26 rfl (lv_at hl 1 rfl) ?_
        refine va_get (D := D) (ci := 4) (v := .ref aRi) (C := RX4) (T := TX4) (N := 13) hx hb hts i_X4 hown hK hP 0 rfl rfl 5 (by decide) fl56 (fun _ h9 => h9) rfl dX4_addRightToWork_27 ?_
        refine lv_iload_n hx hb dX4_addRightToWork_30 rfl (lv_at hl 0 rfl) ?_
        refine kd_ald hx hb hK hP 2 rfl i (by omega) (by omega) dX4_addRightToWork_31 ?_
        refine kd_VI (As := [.int (nI (x i)), .int (nI f0), .int (nI (b0 i))]) (rest := [.int (nI i), .ref aWo]) (Wr := [(h0, .inr (4, [.ref aM, .ref aK, .ref aG, .ref aE, .int (nI n), .ref aRi, .ref aCh, .ref aWo, .ref aNu, .ref aAn, .int (nI rs), .int (nI ss), .int (nI att)])), (aRi, kd_ar cI n b0), (aWo, kd_ar cI n x)]) ⟨hx, hb, hml, hown, hts⟩ (c_X2_plusProduct l D cI cJ aM P (x i) f0 (b0 i) g1 g2 (by rw [i3 i, if_neg (by omega)]; exact g5 i (by omega)) g7 (g6 i (by omega))) (cwV 3 hts gX4_addRightToWork_X2_plusProduct rfl rfl rfl (by decide +kernel) ⟨Nat.le_of_ble_eq_true rfl, Nat.le_of_ble_eq_true rfl⟩) hK hP hD hS hA [1] [0, 2, 3] rfl rfl (by decide) (by decide) 0 rfl rfl rfl rfl hl.1 (Nat.le_of_ble_eq_true rfl) dX4_addRightToWork_32 ⟨Nat.le_of_ble_eq_true rfl, Nat.le_of_ble_eq_true rfl⟩ (fun _ H locs hP hD hS => ?_)
        have hP : va_P D vwCl [(h0, .inr (4, [.ref aM, .ref aK, .ref aG, .ref aE, .int (nI n), .ref aRi, .ref aCh, .ref aWo, .ref aNu, .ref aAn, .int (nI rs), .int (nI ss), .int (nI att)])), (aRi, kd_ar cI n b0), (aWo, kd_ar cI n x), (aM, .inr (2, [.int (nI P)]))] H := hP
        have hD : va_D A [(h0, .inr (4, [.ref aM, .ref aK, .ref aG, .ref aE, .int (nI n), .ref aRi, .ref aCh, .ref aWo, .ref aNu, .ref aAn, .int (nI rs), .int (nI ss), .int (nI att)])), (aRi, kd_ar cI n b0), (aWo, kd_ar cI n x), (aM, .inr (2, [.int (nI P)]))] := hD
        refine kd_ast hx hb hK hP hD hS 2 rfl i (by omega) (by omega) dX4_addRightToWork_35 (fun H locs hP hD hS => ?_)
        have hP : va_P D vwCl [(h0, .inr (4, [.ref aM, .ref aK, .ref aG, .ref aE, .int (nI n), .ref aRi, .ref aCh, .ref aWo, .ref aNu, .ref aAn, .int (nI rs), .int (nI ss), .int (nI att)])), (aRi, kd_ar cI n b0), (aWo, kd_ar cI n (va_up x i (((x i) + f0 * (b0 i)) % P))), (aM, .inr (2, [.int (nI P)]))] H := hP
        have hD : va_D A [(h0, .inr (4, [.ref aM, .ref aK, .ref aG, .ref aE, .int (nI n), .ref aRi, .ref aCh, .ref aWo, .ref aNu, .ref aAn, .int (nI rs), .int (nI ss), .int (nI att)])), (aRi, kd_ar cI n b0), (aWo, kd_ar cI n (va_up x i (((x i) + f0 * (b0 i)) % P))), (aM, .inr (2, [.int (nI P)]))] := hD
        refine lv_iinc (v := (nI (i + 1))) (lv' := [(2, .int (nI (i + 1))), (0, .ref h0), (1, .int (nI f0))]) hx hb dX4_addRightToWork_36 hl (k := 0) rfl (nI_1 _) (by decide) rfl (fun ls hl => ?_)
        refine lv_goto (tgt := 2) hx hb dX4_addRightToWork_39 (by decide) ?_
        exact ih_lp (i + 1) (va_up x i ((x i + f0 * b0 i) % P)) _ _ _ (by omega) (by omega) (fun j => by rw [show x i = wo i by rw [i3 i, if_neg (by omega)]]; exact lt_upg i3 j) (hP.sub [0, 3, 1, 2] rfl) (hD.sub [0, 3, 1, 2] (by decide) rfl) hS (lv_sub hl [0, 1, 2] rfl)
  exact lp (n + 1) 0 wo _ _ _ (by omega) (by omega) (fun j => by rw [if_neg (by omega)]) (hP.sub [0, 1, 2, 3] rfl) (hD.sub [0, 1, 2, 3] (by decide) rfl) hS (lv_sub hl [0, 1, 2] rfl)

set_option maxHeartbeats 4000000 in
set_option maxRecDepth 100000 in
/-- whether A times the answer is b -/
theorem c_X4_answerMeetsRight (l : Launch) (D : va_G) (cI cJ : ClassId) (h0 aM aK aG aE aRi aCh aWo aNu aAn : Nat) (aR aC aV aS : Nat) (P n room held prod : Nat) (rows cols vals sums : Nat → Nat) (rs ss att : Nat) (b0 wo an : Nat → Nat) (g : pOK P n room held rows cols vals b0) (g11 : ∀ j, j < n → an j < P) : kd_MI (S := (Nat → Nat) × (Nat → Nat)) l yX4_answerMeetsRight wsX4_answerMeetsRight { frames := 2, cells := 0, slots := 0, locals := 87 } [.ref h0] D vwCl cI cJ [(h0, .inr (4, [.ref aM, .ref aK, .ref aG, .ref aE, .int (nI n), .ref aRi, .ref aCh, .ref aWo, .ref aNu, .ref aAn, .int (nI rs), .int (nI ss), .int (nI att)])), (aM, .inr (2, [.int (nI P)])), (aK, .inr (1, [.ref aM, .ref aR, .ref aC, .ref aV, .ref aS, .int (nI held), .int (nI prod)])), (aR, kd_ar cI room rows), (aC, kd_ar cI room cols), (aV, kd_ar cI room vals), (aS, kd_ar cI n sums), (aRi, kd_ar cI n b0), (aWo, kd_ar cI n wo), (aAn, kd_ar cI n an)] (fun u9 => nI (pB (pHolds P n rows cols vals held b0 an))) (fun u9 => [(h0, .inr (4, [.ref aM, .ref aK, .ref aG, .ref aE, .int (nI n), .ref aRi, .ref aCh, .ref aWo, .ref aNu, .ref aAn, .int (nI rs), .int (nI ss), .int (nI att)])), (aM, .inr (2, [.int (nI P)])), (aK, .inr (1, [.ref aM, .ref aR, .ref aC, .ref aV, .ref aS, .int (nI held), .int (nI (prod + 1))])), (aR, kd_ar cI room rows), (aC, kd_ar cI room cols), (aV, kd_ar cI room vals), (aS, kd_ar cI n u9.1), (aRi, kd_ar cI n b0), (aWo, kd_ar cI n u9.2), (aAn, kd_ar cI n an)]) 0 0 := by
  refine kd_enterZ (cc := cX4_answerMeetsRight) (maxL := 2) (by decide) rfl (Nat.le_of_ble_eq_true rfl) (fun _ => pB_01 _) ?_
  intro p e s m args below meth c A ls Q hx hb hr hts hown hlk hnm hml hP hK hD hA hS hl ret
  have hl : lv_has ls 2 [(0, .ref h0)] := hl
  have hown : s.vm.findClass RX4 = some m.cls := hown
  have i_X4 : ∀ w ∈ wsX40, w ∈ wsX4_answerMeetsRight := by decide +kernel
  have fl69 := hts (.fieldLink RX4 69 "KrylovDesk" "answer" "[I") (by decide +kernel)
  have fl63 := hts (.fieldLink RX4 63 "KrylovDesk" "work" "[I") (by decide +kernel)
  have fl13 := hts (.fieldLink RX4 13 "KrylovDesk" "size" "I") (by decide +kernel)
  have fl36 := hts (.fieldLink RX4 36 "KrylovDesk" "matrix" "LKrylovDesk$Matrix;") (by decide +kernel)
  have fl56 := hts (.fieldLink RX4 56 "KrylovDesk" "right" "[I") (by decide +kernel)
  obtain ⟨g1, g2, g3, g4, g5, g6, g7, g8, g9, g10⟩ := g
  refine lv_aload_n hx hb dX4_answerMeetsRight_0 rfl (lv_at hl 0 rfl) ?_
  refine va_get (D := D) (ci := 4) (v := .ref aAn) (C := RX4) (T := TX4) (N := 13) hx hb hts i_X4 hown hK hP 0 rfl rfl 9 (by decide) fl69 (fun _ h9 => h9) rfl dX4_answerMeetsRight_1 ?_
  refine lv_iconst (v := (nI 0)) hx hb dX4_answerMeetsRight_4 (by decide) ?_
  refine lv_aload_n hx hb dX4_answerMeetsRight_5 rfl (lv_at hl 0 rfl) ?_
  refine va_get (D := D) (ci := 4) (v := .ref aWo) (C := RX4) (T := TX4) (N := 13) hx hb hts i_X4 hown hK hP 0 rfl rfl 7 (by decide) fl63 (fun _ h9 => h9) rfl dX4_answerMeetsRight_6 ?_
  refine lv_iconst (v := (nI 0)) hx hb dX4_answerMeetsRight_9 (by decide) ?_
  refine lv_aload_n hx hb dX4_answerMeetsRight_10 rfl (lv_at hl 0 rfl) ?_
  refine va_get (D := D) (ci := 4) (v := .int (nI n)) (C := RX4) (T := TX4) (N := 13) hx hb hts i_X4 hown hK hP 0 rfl rfl 4 (by decide) fl13 (fun _ h9 => h9) rfl dX4_answerMeetsRight_11 ?_
  refine kd_copy hx hb (hml.trans hl.1.symm) hown (hts (.methodLink RX4 147 arraycopyName) (by decide +kernel)) (hts (.native arraycopyName) (by decide +kernel)) (hts (.static arraycopyName) (by decide +kernel)) (hts (.initialized "java/lang/System") (by decide +kernel)) hK hP hD hS 9 8 rfl rfl (by omega) (by omega) (by omega) (Nat.le_of_ble_eq_true rfl) (by decide) dX4_answerMeetsRight_14 (fun H locs hP hD hS => ?_)
  have hP : va_P D vwCl [(h0, .inr (4, [.ref aM, .ref aK, .ref aG, .ref aE, .int (nI n), .ref aRi, .ref aCh, .ref aWo, .ref aNu, .ref aAn, .int (nI rs), .int (nI ss), .int (nI att)])), (aM, .inr (2, [.int (nI P)])), (aK, .inr (1, [.ref aM, .ref aR, .ref aC, .ref aV, .ref aS, .int (nI held), .int (nI prod)])), (aR, kd_ar cI room rows), (aC, kd_ar cI room cols), (aV, kd_ar cI room vals), (aS, kd_ar cI n sums), (aRi, kd_ar cI n b0), (aWo, kd_ar cI n (va_cpy an wo 0 0 n)), (aAn, kd_ar cI n an)] H := hP
  have hD : va_D A [(h0, .inr (4, [.ref aM, .ref aK, .ref aG, .ref aE, .int (nI n), .ref aRi, .ref aCh, .ref aWo, .ref aNu, .ref aAn, .int (nI rs), .int (nI ss), .int (nI att)])), (aM, .inr (2, [.int (nI P)])), (aK, .inr (1, [.ref aM, .ref aR, .ref aC, .ref aV, .ref aS, .int (nI held), .int (nI prod)])), (aR, kd_ar cI room rows), (aC, kd_ar cI room cols), (aV, kd_ar cI room vals), (aS, kd_ar cI n sums), (aRi, kd_ar cI n b0), (aWo, kd_ar cI n (va_cpy an wo 0 0 n)), (aAn, kd_ar cI n an)] := hD
  obtain ⟨hP, hD⟩ := kd_swap (g := an) hP hD 8 rfl (fun j hj => cpy_all hj)
  have hP : va_P D vwCl [(h0, .inr (4, [.ref aM, .ref aK, .ref aG, .ref aE, .int (nI n), .ref aRi, .ref aCh, .ref aWo, .ref aNu, .ref aAn, .int (nI rs), .int (nI ss), .int (nI att)])), (aM, .inr (2, [.int (nI P)])), (aK, .inr (1, [.ref aM, .ref aR, .ref aC, .ref aV, .ref aS, .int (nI held), .int (nI prod)])), (aR, kd_ar cI room rows), (aC, kd_ar cI room cols), (aV, kd_ar cI room vals), (aS, kd_ar cI n sums), (aRi, kd_ar cI n b0), (aWo, kd_ar cI n an), (aAn, kd_ar cI n an)] H := hP
  have hD : va_D A [(h0, .inr (4, [.ref aM, .ref aK, .ref aG, .ref aE, .int (nI n), .ref aRi, .ref aCh, .ref aWo, .ref aNu, .ref aAn, .int (nI rs), .int (nI ss), .int (nI att)])), (aM, .inr (2, [.int (nI P)])), (aK, .inr (1, [.ref aM, .ref aR, .ref aC, .ref aV, .ref aS, .int (nI held), .int (nI prod)])), (aR, kd_ar cI room rows), (aC, kd_ar cI room cols), (aV, kd_ar cI room vals), (aS, kd_ar cI n sums), (aRi, kd_ar cI n b0), (aWo, kd_ar cI n an), (aAn, kd_ar cI n an)] := hD
  refine lv_aload_n hx hb dX4_answerMeetsRight_17 rfl (lv_at hl 0 rfl) ?_
  refine va_get (D := D) (ci := 4) (v := .ref aK) (C := RX4) (T := TX4) (N := 13) hx hb hts i_X4 hown hK hP 0 rfl rfl 1 (by decide) fl36 (fun _ h9 => h9) rfl dX4_answerMeetsRight_18 ?_
  refine lv_aload_n hx hb dX4_answerMeetsRight_21 rfl (lv_at hl 0 rfl) ?_
  refine va_get (D := D) (ci := 4) (v := .ref aWo) (C := RX4) (T := TX4) (N := 13) hx hb hts i_X4 hown hK hP 0 rfl rfl 7 (by decide) fl63 (fun _ h9 => h9) rfl dX4_answerMeetsRight_22 ?_
  refine kd_VV (As := [.ref aWo]) (rest := []) (Wr := [(h0, .inr (4, [.ref aM, .ref aK, .ref aG, .ref aE, .int (nI n), .ref aRi, .ref aCh, .ref aWo, .ref aNu, .ref aAn, .int (nI rs), .int (nI ss), .int (nI att)])), (aRi, kd_ar cI n b0), (aAn, kd_ar cI n an)]) ⟨hx, hb, hml, hown, hts⟩ (c_X1_apply l D cI cJ aK aM aR aC aV aS P n room held prod rows cols vals sums aWo an g1 g2 (by omega) g5 g6 g7 g8 g9 g11) (cwV 1 hts gX4_answerMeetsRight_X1_apply rfl rfl rfl (by decide +kernel) ⟨Nat.le_of_ble_eq_true rfl, Nat.le_of_ble_eq_true rfl⟩) hK hP hD hS hA [2, 1, 3, 4, 5, 6, 8] [0, 7, 9] rfl rfl (by decide) (by decide) 0 rfl rfl rfl rfl hl.1 (Nat.le_of_ble_eq_true rfl) dX4_answerMeetsRight_25 ⟨Nat.le_of_ble_eq_true rfl, Nat.le_of_ble_eq_true rfl⟩ (fun _ H locs hP hD hS => ?_)
  have hP : va_P D vwCl [(h0, .inr (4, [.ref aM, .ref aK, .ref aG, .ref aE, .int (nI n), .ref aRi, .ref aCh, .ref aWo, .ref aNu, .ref aAn, .int (nI rs), .int (nI ss), .int (nI att)])), (aRi, kd_ar cI n b0), (aAn, kd_ar cI n an), (aK, .inr (1, [.ref aM, .ref aR, .ref aC, .ref aV, .ref aS, .int (nI held), .int (nI (prod + 1))])), (aM, .inr (2, [.int (nI P)])), (aR, kd_ar cI room rows), (aC, kd_ar cI room cols), (aV, kd_ar cI room vals), (aS, kd_ar cI n (pAcc P rows cols vals an held)), (aWo, kd_ar cI n (pAcc P rows cols vals an held))] H := hP
  have hD : va_D A [(h0, .inr (4, [.ref aM, .ref aK, .ref aG, .ref aE, .int (nI n), .ref aRi, .ref aCh, .ref aWo, .ref aNu, .ref aAn, .int (nI rs), .int (nI ss), .int (nI att)])), (aRi, kd_ar cI n b0), (aAn, kd_ar cI n an), (aK, .inr (1, [.ref aM, .ref aR, .ref aC, .ref aV, .ref aS, .int (nI held), .int (nI (prod + 1))])), (aM, .inr (2, [.int (nI P)])), (aR, kd_ar cI room rows), (aC, kd_ar cI room cols), (aV, kd_ar cI room vals), (aS, kd_ar cI n (pAcc P rows cols vals an held)), (aWo, kd_ar cI n (pAcc P rows cols vals an held))] := hD
  refine lv_iconst (v := (nI 0)) hx hb dX4_answerMeetsRight_28 (by decide) ?_
  refine lv_istore_n (lv' := [(1, .int (nI 0)), (0, .ref h0)]) hx hb dX4_answerMeetsRight_29 rfl hl (by decide) rfl (fun ls hl => ?_)
  have lp : ∀ (k_lp : Nat) (i : Nat) (H : Heap) (locs : List Loc) (ls : Array Slot), (n - i < k_lp) → (i ≤ n) → (∀ j, j < i → pAcc P rows cols vals an held j = b0 j) → va_P D vwCl [(h0, .inr (4, [.ref aM, .ref aK, .ref aG, .ref aE, .int (nI n), .ref aRi, .ref aCh, .ref aWo, .ref aNu, .ref aAn, .int (nI rs), .int (nI ss), .int (nI att)])), (aM, .inr (2, [.int (nI P)])), (aK, .inr (1, [.ref aM, .ref aR, .ref aC, .ref aV, .ref aS, .int (nI held), .int (nI (prod + 1))])), (aR, kd_ar cI room rows), (aC, kd_ar cI room cols), (aV, kd_ar cI room vals), (aS, kd_ar cI n (pAcc P rows cols vals an held)), (aRi, kd_ar cI n b0), (aWo, kd_ar cI n (pAcc P rows cols vals an held)), (aAn, kd_ar cI n an)] H → va_D A [(h0, .inr (4, [.ref aM, .ref aK, .ref aG, .ref aE, .int (nI n), .ref aRi, .ref aCh, .ref aWo, .ref aNu, .ref aAn, .int (nI rs), .int (nI ss), .int (nI att)])), (aM, .inr (2, [.int (nI P)])), (aK, .inr (1, [.ref aM, .ref aR, .ref aC, .ref aV, .ref aS, .int (nI held), .int (nI (prod + 1))])), (aR, kd_ar cI room rows), (aC, kd_ar cI room cols), (aV, kd_ar cI room vals), (aS, kd_ar cI n (pAcc P rows cols vals an held)), (aRi, kd_ar cI n b0), (aWo, kd_ar cI n (pAcc P rows cols vals an held)), (aAn, kd_ar cI n an)] → va_S A s.heap H locs → lv_has ls 2 [(1, .int (nI i)), (0, .ref h0)] → W p l e { frames := 2, cells := 0, slots := 0, locals := 87 } s m args below meth c H locs 0 0 Q (F0 m 30 ls []) := by
    intro k_lp
    induction k_lp with
    | zero => intro i H locs ls i1 i2 i3 hP hD hS hl; omega
    | succ k_lp ih_lp =>
      intro i H locs ls i1 i2 i3 hP hD hS hl
      refine lv_iload_n hx hb dX4_answerMeetsRight_30 rfl (lv_at hl 0 rfl) ?_
      refine lv_aload_n hx hb dX4_answerMeetsRight_31 rfl (lv_at hl 1 rfl) ?_
      refine va_get (D := D) (ci := 4) (v := .int (nI n)) (C := RX4) (T := TX4) (N := 13) hx hb hts i_X4 hown hK hP 0 rfl rfl 4 (by decide) fl13 (fun _ h9 => h9) rfl dX4_answerMeetsRight_32 ?_
      refine kd_ge (tgt := 61) hx hb dX4_answerMeetsRight_35 (by decide) (by omega) (by omega) (fun c_35 => ?_) (fun c_35 => ?_)
      · skip
        refine lv_iconst (v := (nI 1)) hx hb dX4_answerMeetsRight_61 (by decide) ?_
        exact ret ((pAcc P rows cols vals an held), (pAcc P rows cols vals an held)) _ _ _ _ _ dX4_answerMeetsRight_62 (by rw [pB_t (fun j hj => i3 j (by omega))]) hS (hP.sub [0, 1, 2, 3, 4, 5, 6, 7, 8, 9] rfl) (hD.sub [0, 1, 2, 3, 4, 5, 6, 7, 8, 9] (by decide) rfl)
      · skip
        refine lv_aload_n hx hb dX4_answerMeetsRight_38 rfl (lv_at hl 1 rfl) ?_
        refine va_get (D := D) (ci := 4) (v := .ref aWo) (C := RX4) (T := TX4) (N := 13) hx hb hts i_X4 hown hK hP 0 rfl rfl 7 (by decide) fl63 (fun _ h9 => h9) rfl dX4_answerMeetsRight_39 ?_
        refine lv_iload_n hx hb dX4_answerMeetsRight_42 rfl (lv_at hl 0 rfl) ?_
        refine kd_ald hx hb hK hP 8 rfl i (by omega) (by omega) dX4_answerMeetsRight_43 ?_
        refine lv_aload_n hx hb dX4_answerMeetsRight_44 rfl (lv_at hl 1 rfl) ?_
        refine va_get (D := D) (ci := 4) (v := .ref aRi) (C := RX4) (T := TX4) (N := 13) hx hb hts i_X4 hown hK hP 0 rfl rfl 5 (by decide) fl56 (fun _ h9 => h9) rfl dX4_answerMeetsRight_45 ?_
        refine lv_iload_n hx hb dX4_answerMeetsRight_48 rfl (lv_at hl 0 rfl) ?_
        refine kd_ald hx hb hK hP 7 rfl i (by omega) (by omega) dX4_answerMeetsRight_49 ?_
        refine kd_eq (tgt := 55) hx hb dX4_answerMeetsRight_50 (by decide) (by have := pAcc_lt (P := P) (by omega) rows cols vals an held i; omega) (by have := g10 i (by omega); omega) (fun c_50 => ?_) (fun c_50 => ?_)
        · skip
          refine lv_iinc (v := (nI (i + 1))) (lv' := [(1, .int (nI (i + 1))), (0, .ref h0)]) hx hb dX4_answerMeetsRight_55 hl (k := 0) rfl (nI_1 _) (by decide) rfl (fun ls hl => ?_)
          refine lv_goto (tgt := 30) hx hb dX4_answerMeetsRight_58 (by decide) ?_
          exact ih_lp (i + 1) _ _ _ (by omega) (by omega) (lt_s (p := fun j => pAcc P rows cols vals an held j = b0 j) i3 c_50) (hP.sub [0, 1, 2, 3, 4, 5, 6, 7, 8, 9] rfl) (hD.sub [0, 1, 2, 3, 4, 5, 6, 7, 8, 9] (by decide) rfl) hS (lv_sub hl [0, 1] rfl)
        · skip
          refine lv_iconst (v := (nI 0)) hx hb dX4_answerMeetsRight_53 (by decide) ?_
          exact ret ((pAcc P rows cols vals an held), (pAcc P rows cols vals an held)) _ _ _ _ _ dX4_answerMeetsRight_54 (by rw [pB_f (fun q => c_50 (q i (by omega)))]) hS (hP.sub [0, 1, 2, 3, 4, 5, 6, 7, 8, 9] rfl) (hD.sub [0, 1, 2, 3, 4, 5, 6, 7, 8, 9] (by decide) rfl)
  exact lp (n + 1) 0 _ _ _ (by omega) (by omega) (fun j hj => by omega) (hP.sub [0, 4, 3, 5, 6, 7, 8, 1, 9, 2] rfl) (hD.sub [0, 4, 3, 5, 6, 7, 8, 1, 9, 2] (by decide) rfl) hS (lv_sub hl [0, 1] rfl)

set_option maxHeartbeats 4000000 in
set_option maxRecDepth 100000 in
/-- the candidate -/
theorem c_X4_makeCandidate (l : Launch) (D : va_G) (cI cJ : ClassId) (h0 aM aK aG aE aRi aCh aWo aNu aAn : Nat) (aR aC aV aS : Nat) (tC tB tT : Nat) (P n room held prod : Nat) (rows cols vals sums : Nat → Nat) (rs ss att L sh em : Nat) (b0 wo an C : Nat → Nat) (g : pOK P n room held rows cols vals b0) (g11 : L ≤ 2 * n) (g12 : ∀ j, C j < P) : kd_MV (S := (Nat → Nat) × (Nat → Nat)) l yX4_makeCandidate wsX4_makeCandidate { frames := 2, cells := 0, slots := 0, locals := 87 } [.ref h0] D vwCl cI cJ [(h0, .inr (4, [.ref aM, .ref aK, .ref aG, .ref aE, .int (nI n), .ref aRi, .ref aCh, .ref aWo, .ref aNu, .ref aAn, .int (nI rs), .int (nI ss), .int (nI att)])), (aM, .inr (2, [.int (nI P)])), (aK, .inr (1, [.ref aM, .ref aR, .ref aC, .ref aV, .ref aS, .int (nI held), .int (nI prod)])), (aR, kd_ar cI room rows), (aC, kd_ar cI room cols), (aV, kd_ar cI room vals), (aS, kd_ar cI n sums), (aE, .inr (3, [.ref aM, .ref tC, .ref tB, .ref tT, .int (nI L), .int (nI sh), .int (nI em)])), (tC, kd_ar cI (2 * n + 1) C), (aRi, kd_ar cI n b0), (aWo, kd_ar cI n wo), (aAn, kd_ar cI n an)] (fun u9 => [(h0, .inr (4, [.ref aM, .ref aK, .ref aG, .ref aE, .int (nI n), .ref aRi, .ref aCh, .ref aWo, .ref aNu, .ref aAn, .int (nI rs), .int (nI ss), .int (nI att)])), (aM, .inr (2, [.int (nI P)])), (aK, .inr (1, [.ref aM, .ref aR, .ref aC, .ref aV, .ref aS, .int (nI held), .int (nI (prod + (L - 1)))])), (aR, kd_ar cI room rows), (aC, kd_ar cI room cols), (aV, kd_ar cI room vals), (aS, kd_ar cI n u9.1), (aE, .inr (3, [.ref aM, .ref tC, .ref tB, .ref tT, .int (nI L), .int (nI sh), .int (nI em)])), (tC, kd_ar cI (2 * n + 1) C), (aRi, kd_ar cI n b0), (aWo, kd_ar cI n u9.2), (aAn, kd_ar cI n (pCand P rows cols vals held b0 C L))]) 0 0 := by
  refine kd_enterV (cc := cX4_makeCandidate) (maxL := 3) (by decide) rfl (Nat.le_of_ble_eq_true rfl) ?_
  intro p e s m args below meth c A ls Q hx hb hr hts hown hlk hnm hml hP hK hD hA hS hl ret
  have hl : lv_has ls 3 [(0, .ref h0)] := hl
  have hown : s.vm.findClass RX4 = some m.cls := hown
  have i_X4 : ∀ w ∈ wsX40, w ∈ wsX4_makeCandidate := by decide +kernel
  have fl52 := hts (.fieldLink RX4 52 "KrylovDesk" "recurrence" "LKrylovDesk$Recurrence;") (by decide +kernel)
  have i_X3 : ∀ w ∈ wsX30, w ∈ wsX4_makeCandidate := by decide +kernel
  have fl113 := hts (.fieldLink RX4 113 "KrylovDesk$Recurrence" "length" "I") (by decide +kernel)
  have fl56 := hts (.fieldLink RX4 56 "KrylovDesk" "right" "[I") (by decide +kernel)
  have fl63 := hts (.fieldLink RX4 63 "KrylovDesk" "work" "[I") (by decide +kernel)
  have fl13 := hts (.fieldLink RX4 13 "KrylovDesk" "size" "I") (by decide +kernel)
  have fl27 := hts (.fieldLink RX4 27 "KrylovDesk" "modulus" "LKrylovDesk$Modulus;") (by decide +kernel)
  have fl69 := hts (.fieldLink RX4 69 "KrylovDesk" "answer" "[I") (by decide +kernel)
  have fl36 := hts (.fieldLink RX4 36 "KrylovDesk" "matrix" "LKrylovDesk$Matrix;") (by decide +kernel)
  obtain ⟨g1, g2, g3, g4, g5, g6, g7, g8, g9, g10⟩ := g
  refine lv_aload_n hx hb dX4_makeCandidate_0 rfl (lv_at hl 0 rfl) ?_
  refine va_get (D := D) (ci := 4) (v := .ref aE) (C := RX4) (T := TX4) (N := 13) hx hb hts i_X4 hown hK hP 0 rfl rfl 3 (by decide) fl52 (fun _ h9 => h9) rfl dX4_makeCandidate_1 ?_
  refine va_get (D := D) (ci := 3) (v := .int (nI L)) (C := RX3) (T := TX3) (N := 7) hx hb hts i_X3 hown hK hP 7 rfl rfl 4 (by decide) fl113 (fun _ h9 => h9) rfl dX4_makeCandidate_4 ?_
  refine kd_ne0 (tgt := 19) hx hb dX4_makeCandidate_7 (by decide) (by omega) (fun c_7 => ?_) (fun c_7 => ?_)
  · skip
    refine lv_aload_n hx hb dX4_makeCandidate_19 rfl (lv_at hl 0 rfl) ?_
    refine va_get (D := D) (ci := 4) (v := .ref aRi) (C := RX4) (T := TX4) (N := 13) hx hb hts i_X4 hown hK hP 0 rfl rfl 5 (by decide) fl56 (fun _ h9 => h9) rfl dX4_makeCandidate_20 ?_
    refine lv_iconst (v := (nI 0)) hx hb dX4_makeCandidate_23 (by decide) ?_
    refine lv_aload_n hx hb dX4_makeCandidate_24 rfl (lv_at hl 0 rfl) ?_
    refine va_get (D := D) (ci := 4) (v := .ref aWo) (C := RX4) (T := TX4) (N := 13) hx hb hts i_X4 hown hK hP 0 rfl rfl 7 (by decide) fl63 (fun _ h9 => h9) rfl dX4_makeCandidate_25 ?_
    refine lv_iconst (v := (nI 0)) hx hb dX4_makeCandidate_28 (by decide) ?_
    refine lv_aload_n hx hb dX4_makeCandidate_29 rfl (lv_at hl 0 rfl) ?_
    refine va_get (D := D) (ci := 4) (v := .int (nI n)) (C := RX4) (T := TX4) (N := 13) hx hb hts i_X4 hown hK hP 0 rfl rfl 4 (by decide) fl13 (fun _ h9 => h9) rfl dX4_makeCandidate_30 ?_
    refine kd_copy hx hb (hml.trans hl.1.symm) hown (hts (.methodLink RX4 147 arraycopyName) (by decide +kernel)) (hts (.native arraycopyName) (by decide +kernel)) (hts (.static arraycopyName) (by decide +kernel)) (hts (.initialized "java/lang/System") (by decide +kernel)) hK hP hD hS 9 10 rfl rfl (by omega) (by omega) (by omega) (Nat.le_of_ble_eq_true rfl) (by decide) dX4_makeCandidate_33 (fun H locs hP hD hS => ?_)
    have hP : va_P D vwCl [(h0, .inr (4, [.ref aM, .ref aK, .ref aG, .ref aE, .int (nI n), .ref aRi, .ref aCh, .ref aWo, .ref aNu, .ref aAn, .int (nI rs), .int (nI ss), .int (nI att)])), (aM, .inr (2, [.int (nI P)])), (aK, .inr (1, [.ref aM, .ref aR, .ref aC, .ref aV, .ref aS, .int (nI held), .int (nI prod)])), (aR, kd_ar cI room rows), (aC, kd_ar cI room cols), (aV, kd_ar cI room vals), (aS, kd_ar cI n sums), (aE, .inr (3, [.ref aM, .ref tC, .ref tB, .ref tT, .int (nI L), .int (nI sh), .int (nI em)])), (tC, kd_ar cI (2 * n + 1) C), (aRi, kd_ar cI n b0), (aWo, kd_ar cI n (va_cpy b0 wo 0 0 n)), (aAn, kd_ar cI n an)] H := hP
    have hD : va_D A [(h0, .inr (4, [.ref aM, .ref aK, .ref aG, .ref aE, .int (nI n), .ref aRi, .ref aCh, .ref aWo, .ref aNu, .ref aAn, .int (nI rs), .int (nI ss), .int (nI att)])), (aM, .inr (2, [.int (nI P)])), (aK, .inr (1, [.ref aM, .ref aR, .ref aC, .ref aV, .ref aS, .int (nI held), .int (nI prod)])), (aR, kd_ar cI room rows), (aC, kd_ar cI room cols), (aV, kd_ar cI room vals), (aS, kd_ar cI n sums), (aE, .inr (3, [.ref aM, .ref tC, .ref tB, .ref tT, .int (nI L), .int (nI sh), .int (nI em)])), (tC, kd_ar cI (2 * n + 1) C), (aRi, kd_ar cI n b0), (aWo, kd_ar cI n (va_cpy b0 wo 0 0 n)), (aAn, kd_ar cI n an)] := hD
    obtain ⟨hP, hD⟩ := kd_swap (g := (pWk P rows cols vals held b0 C 0)) hP hD 10 rfl (fun j hj => cpy_all hj)
    have hP : va_P D vwCl [(h0, .inr (4, [.ref aM, .ref aK, .ref aG, .ref aE, .int (nI n), .ref aRi, .ref aCh, .ref aWo, .ref aNu, .ref aAn, .int (nI rs), .int (nI ss), .int (nI att)])), (aM, .inr (2, [.int (nI P)])), (aK, .inr (1, [.ref aM, .ref aR, .ref aC, .ref aV, .ref aS, .int (nI held), .int (nI prod)])), (aR, kd_ar cI room rows), (aC, kd_ar cI room cols), (aV, kd_ar cI room vals), (aS, kd_ar cI n sums), (aE, .inr (3, [.ref aM, .ref tC, .ref tB, .ref tT, .int (nI L), .int (nI sh), .int (nI em)])), (tC, kd_ar cI (2 * n + 1) C), (aRi, kd_ar cI n b0), (aWo, kd_ar cI n (pWk P rows cols vals held b0 C 0)), (aAn, kd_ar cI n an)] H := hP
    have hD : va_D A [(h0, .inr (4, [.ref aM, .ref aK, .ref aG, .ref aE, .int (nI n), .ref aRi, .ref aCh, .ref aWo, .ref aNu, .ref aAn, .int (nI rs), .int (nI ss), .int (nI att)])), (aM, .inr (2, [.int (nI P)])), (aK, .inr (1, [.ref aM, .ref aR, .ref aC, .ref aV, .ref aS, .int (nI held), .int (nI prod)])), (aR, kd_ar cI room rows), (aC, kd_ar cI room cols), (aV, kd_ar cI room vals), (aS, kd_ar cI n sums), (aE, .inr (3, [.ref aM, .ref tC, .ref tB, .ref tT, .int (nI L), .int (nI sh), .int (nI em)])), (tC, kd_ar cI (2 * n + 1) C), (aRi, kd_ar cI n b0), (aWo, kd_ar cI n (pWk P rows cols vals held b0 C 0)), (aAn, kd_ar cI n an)] := hD
    refine lv_iconst (v := (nI 1)) hx hb dX4_makeCandidate_36 (by decide) ?_
    refine lv_istore_n (lv' := [(1, .int (nI 1)), (0, .ref h0)]) hx hb dX4_makeCandidate_37 rfl hl (by decide) rfl (fun ls hl => ?_)
    have lp : ∀ (k_lp : Nat) (i0 : Nat) (sm : Nat → Nat) (H : Heap) (locs : List Loc) (ls : Array Slot), (L - i0 < k_lp) → (i0 + 1 ≤ L) → va_P D vwCl [(h0, .inr (4, [.ref aM, .ref aK, .ref aG, .ref aE, .int (nI n), .ref aRi, .ref aCh, .ref aWo, .ref aNu, .ref aAn, .int (nI rs), .int (nI ss), .int (nI att)])), (aM, .inr (2, [.int (nI P)])), (aK, .inr (1, [.ref aM, .ref aR, .ref aC, .ref aV, .ref aS, .int (nI held), .int (nI (prod + i0))])), (aR, kd_ar cI room rows), (aC, kd_ar cI room cols), (aV, kd_ar cI room vals), (aS, kd_ar cI n sm), (aE, .inr (3, [.ref aM, .ref tC, .ref tB, .ref tT, .int (nI L), .int (nI sh), .int (nI em)])), (tC, kd_ar cI (2 * n + 1) C), (aRi, kd_ar cI n b0), (aWo, kd_ar cI n (pWk P rows cols vals held b0 C i0)), (aAn, kd_ar cI n an)] H → va_D A [(h0, .inr (4, [.ref aM, .ref aK, .ref aG, .ref aE, .int (nI n), .ref aRi, .ref aCh, .ref aWo, .ref aNu, .ref aAn, .int (nI rs), .int (nI ss), .int (nI att)])), (aM, .inr (2, [.int (nI P)])), (aK, .inr (1, [.ref aM, .ref aR, .ref aC, .ref aV, .ref aS, .int (nI held), .int (nI (prod + i0))])), (aR, kd_ar cI room rows), (aC, kd_ar cI room cols), (aV, kd_ar cI room vals), (aS, kd_ar cI n sm), (aE, .inr (3, [.ref aM, .ref tC, .ref tB, .ref tT, .int (nI L), .int (nI sh), .int (nI em)])), (tC, kd_ar cI (2 * n + 1) C), (aRi, kd_ar cI n b0), (aWo, kd_ar cI n (pWk P rows cols vals held b0 C i0)), (aAn, kd_ar cI n an)] → va_S A s.heap H locs → lv_has ls 3 [(1, .int (nI (i0 + 1))), (0, .ref h0)] → W p l e { frames := 2, cells := 0, slots := 0, locals := 87 } s m args below meth c H locs 0 0 Q (F0 m 38 ls []) := by
      intro k_lp
      induction k_lp with
      | zero => intro i0 sm H locs ls i1 i2 hP hD hS hl; omega
      | succ k_lp ih_lp =>
        intro i0 sm H locs ls i1 i2 hP hD hS hl
        refine lv_iload_n hx hb dX4_makeCandidate_38 rfl (lv_at hl 0 rfl) ?_
        refine lv_aload_n hx hb dX4_makeCandidate_39 rfl (lv_at hl 1 rfl) ?_
        refine va_get (D := D) (ci := 4) (v := .ref aE) (C := RX4) (T := TX4) (N := 13) hx hb hts i_X4 hown hK hP 0 rfl rfl 3 (by decide) fl52 (fun _ h9 => h9) rfl dX4_makeCandidate_40 ?_
        refine va_get (D := D) (ci := 3) (v := .int (nI L)) (C := RX3) (T := TX3) (N := 7) hx hb hts i_X3 hown hK hP 7 rfl rfl 4 (by decide) fl113 (fun _ h9 => h9) rfl dX4_makeCandidate_43 ?_
        refine kd_ge (tgt := 78) hx hb dX4_makeCandidate_46 (by decide) (by omega) (by omega) (fun c_46 => ?_) (fun c_46 => ?_)
        · skip
          refine lv_aload_n hx hb dX4_makeCandidate_78 rfl (lv_at hl 1 rfl) ?_
          refine va_get (D := D) (ci := 4) (v := .ref aM) (C := RX4) (T := TX4) (N := 13) hx hb hts i_X4 hown hK hP 0 rfl rfl 0 (by decide) fl27 (fun _ h9 => h9) rfl dX4_makeCandidate_79 ?_
          refine lv_aload_n hx hb dX4_makeCandidate_82 rfl (lv_at hl 1 rfl) ?_
          refine va_get (D := D) (ci := 4) (v := .ref aM) (C := RX4) (T := TX4) (N := 13) hx hb hts i_X4 hown hK hP 0 rfl rfl 0 (by decide) fl27 (fun _ h9 => h9) rfl dX4_makeCandidate_83 ?_
          refine lv_aload_n hx hb dX4_makeCandidate_86 rfl (lv_at hl 1 rfl) ?_
          refine va_get (D := D) (ci := 4) (v := .ref aE) (C := RX4) (T := TX4) (N := 13) hx hb hts i_X4 hown hK hP 0 rfl rfl 3 (by decide) fl52 (fun _ h9 => h9) rfl dX4_makeCandidate_87 ?_
          refine kd_VI (As := []) (rest := [.ref aM, .ref aM]) (Wr := [(h0, .inr (4, [.ref aM, .ref aK, .ref aG, .ref aE, .int (nI n), .ref aRi, .ref aCh, .ref aWo, .ref aNu, .ref aAn, .int (nI rs), .int (nI ss), .int (nI att)])), (aM, .inr (2, [.int (nI P)])), (aK, .inr (1, [.ref aM, .ref aR, .ref aC, .ref aV, .ref aS, .int (nI held), .int (nI (prod + i0))])), (aR, kd_ar cI room rows), (aC, kd_ar cI room cols), (aV, kd_ar cI room vals), (aS, kd_ar cI n sm), (aRi, kd_ar cI n b0), (aWo, kd_ar cI n (pWk P rows cols vals held b0 C i0)), (aAn, kd_ar cI n an)]) ⟨hx, hb, hml, hown, hts⟩ (c_X3_lastTerm l D cI cJ aE aM tC tB tT (2 * n + 1) L sh em C (by omega) (by omega)) (cwV 0 hts gX4_makeCandidate_X3_lastTerm rfl rfl rfl (by decide +kernel) ⟨Nat.le_of_ble_eq_true rfl, Nat.le_of_ble_eq_true rfl⟩) hK hP hD hS hA [7, 8] [0, 1, 2, 3, 4, 5, 6, 9, 10, 11] rfl rfl (by decide) (by decide) 0 rfl rfl rfl rfl hl.1 (Nat.le_of_ble_eq_true rfl) dX4_makeCandidate_90 ⟨Nat.le_of_ble_eq_true rfl, Nat.le_of_ble_eq_true rfl⟩ (fun _ H locs hP hD hS => ?_)
          have hP : va_P D vwCl [(h0, .inr (4, [.ref aM, .ref aK, .ref aG, .ref aE, .int (nI n), .ref aRi, .ref aCh, .ref aWo, .ref aNu, .ref aAn, .int (nI rs), .int (nI ss), .int (nI att)])), (aM, .inr (2, [.int (nI P)])), (aK, .inr (1, [.ref aM, .ref aR, .ref aC, .ref aV, .ref aS, .int (nI held), .int (nI (prod + i0))])), (aR, kd_ar cI room rows), (aC, kd_ar cI room cols), (aV, kd_ar cI room vals), (aS, kd_ar cI n sm), (aRi, kd_ar cI n b0), (aWo, kd_ar cI n (pWk P rows cols vals held b0 C i0)), (aAn, kd_ar cI n an), (aE, .inr (3, [.ref aM, .ref tC, .ref tB, .ref tT, .int (nI L), .int (nI sh), .int (nI em)])), (tC, kd_ar cI (2 * n + 1) C)] H := hP
          have hD : va_D A [(h0, .inr (4, [.ref aM, .ref aK, .ref aG, .ref aE, .int (nI n), .ref aRi, .ref aCh, .ref aWo, .ref aNu, .ref aAn, .int (nI rs), .int (nI ss), .int (nI att)])), (aM, .inr (2, [.int (nI P)])), (aK, .inr (1, [.ref aM, .ref aR, .ref aC, .ref aV, .ref aS, .int (nI held), .int (nI (prod + i0))])), (aR, kd_ar cI room rows), (aC, kd_ar cI room cols), (aV, kd_ar cI room vals), (aS, kd_ar cI n sm), (aRi, kd_ar cI n b0), (aWo, kd_ar cI n (pWk P rows cols vals held b0 C i0)), (aAn, kd_ar cI n an), (aE, .inr (3, [.ref aM, .ref tC, .ref tB, .ref tT, .int (nI L), .int (nI sh), .int (nI em)])), (tC, kd_ar cI (2 * n + 1) C)] := hD
          refine kd_VI (As := [.int (nI (C L))]) (rest := [.ref aM]) (Wr := [(h0, .inr (4, [.ref aM, .ref aK, .ref aG, .ref aE, .int (nI n), .ref aRi, .ref aCh, .ref aWo, .ref aNu, .ref aAn, .int (nI rs), .int (nI ss), .int (nI att)])), (aK, .inr (1, [.ref aM, .ref aR, .ref aC, .ref aV, .ref aS, .int (nI held), .int (nI (prod + i0))])), (aR, kd_ar cI room rows), (aC, kd_ar cI room cols), (aV, kd_ar cI room vals), (aS, kd_ar cI n sm), (aRi, kd_ar cI n b0), (aWo, kd_ar cI n (pWk P rows cols vals held b0 C i0)), (aAn, kd_ar cI n an), (aE, .inr (3, [.ref aM, .ref tC, .ref tB, .ref tT, .int (nI L), .int (nI sh), .int (nI em)])), (tC, kd_ar cI (2 * n + 1) C)]) ⟨hx, hb, hml, hown, hts⟩ (c_X2_negative l D cI cJ aM P (C L) g1 g2 (g12 _)) (cwV 1 hts gX4_makeCandidate_X2_negative rfl rfl rfl (by decide +kernel) ⟨Nat.le_of_ble_eq_true rfl, Nat.le_of_ble_eq_true rfl⟩) hK hP hD hS hA [1] [0, 2, 3, 4, 5, 6, 7, 8, 9, 10, 11] rfl rfl (by decide) (by decide) 0 rfl rfl rfl rfl hl.1 (Nat.le_of_ble_eq_true rfl) dX4_makeCandidate_93 ⟨Nat.le_of_ble_eq_true rfl, Nat.le_of_ble_eq_true rfl⟩ (fun _ H locs hP hD hS => ?_)
          have hP : va_P D vwCl [(h0, .inr (4, [.ref aM, .ref aK, .ref aG, .ref aE, .int (nI n), .ref aRi, .ref aCh, .ref aWo, .ref aNu, .ref aAn, .int (nI rs), .int (nI ss), .int (nI att)])), (aK, .inr (1, [.ref aM, .ref aR, .ref aC, .ref aV, .ref aS, .int (nI held), .int (nI (prod + i0))])), (aR, kd_ar cI room rows), (aC, kd_ar cI room cols), (aV, kd_ar cI room vals), (aS, kd_ar cI n sm), (aRi, kd_ar cI n b0), (aWo, kd_ar cI n (pWk P rows cols vals held b0 C i0)), (aAn, kd_ar cI n an), (aE, .inr (3, [.ref aM, .ref tC, .ref tB, .ref tT, .int (nI L), .int (nI sh), .int (nI em)])), (tC, kd_ar cI (2 * n + 1) C), (aM, .inr (2, [.int (nI P)]))] H := hP
          have hD : va_D A [(h0, .inr (4, [.ref aM, .ref aK, .ref aG, .ref aE, .int (nI n), .ref aRi, .ref aCh, .ref aWo, .ref aNu, .ref aAn, .int (nI rs), .int (nI ss), .int (nI att)])), (aK, .inr (1, [.ref aM, .ref aR, .ref aC, .ref aV, .ref aS, .int (nI held), .int (nI (prod + i0))])), (aR, kd_ar cI room rows), (aC, kd_ar cI room cols), (aV, kd_ar cI room vals), (aS, kd_ar cI n sm), (aRi, kd_ar cI n b0), (aWo, kd_ar cI n (pWk P rows cols vals held b0 C i0)), (aAn, kd_ar cI n an), (aE, .inr (3, [.ref aM, .ref tC, .ref tB, .ref tT, .int (nI L), .int (nI sh), .int (nI em)])), (tC, kd_ar cI (2 * n + 1) C), (aM, .inr (2, [.int (nI P)]))] := hD
          refine kd_VI (As := [.int (nI (pNeg P (C L)))]) (rest := []) (Wr := [(h0, .inr (4, [.ref aM, .ref aK, .ref aG, .ref aE, .int (nI n), .ref aRi, .ref aCh, .ref aWo, .ref aNu, .ref aAn, .int (nI rs), .int (nI ss), .int (nI att)])), (aK, .inr (1, [.ref aM, .ref aR, .ref aC, .ref aV, .ref aS, .int (nI held), .int (nI (prod + i0))])), (aR, kd_ar cI room rows), (aC, kd_ar cI room cols), (aV, kd_ar cI room vals), (aS, kd_ar cI n sm), (aRi, kd_ar cI n b0), (aWo, kd_ar cI n (pWk P rows cols vals held b0 C i0)), (aAn, kd_ar cI n an), (aE, .inr (3, [.ref aM, .ref tC, .ref tB, .ref tT, .int (nI L), .int (nI sh), .int (nI em)])), (tC, kd_ar cI (2 * n + 1) C)]) ⟨hx, hb, hml, hown, hts⟩ (c_X2_inverse l D cI cJ aM P (pNeg P (C L)) g1 g2 (pNeg_lt (by omega))) (cwV 1 hts gX4_makeCandidate_X2_inverse rfl rfl rfl (by decide +kernel) ⟨Nat.le_of_ble_eq_true rfl, Nat.le_of_ble_eq_true rfl⟩) hK hP hD hS hA [11] [0, 1, 2, 3, 4, 5, 6, 7, 8, 9, 10] rfl rfl (by decide) (by decide) 0 rfl rfl rfl rfl hl.1 (Nat.le_of_ble_eq_true rfl) dX4_makeCandidate_96 ⟨Nat.le_of_ble_eq_true rfl, Nat.le_of_ble_eq_true rfl⟩ (fun _ H locs hP hD hS => ?_)
          have hP : va_P D vwCl [(h0, .inr (4, [.ref aM, .ref aK, .ref aG, .ref aE, .int (nI n), .ref aRi, .ref aCh, .ref aWo, .ref aNu, .ref aAn, .int (nI rs), .int (nI ss), .int (nI att)])), (aK, .inr (1, [.ref aM, .ref aR, .ref aC, .ref aV, .ref aS, .int (nI held), .int (nI (prod + i0))])), (aR, kd_ar cI room rows), (aC, kd_ar cI room cols), (aV, kd_ar cI room vals), (aS, kd_ar cI n sm), (aRi, kd_ar cI n b0), (aWo, kd_ar cI n (pWk P rows cols vals held b0 C i0)), (aAn, kd_ar cI n an), (aE, .inr (3, [.ref aM, .ref tC, .ref tB, .ref tT, .int (nI L), .int (nI sh), .int (nI em)])), (tC, kd_ar cI (2 * n + 1) C), (aM, .inr (2, [.int (nI P)]))] H := hP
          have hD : va_D A [(h0, .inr (4, [.ref aM, .ref aK, .ref aG, .ref aE, .int (nI n), .ref aRi, .ref aCh, .ref aWo, .ref aNu, .ref aAn, .int (nI rs), .int (nI ss), .int (nI att)])), (aK, .inr (1, [.ref aM, .ref aR, .ref aC, .ref aV, .ref aS, .int (nI held), .int (nI (prod + i0))])), (aR, kd_ar cI room rows), (aC, kd_ar cI room cols), (aV, kd_ar cI room vals), (aS, kd_ar cI n sm), (aRi, kd_ar cI n b0), (aWo, kd_ar cI n (pWk P rows cols vals held b0 C i0)), (aAn, kd_ar cI n an), (aE, .inr (3, [.ref aM, .ref tC, .ref tB, .ref tT, .int (nI L), .int (nI sh), .int (nI em)])), (tC, kd_ar cI (2 * n + 1) C), (aM, .inr (2, [.int (nI P)]))] := hD
          refine lv_istore_n (lv' := [(1, .int (nI (pInv P (pNeg P (C L))))), (0, .ref h0)]) hx hb dX4_makeCandidate_99 rfl hl (by decide) rfl (fun ls hl => ?_)
          refine lv_iconst (v := (nI 0)) hx hb dX4_makeCandidate_100 (by decide) ?_
          refine lv_istore_n (lv' := [(2, .int (nI 0)), (1, .int (nI (pInv P (pNeg P (C L))))), (0, .ref h0)]) hx hb dX4_makeCandidate_101 rfl hl (by decide) rfl (fun ls hl => ?_)
          have e9 : i0 = L - 1 := by omega
          rw [e9] at hP hD
          have lq : ∀ (k_lq : Nat) (i : Nat) (x : Nat → Nat) (H : Heap) (locs : List Loc) (ls : Array Slot), (n - i < k_lq) → (i ≤ n) → (∀ j, j < i → x j = (fun j => (0 + pWk P rows cols vals held b0 C (L - 1) j * pInv P (pNeg P (C L))) % P) j) → va_P D vwCl [(h0, .inr (4, [.ref aM, .ref aK, .ref aG, .ref aE, .int (nI n), .ref aRi, .ref aCh, .ref aWo, .ref aNu, .ref aAn, .int (nI rs), .int (nI ss), .int (nI att)])), (aM, .inr (2, [.int (nI P)])), (aK, .inr (1, [.ref aM, .ref aR, .ref aC, .ref aV, .ref aS, .int (nI held), .int (nI (prod + (L - 1)))])), (aR, kd_ar cI room rows), (aC, kd_ar cI room cols), (aV, kd_ar cI room vals), (aS, kd_ar cI n sm), (aE, .inr (3, [.ref aM, .ref tC, .ref tB, .ref tT, .int (nI L), .int (nI sh), .int (nI em)])), (tC, kd_ar cI (2 * n + 1) C), (aRi, kd_ar cI n b0), (aWo, kd_ar cI n (pWk P rows cols vals held b0 C (L - 1))), (aAn, kd_ar cI n x)] H → va_D A [(h0, .inr (4, [.ref aM, .ref aK, .ref aG, .ref aE, .int (nI n), .ref aRi, .ref aCh, .ref aWo, .ref aNu, .ref aAn, .int (nI rs), .int (nI ss), .int (nI att)])), (aM, .inr (2, [.int (nI P)])), (aK, .inr (1, [.ref aM, .ref aR, .ref aC, .ref aV, .ref aS, .int (nI held), .int (nI (prod + (L - 1)))])), (aR, kd_ar cI room rows), (aC, kd_ar cI room cols), (aV, kd_ar cI room vals), (aS, kd_ar cI n sm), (aE, .inr (3, [.ref aM, .ref tC, .ref tB, .ref tT, .int (nI L), .int (nI sh), .int (nI em)])), (tC, kd_ar cI (2 * n + 1) C), (aRi, kd_ar cI n b0), (aWo, kd_ar cI n (pWk P rows cols vals held b0 C (L - 1))), (aAn, kd_ar cI n x)] → va_S A s.heap H locs → lv_has ls 3 [(2, .int (nI i)), (1, .int (nI (pInv P (pNeg P (C L))))), (0, .ref h0)] → W p l e { frames := 2, cells := 0, slots := 0, locals := 87 } s m args below meth c H locs 0 0 Q (F0 m 102 ls []) := by
            intro k_lq
            induction k_lq with
            | zero => intro i x H locs ls j1 j2 j3 hP hD hS hl; omega
            | succ k_lq ih_lq =>
              intro i x H locs ls j1 j2 j3 hP hD hS hl
              refine lv_iload_n hx hb dX4_makeCandidate_102 rfl (lv_at hl 0 rfl) ?_
              refine lv_aload_n hx hb dX4_makeCandidate_103 rfl (lv_at hl 2 rfl) ?_
              refine va_get (D := D) (ci := 4) (v := .int (nI n)) (C := RX4) (T := TX4) (N := 13) hx hb hts i_X4 hown hK hP 0 rfl rfl 4 (by decide) fl13 (fun _ h9 => h9) rfl dX4_makeCandidate_104 ?_
              refine kd_ge (tgt := 137) hx hb dX4_makeCandidate_107 (by decide) (by omega) (by omega) (fun c_107 => ?_) (fun c_107 => ?_)
              · skip
                obtain ⟨hP, hD⟩ := kd_swap (g := (pCand P rows cols vals held b0 C L)) hP hD 11 rfl (fun j hj => by rw [j3 j (by omega)]; unfold pCand; rw [if_neg c_7])
                have hP : va_P D vwCl [(h0, .inr (4, [.ref aM, .ref aK, .ref aG, .ref aE, .int (nI n), .ref aRi, .ref aCh, .ref aWo, .ref aNu, .ref aAn, .int (nI rs), .int (nI ss), .int (nI att)])), (aM, .inr (2, [.int (nI P)])), (aK, .inr (1, [.ref aM, .ref aR, .ref aC, .ref aV, .ref aS, .int (nI held), .int (nI (prod + (L - 1)))])), (aR, kd_ar cI room rows), (aC, kd_ar cI room cols), (aV, kd_ar cI room vals), (aS, kd_ar cI n sm), (aE, .inr (3, [.ref aM, .ref tC, .ref tB, .ref tT, .int (nI L), .int (nI sh), .int (nI em)])), (tC, kd_ar cI (2 * n + 1) C), (aRi, kd_ar cI n b0), (aWo, kd_ar cI n (pWk P rows cols vals held b0 C (L - 1))), (aAn, kd_ar cI n (pCand P rows cols vals held b0 C L))] H := hP
                have hD : va_D A [(h0, .inr (4, [.ref aM, .ref aK, .ref aG, .ref aE, .int (nI n), .ref aRi, .ref aCh, .ref aWo, .ref aNu, .ref aAn, .int (nI rs), .int (nI ss), .int (nI att)])), (aM, .inr (2, [.int (nI P)])), (aK, .inr (1, [.ref aM, .ref aR, .ref aC, .ref aV, .ref aS, .int (nI held), .int (nI (prod + (L - 1)))])), (aR, kd_ar cI room rows), (aC, kd_ar cI room cols), (aV, kd_ar cI room vals), (aS, kd_ar cI n sm), (aE, .inr (3, [.ref aM, .ref tC, .ref tB, .ref tT, .int (nI L), .int (nI sh), .int (nI em)])), (tC, kd_ar cI (2 * n + 1) C), (aRi, kd_ar cI n b0), (aWo, kd_ar cI n (pWk P rows cols vals held b0 C (L - 1))), (aAn, kd_ar cI n (pCand P rows cols vals held b0 C L))] := hD
                exact ret (sm, (pWk P rows cols vals held b0 C (L - 1))) _ _ _ _ dX4_makeCandidate_137 hS (hP.sub [0, 1, 2, 3, 4, 5, 6, 7, 8, 9, 10, 11] rfl) (hD.sub [0, 1, 2, 3, 4, 5, 6, 7, 8, 9, 10, 11] (by decide) rfl)
              · skip
                refine lv_aload_n hx hb dX4_makeCandidate_110 rfl (lv_at hl 2 rfl) ?_
                refine va_get (D := D) (ci := 4) (v := .ref aAn) (C := RX4) (T := TX4) (N := 13) hx hb hts i_X4 hown hK hP 0 rfl rfl 9 (by decide) fl69 (fun _ h9 => h9) rfl dX4_makeCandidate_111 ?_
                refine lv_iload_n hx hb dX4_makeCandidate_114 rfl (lv_at hl 0 rfl) ?_
                refine lv_aload_n hx hb dX4_makeCandidate_115 rfl (lv_at hl 2 rfl) ?_
                refine va_get (D := D) (ci := 4) (v := .ref aM) (C := RX4) (T := TX4) (N := 13) hx hb hts i_X4 hown hK hP 0 rfl rfl 0 (by decide) fl27 (fun _ h9 => h9) rfl dX4_makeCandidate_116 ?_
                refine lv_iconst (v := (nI 0)) hx hb dX4_makeCandidate_119 (by decide) ?_
                refine lv_aload_n hx hb dX4_makeCandidate_120 rfl (lv_at hl 2 rfl) ?_
                refine va_get (D := D) (ci := 4) (v := .ref aWo) (C := RX4) (T := TX4) (N := 13) hx hb hts i_X4 hown hK hP 0 rfl rfl 7 (by decide) fl63 (fun _ h9 => h9) rfl dX4_makeCandidate_121 ?_
                refine lv_iload_n hx hb dX4_makeCandidate_124 rfl (lv_at hl 0 rfl) ?_
                refine kd_ald hx hb hK hP 10 rfl i (by omega) (by omega) dX4_makeCandidate_125 ?_
                refine lv_iload_n hx hb dX4_makeCandidate_126 rfl (lv_at hl 1 rfl) ?_
                refine kd_VI (As := [.int (nI 0), .int (nI ((pWk P rows cols vals held b0 C (L - 1)) i)), .int (nI (pInv P (pNeg P (C L))))]) (rest := [.int (nI i), .ref aAn]) (Wr := [(h0, .inr (4, [.ref aM, .ref aK, .ref aG, .ref aE, .int (nI n), .ref aRi, .ref aCh, .ref aWo, .ref aNu, .ref aAn, .int (nI rs), .int (nI ss), .int (nI att)])), (aK, .inr (1, [.ref aM, .ref aR, .ref aC, .ref aV, .ref aS, .int (nI held), .int (nI (prod + (L - 1)))])), (aR, kd_ar cI room rows), (aC, kd_ar cI room cols), (aV, kd_ar cI room vals), (aS, kd_ar cI n sm), (aE, .inr (3, [.ref aM, .ref tC, .ref tB, .ref tT, .int (nI L), .int (nI sh), .int (nI em)])), (tC, kd_ar cI (2 * n + 1) C), (aRi, kd_ar cI n b0), (aWo, kd_ar cI n (pWk P rows cols vals held b0 C (L - 1))), (aAn, kd_ar cI n x)]) ⟨hx, hb, hml, hown, hts⟩ (c_X2_plusProduct l D cI cJ aM P 0 ((pWk P rows cols vals held b0 C (L - 1)) i) (pInv P (pNeg P (C L))) g1 g2 (by omega) (pWk_lt (by omega) g10 _ i (by omega)) (pInv_lt (by omega))) (cwV 3 hts gX4_makeCandidate_X2_plusProduct rfl rfl rfl (by decide +kernel) ⟨Nat.le_of_ble_eq_true rfl, Nat.le_of_ble_eq_true rfl⟩) hK hP hD hS hA [1] [0, 2, 3, 4, 5, 6, 7, 8, 9, 10, 11] rfl rfl (by decide) (by decide) 0 rfl rfl rfl rfl hl.1 (Nat.le_of_ble_eq_true rfl) dX4_makeCandidate_127 ⟨Nat.le_of_ble_eq_true rfl, Nat.le_of_ble_eq_true rfl⟩ (fun _ H locs hP hD hS => ?_)
                have hP : va_P D vwCl [(h0, .inr (4, [.ref aM, .ref aK, .ref aG, .ref aE, .int (nI n), .ref aRi, .ref aCh, .ref aWo, .ref aNu, .ref aAn, .int (nI rs), .int (nI ss), .int (nI att)])), (aK, .inr (1, [.ref aM, .ref aR, .ref aC, .ref aV, .ref aS, .int (nI held), .int (nI (prod + (L - 1)))])), (aR, kd_ar cI room rows), (aC, kd_ar cI room cols), (aV, kd_ar cI room vals), (aS, kd_ar cI n sm), (aE, .inr (3, [.ref aM, .ref tC, .ref tB, .ref tT, .int (nI L), .int (nI sh), .int (nI em)])), (tC, kd_ar cI (2 * n + 1) C), (aRi, kd_ar cI n b0), (aWo, kd_ar cI n (pWk P rows cols vals held b0 C (L - 1))), (aAn, kd_ar cI n x), (aM, .inr (2, [.int (nI P)]))] H := hP
                have hD : va_D A [(h0, .inr (4, [.ref aM, .ref aK, .ref aG, .ref aE, .int (nI n), .ref aRi, .ref aCh, .ref aWo, .ref aNu, .ref aAn, .int (nI rs), .int (nI ss), .int (nI att)])), (aK, .inr (1, [.ref aM, .ref aR, .ref aC, .ref aV, .ref aS, .int (nI held), .int (nI (prod + (L - 1)))])), (aR, kd_ar cI room rows), (aC, kd_ar cI room cols), (aV, kd_ar cI room vals), (aS, kd_ar cI n sm), (aE, .inr (3, [.ref aM, .ref tC, .ref tB, .ref tT, .int (nI L), .int (nI sh), .int (nI em)])), (tC, kd_ar cI (2 * n + 1) C), (aRi, kd_ar cI n b0), (aWo, kd_ar cI n (pWk P rows cols vals held b0 C (L - 1))), (aAn, kd_ar cI n x), (aM, .inr (2, [.int (nI P)]))] := hD
                refine kd_ast hx hb hK hP hD hS 10 rfl i (by omega) (by omega) dX4_makeCandidate_130 (fun H locs hP hD hS => ?_)
                have hP : va_P D vwCl [(h0, .inr (4, [.ref aM, .ref aK, .ref aG, .ref aE, .int (nI n), .ref aRi, .ref aCh, .ref aWo, .ref aNu, .ref aAn, .int (nI rs), .int (nI ss), .int (nI att)])), (aK, .inr (1, [.ref aM, .ref aR, .ref aC, .ref aV, .ref aS, .int (nI held), .int (nI (prod + (L - 1)))])), (aR, kd_ar cI room rows), (aC, kd_ar cI room cols), (aV, kd_ar cI room vals), (aS, kd_ar cI n sm), (aE, .inr (3, [.ref aM, .ref tC, .ref tB, .ref tT, .int (nI L), .int (nI sh), .int (nI em)])), (tC, kd_ar cI (2 * n + 1) C), (aRi, kd_ar cI n b0), (aWo, kd_ar cI n (pWk P rows cols vals held b0 C (L - 1))), (aAn, kd_ar cI n (va_up x i ((0 + ((pWk P rows cols vals held b0 C (L - 1)) i) * (pInv P (pNeg P (C L)))) % P))), (aM, .inr (2, [.int (nI P)]))] H := hP
                have hD : va_D A [(h0, .inr (4, [.ref aM, .ref aK, .ref aG, .ref aE, .int (nI n), .ref aRi, .ref aCh, .ref aWo, .ref aNu, .ref aAn, .int (nI rs), .int (nI ss), .int (nI att)])), (aK, .inr (1, [.ref aM, .ref aR, .ref aC, .ref aV, .ref aS, .int (nI held), .int (nI (prod + (L - 1)))])), (aR, kd_ar cI room rows), (aC, kd_ar cI room cols), (aV, kd_ar cI room vals), (aS, kd_ar cI n sm), (aE, .inr (3, [.ref aM, .ref tC, .ref tB, .ref tT, .int (nI L), .int (nI sh), .int (nI em)])), (tC, kd_ar cI (2 * n + 1) C), (aRi, kd_ar cI n b0), (aWo, kd_ar cI n (pWk P rows cols vals held b0 C (L - 1))), (aAn, kd_ar cI n (va_up x i ((0 + ((pWk P rows cols vals held b0 C (L - 1)) i) * (pInv P (pNeg P (C L)))) % P))), (aM, .inr (2, [.int (nI P)]))] := hD
                refine lv_iinc (v := (nI (i + 1))) (lv' := [(2, .int (nI (i + 1))), (1, .int (nI (pInv P (pNeg P (C L))))), (0, .ref h0)]) hx hb dX4_makeCandidate_131 hl (k := 0) rfl (nI_1 _) (by decide) rfl (fun ls hl => ?_)
                refine lv_goto (tgt := 102) hx hb dX4_makeCandidate_134 (by decide) ?_
                exact ih_lq (i + 1) (va_up x i ((0 + pWk P rows cols vals held b0 C (L - 1) i * pInv P (pNeg P (C L))) % P)) _ _ _ (by omega) (by omega) (lt_upf (y := fun j => (0 + pWk P rows cols vals held b0 C (L - 1) j * pInv P (pNeg P (C L))) % P) j3) (hP.sub [0, 11, 1, 2, 3, 4, 5, 6, 7, 8, 9, 10] rfl) (hD.sub [0, 11, 1, 2, 3, 4, 5, 6, 7, 8, 9, 10] (by decide) rfl) hS (lv_sub hl [0, 1, 2] rfl)
          exact lq (n + 1) 0 an _ _ _ (by omega) (by omega) (fun j hj => by omega) (hP.sub [0, 11, 1, 2, 3, 4, 5, 9, 10, 6, 7, 8] rfl) (hD.sub [0, 11, 1, 2, 3, 4, 5, 9, 10, 6, 7, 8] (by decide) rfl) hS (lv_sub hl [0, 1, 2] rfl)
        · skip
          refine lv_aload_n hx hb dX4_makeCandidate_49 rfl (lv_at hl 1 rfl) ?_
          refine va_get (D := D) (ci := 4) (v := .ref aK) (C := RX4) (T := TX4) (N := 13) hx hb hts i_X4 hown hK hP 0 rfl rfl 1 (by decide) fl36 (fun _ h9 => h9) rfl dX4_makeCandidate_50 ?_
          refine lv_aload_n hx hb dX4_makeCandidate_53 rfl (lv_at hl 1 rfl) ?_
          refine va_get (D := D) (ci := 4) (v := .ref aWo) (C := RX4) (T := TX4) (N := 13) hx hb hts i_X4 hown hK hP 0 rfl rfl 7 (by decide) fl63 (fun _ h9 => h9) rfl dX4_makeCandidate_54 ?_
          refine kd_VV (As := [.ref aWo]) (rest := []) (Wr := [(h0, .inr (4, [.ref aM, .ref aK, .ref aG, .ref aE, .int (nI n), .ref aRi, .ref aCh, .ref aWo, .ref aNu, .ref aAn, .int (nI rs), .int (nI ss), .int (nI att)])), (aE, .inr (3, [.ref aM, .ref tC, .ref tB, .ref tT, .int (nI L), .int (nI sh), .int (nI em)])), (tC, kd_ar cI (2 * n + 1) C), (aRi, kd_ar cI n b0), (aAn, kd_ar cI n an)]) ⟨hx, hb, hml, hown, hts⟩ (c_X1_apply l D cI cJ aK aM aR aC aV aS P n room held (prod + i0) rows cols vals sm aWo (pWk P rows cols vals held b0 C i0) g1 g2 (by omega) g5 g6 g7 g8 g9 (fun j hj => pWk_lt (by omega) g10 _ j hj)) (cwV 1 hts gX4_makeCandidate_X1_apply rfl rfl rfl (by decide +kernel) ⟨Nat.le_of_ble_eq_true rfl, Nat.le_of_ble_eq_true rfl⟩) hK hP hD hS hA [2, 1, 3, 4, 5, 6, 10] [0, 7, 8, 9, 11] rfl rfl (by decide) (by decide) 0 rfl rfl rfl rfl hl.1 (Nat.le_of_ble_eq_true rfl) dX4_makeCandidate_57 ⟨Nat.le_of_ble_eq_true rfl, Nat.le_of_ble_eq_true rfl⟩ (fun _ H locs hP hD hS => ?_)
          have hP : va_P D vwCl [(h0, .inr (4, [.ref aM, .ref aK, .ref aG, .ref aE, .int (nI n), .ref aRi, .ref aCh, .ref aWo, .ref aNu, .ref aAn, .int (nI rs), .int (nI ss), .int (nI att)])), (aE, .inr (3, [.ref aM, .ref tC, .ref tB, .ref tT, .int (nI L), .int (nI sh), .int (nI em)])), (tC, kd_ar cI (2 * n + 1) C), (aRi, kd_ar cI n b0), (aAn, kd_ar cI n an), (aK, .inr (1, [.ref aM, .ref aR, .ref aC, .ref aV, .ref aS, .int (nI held), .int (nI ((prod + i0) + 1))])), (aM, .inr (2, [.int (nI P)])), (aR, kd_ar cI room rows), (aC, kd_ar cI room cols), (aV, kd_ar cI room vals), (aS, kd_ar cI n (pAcc P rows cols vals (pWk P rows cols vals held b0 C i0) held)), (aWo, kd_ar cI n (pAcc P rows cols vals (pWk P rows cols vals held b0 C i0) held))] H := hP
          have hD : va_D A [(h0, .inr (4, [.ref aM, .ref aK, .ref aG, .ref aE, .int (nI n), .ref aRi, .ref aCh, .ref aWo, .ref aNu, .ref aAn, .int (nI rs), .int (nI ss), .int (nI att)])), (aE, .inr (3, [.ref aM, .ref tC, .ref tB, .ref tT, .int (nI L), .int (nI sh), .int (nI em)])), (tC, kd_ar cI (2 * n + 1) C), (aRi, kd_ar cI n b0), (aAn, kd_ar cI n an), (aK, .inr (1, [.ref aM, .ref aR, .ref aC, .ref aV, .ref aS, .int (nI held), .int (nI ((prod + i0) + 1))])), (aM, .inr (2, [.int (nI P)])), (aR, kd_ar cI room rows), (aC, kd_ar cI room cols), (aV, kd_ar cI room vals), (aS, kd_ar cI n (pAcc P rows cols vals (pWk P rows cols vals held b0 C i0) held)), (aWo, kd_ar cI n (pAcc P rows cols vals (pWk P rows cols vals held b0 C i0) held))] := hD
          refine lv_aload_n hx hb dX4_makeCandidate_60 rfl (lv_at hl 1 rfl) ?_
          refine lv_aload_n hx hb dX4_makeCandidate_61 rfl (lv_at hl 1 rfl) ?_
          refine va_get (D := D) (ci := 4) (v := .ref aE) (C := RX4) (T := TX4) (N := 13) hx hb hts i_X4 hown hK hP 0 rfl rfl 3 (by decide) fl52 (fun _ h9 => h9) rfl dX4_makeCandidate_62 ?_
          refine lv_iload_n hx hb dX4_makeCandidate_65 rfl (lv_at hl 0 rfl) ?_
          refine kd_VI (As := [.int (nI (i0 + 1))]) (rest := [.ref h0]) (Wr := [(h0, .inr (4, [.ref aM, .ref aK, .ref aG, .ref aE, .int (nI n), .ref aRi, .ref aCh, .ref aWo, .ref aNu, .ref aAn, .int (nI rs), .int (nI ss), .int (nI att)])), (aRi, kd_ar cI n b0), (aAn, kd_ar cI n an), (aK, .inr (1, [.ref aM, .ref aR, .ref aC, .ref aV, .ref aS, .int (nI held), .int (nI ((prod + i0) + 1))])), (aM, .inr (2, [.int (nI P)])), (aR, kd_ar cI room rows), (aC, kd_ar cI room cols), (aV, kd_ar cI room vals), (aS, kd_ar cI n (pAcc P rows cols vals (pWk P rows cols vals held b0 C i0) held)), (aWo, kd_ar cI n (pAcc P rows cols vals (pWk P rows cols vals held b0 C i0) held))]) ⟨hx, hb, hml, hown, hts⟩ (c_X3_term l D cI cJ aE aM tC tB tT (2 * n + 1) L sh em (i0 + 1) C (by omega) (by omega)) (cwV 1 hts gX4_makeCandidate_X3_term rfl rfl rfl (by decide +kernel) ⟨Nat.le_of_ble_eq_true rfl, Nat.le_of_ble_eq_true rfl⟩) hK hP hD hS hA [1, 2] [0, 3, 4, 5, 6, 7, 8, 9, 10, 11] rfl rfl (by decide) (by decide) 0 rfl rfl rfl rfl hl.1 (Nat.le_of_ble_eq_true rfl) dX4_makeCandidate_66 ⟨Nat.le_of_ble_eq_true rfl, Nat.le_of_ble_eq_true rfl⟩ (fun _ H locs hP hD hS => ?_)
          have hP : va_P D vwCl [(h0, .inr (4, [.ref aM, .ref aK, .ref aG, .ref aE, .int (nI n), .ref aRi, .ref aCh, .ref aWo, .ref aNu, .ref aAn, .int (nI rs), .int (nI ss), .int (nI att)])), (aRi, kd_ar cI n b0), (aAn, kd_ar cI n an), (aK, .inr (1, [.ref aM, .ref aR, .ref aC, .ref aV, .ref aS, .int (nI held), .int (nI ((prod + i0) + 1))])), (aM, .inr (2, [.int (nI P)])), (aR, kd_ar cI room rows), (aC, kd_ar cI room cols), (aV, kd_ar cI room vals), (aS, kd_ar cI n (pAcc P rows cols vals (pWk P rows cols vals held b0 C i0) held)), (aWo, kd_ar cI n (pAcc P rows cols vals (pWk P rows cols vals held b0 C i0) held)), (aE, .inr (3, [.ref aM, .ref tC, .ref tB, .ref tT, .int (nI L), .int (nI sh), .int (nI em)])), (tC, kd_ar cI (2 * n + 1) C)] H := hP
          have hD : va_D A [(h0, .inr (4, [.ref aM, .ref aK, .ref aG, .ref aE, .int (nI n), .ref aRi, .ref aCh, .ref aWo, .ref aNu, .ref aAn, .int (nI rs), .int (nI ss), .int (nI att)])), (aRi, kd_ar cI n b0), (aAn, kd_ar cI n an), (aK, .inr (1, [.ref aM, .ref aR, .ref aC, .ref aV, .ref aS, .int (nI held), .int (nI ((prod + i0) + 1))])), (aM, .inr (2, [.int (nI P)])), (aR, kd_ar cI room rows), (aC, kd_ar cI room cols), (aV, kd_ar cI room vals), (aS, kd_ar cI n (pAcc P rows cols vals (pWk P rows cols vals held b0 C i0) held)), (aWo, kd_ar cI n (pAcc P rows cols vals (pWk P rows cols vals held b0 C i0) held)), (aE, .inr (3, [.ref aM, .ref tC, .ref tB, .ref tT, .int (nI L), .int (nI sh), .int (nI em)])), (tC, kd_ar cI (2 * n + 1) C)] := hD
          refine kd_VV (As := [.int (nI (C (i0 + 1)))]) (rest := []) (Wr := [(aAn, kd_ar cI n an), (aK, .inr (1, [.ref aM, .ref aR, .ref aC, .ref aV, .ref aS, .int (nI held), .int (nI ((prod + i0) + 1))])), (aR, kd_ar cI room rows), (aC, kd_ar cI room cols), (aV, kd_ar cI room vals), (aS, kd_ar cI n (pAcc P rows cols vals (pWk P rows cols vals held b0 C i0) held)), (aE, .inr (3, [.ref aM, .ref tC, .ref tB, .ref tT, .int (nI L), .int (nI sh), .int (nI em)])), (tC, kd_ar cI (2 * n + 1) C)]) ⟨hx, hb, hml, hown, hts⟩ (c_X4_addRightToWork l D cI cJ h0 aM aK aG aE aRi aCh aWo aNu aAn P n rs ss att (C (i0 + 1)) b0 (pAcc P rows cols vals (pWk P rows cols vals held b0 C i0) held) g1 g2 g4 (fun j hj => pAcc_lt (by omega) _ _ _ _ _ _) g10 (g12 _)) (cwV 1 hts gX4_makeCandidate_X4_addRightToWork rfl rfl rfl (by decide +kernel) ⟨Nat.le_of_ble_eq_true rfl, Nat.le_of_ble_eq_true rfl⟩) hK hP hD hS hA [0, 4, 1, 9] [2, 3, 5, 6, 7, 8, 10, 11] rfl rfl (by decide) (by decide) 0 rfl rfl rfl rfl hl.1 (Nat.le_of_ble_eq_true rfl) dX4_makeCandidate_69 ⟨Nat.le_of_ble_eq_true rfl, Nat.le_of_ble_eq_true rfl⟩ (fun _ H locs hP hD hS => ?_)
          have hP : va_P D vwCl [(aAn, kd_ar cI n an), (aK, .inr (1, [.ref aM, .ref aR, .ref aC, .ref aV, .ref aS, .int (nI held), .int (nI ((prod + i0) + 1))])), (aR, kd_ar cI room rows), (aC, kd_ar cI room cols), (aV, kd_ar cI room vals), (aS, kd_ar cI n (pAcc P rows cols vals (pWk P rows cols vals held b0 C i0) held)), (aE, .inr (3, [.ref aM, .ref tC, .ref tB, .ref tT, .int (nI L), .int (nI sh), .int (nI em)])), (tC, kd_ar cI (2 * n + 1) C), (h0, .inr (4, [.ref aM, .ref aK, .ref aG, .ref aE, .int (nI n), .ref aRi, .ref aCh, .ref aWo, .ref aNu, .ref aAn, .int (nI rs), .int (nI ss), .int (nI att)])), (aM, .inr (2, [.int (nI P)])), (aRi, kd_ar cI n b0), (aWo, kd_ar cI n (pWk P rows cols vals held b0 C (i0 + 1)))] H := hP
          have hD : va_D A [(aAn, kd_ar cI n an), (aK, .inr (1, [.ref aM, .ref aR, .ref aC, .ref aV, .ref aS, .int (nI held), .int (nI ((prod + i0) + 1))])), (aR, kd_ar cI room rows), (aC, kd_ar cI room cols), (aV, kd_ar cI room vals), (aS, kd_ar cI n (pAcc P rows cols vals (pWk P rows cols vals held b0 C i0) held)), (aE, .inr (3, [.ref aM, .ref tC, .ref tB, .ref tT, .int (nI L), .int (nI sh), .int (nI em)])), (tC, kd_ar cI (2 * n + 1) C), (h0, .inr (4, [.ref aM, .ref aK, .ref aG, .ref aE, .int (nI n), .ref aRi, .ref aCh, .ref aWo, .ref aNu, .ref aAn, .int (nI rs), .int (nI ss), .int (nI att)])), (aM, .inr (2, [.int (nI P)])), (aRi, kd_ar cI n b0), (aWo, kd_ar cI n (pWk P rows cols vals held b0 C (i0 + 1)))] := hD
          refine lv_iinc (v := (nI ((i0 + 1) + 1))) (lv' := [(1, .int (nI ((i0 + 1) + 1))), (0, .ref h0)]) hx hb dX4_makeCandidate_72 hl (k := 0) rfl (nI_1 _) (by decide) rfl (fun ls hl => ?_)
          refine lv_goto (tgt := 38) hx hb dX4_makeCandidate_75 (by decide) ?_
          exact ih_lp (i0 + 1) (pAcc P rows cols vals (pWk P rows cols vals held b0 C i0) held) _ _ _ (by omega) (by omega) (hP.sub [8, 9, 1, 2, 3, 4, 5, 6, 7, 10, 11, 0] rfl) (hD.sub [8, 9, 1, 2, 3, 4, 5, 6, 7, 10, 11, 0] (by decide) rfl) hS (lv_sub hl [0, 1] rfl)
    exact lp (L + 1) 0 sums _ _ _ (by omega) (by omega) (hP.sub [0, 1, 2, 3, 4, 5, 6, 7, 8, 9, 10, 11] rfl) (hD.sub [0, 1, 2, 3, 4, 5, 6, 7, 8, 9, 10, 11] (by decide) rfl) hS (lv_sub hl [0, 1] rfl)
  · skip
    refine lv_aload_n hx hb dX4_makeCandidate_10 rfl (lv_at hl 0 rfl) ?_
    refine va_get (D := D) (ci := 4) (v := .ref aAn) (C := RX4) (T := TX4) (N := 13) hx hb hts i_X4 hown hK hP 0 rfl rfl 9 (by decide) fl69 (fun _ h9 => h9) rfl dX4_makeCandidate_11 ?_
    refine lv_iconst (v := (nI 0)) hx hb dX4_makeCandidate_14 (by decide) ?_
    refine kd_SV (As := [.ref aAn, .int (nI 0)]) (rest := []) (Wr := [(h0, .inr (4, [.ref aM, .ref aK, .ref aG, .ref aE, .int (nI n), .ref aRi, .ref aCh, .ref aWo, .ref aNu, .ref aAn, .int (nI rs), .int (nI ss), .int (nI att)])), (aM, .inr (2, [.int (nI P)])), (aK, .inr (1, [.ref aM, .ref aR, .ref aC, .ref aV, .ref aS, .int (nI held), .int (nI prod)])), (aR, kd_ar cI room rows), (aC, kd_ar cI room cols), (aV, kd_ar cI room vals), (aS, kd_ar cI n sums), (aE, .inr (3, [.ref aM, .ref tC, .ref tB, .ref tT, .int (nI L), .int (nI sh), .int (nI em)])), (tC, kd_ar cI (2 * n + 1) C), (aRi, kd_ar cI n b0), (aWo, kd_ar cI n wo)]) ⟨hx, hb, hml, hown, hts⟩ (c_J7_fill_53178 l D cI cJ aAn n 0 an (by omega)) (va_cwS 2 hts gX4_makeCandidate_J7_fill_53178 rfl rfl rfl (by decide +kernel) ⟨Nat.le_of_ble_eq_true rfl, Nat.le_of_ble_eq_true rfl⟩) hK hP hD hS hA [11] [0, 1, 2, 3, 4, 5, 6, 7, 8, 9, 10] rfl rfl (by decide) (by decide) rfl rfl hl.1 (Nat.le_of_ble_eq_true rfl) dX4_makeCandidate_15 ⟨Nat.le_of_ble_eq_true rfl, Nat.le_of_ble_eq_true rfl⟩ (fun _ H locs hP hD hS => ?_)
    have hP : va_P D vwCl [(h0, .inr (4, [.ref aM, .ref aK, .ref aG, .ref aE, .int (nI n), .ref aRi, .ref aCh, .ref aWo, .ref aNu, .ref aAn, .int (nI rs), .int (nI ss), .int (nI att)])), (aM, .inr (2, [.int (nI P)])), (aK, .inr (1, [.ref aM, .ref aR, .ref aC, .ref aV, .ref aS, .int (nI held), .int (nI prod)])), (aR, kd_ar cI room rows), (aC, kd_ar cI room cols), (aV, kd_ar cI room vals), (aS, kd_ar cI n sums), (aE, .inr (3, [.ref aM, .ref tC, .ref tB, .ref tT, .int (nI L), .int (nI sh), .int (nI em)])), (tC, kd_ar cI (2 * n + 1) C), (aRi, kd_ar cI n b0), (aWo, kd_ar cI n wo), (aAn, kd_ar cI n (fun _ => 0))] H := hP
    have hD : va_D A [(h0, .inr (4, [.ref aM, .ref aK, .ref aG, .ref aE, .int (nI n), .ref aRi, .ref aCh, .ref aWo, .ref aNu, .ref aAn, .int (nI rs), .int (nI ss), .int (nI att)])), (aM, .inr (2, [.int (nI P)])), (aK, .inr (1, [.ref aM, .ref aR, .ref aC, .ref aV, .ref aS, .int (nI held), .int (nI prod)])), (aR, kd_ar cI room rows), (aC, kd_ar cI room cols), (aV, kd_ar cI room vals), (aS, kd_ar cI n sums), (aE, .inr (3, [.ref aM, .ref tC, .ref tB, .ref tT, .int (nI L), .int (nI sh), .int (nI em)])), (tC, kd_ar cI (2 * n + 1) C), (aRi, kd_ar cI n b0), (aWo, kd_ar cI n wo), (aAn, kd_ar cI n (fun _ => 0))] := hD
    obtain ⟨hP, hD⟩ := kd_swap (g := (pCand P rows cols vals held b0 C L)) hP hD 11 rfl (fun j hj => by unfold pCand; rw [if_pos c_7])
    have hP : va_P D vwCl [(h0, .inr (4, [.ref aM, .ref aK, .ref aG, .ref aE, .int (nI n), .ref aRi, .ref aCh, .ref aWo, .ref aNu, .ref aAn, .int (nI rs), .int (nI ss), .int (nI att)])), (aM, .inr (2, [.int (nI P)])), (aK, .inr (1, [.ref aM, .ref aR, .ref aC, .ref aV, .ref aS, .int (nI held), .int (nI prod)])), (aR, kd_ar cI room rows), (aC, kd_ar cI room cols), (aV, kd_ar cI room vals), (aS, kd_ar cI n sums), (aE, .inr (3, [.ref aM, .ref tC, .ref tB, .ref tT, .int (nI L), .int (nI sh), .int (nI em)])), (tC, kd_ar cI (2 * n + 1) C), (aRi, kd_ar cI n b0), (aWo, kd_ar cI n wo), (aAn, kd_ar cI n (pCand P rows cols vals held b0 C L))] H := hP
    have hD : va_D A [(h0, .inr (4, [.ref aM, .ref aK, .ref aG, .ref aE, .int (nI n), .ref aRi, .ref aCh, .ref aWo, .ref aNu, .ref aAn, .int (nI rs), .int (nI ss), .int (nI att)])), (aM, .inr (2, [.int (nI P)])), (aK, .inr (1, [.ref aM, .ref aR, .ref aC, .ref aV, .ref aS, .int (nI held), .int (nI prod)])), (aR, kd_ar cI room rows), (aC, kd_ar cI room cols), (aV, kd_ar cI room vals), (aS, kd_ar cI n sums), (aE, .inr (3, [.ref aM, .ref tC, .ref tB, .ref tT, .int (nI L), .int (nI sh), .int (nI em)])), (tC, kd_ar cI (2 * n + 1) C), (aRi, kd_ar cI n b0), (aWo, kd_ar cI n wo), (aAn, kd_ar cI n (pCand P rows cols vals held b0 C L))] := hD
    rw [show prod = prod + (L - 1) by omega] at hP hD
    exact ret (sums, wo) _ _ _ _ dX4_makeCandidate_18 hS (hP.sub [0, 1, 2, 3, 4, 5, 6, 7, 8, 9, 10, 11] rfl) (hD.sub [0, 1, 2, 3, 4, 5, 6, 7, 8, 9, 10, 11] (by decide) rfl)
end
section
/-! the pure model: an attempt, several attempts, what the calls tell -/
section PS
variable (P n : Nat) (rows cols vals : Nat → Nat) (held : Nat) (b : Nat → Nat)
/-- the recurrence of the row that the generator's number g gives -/
abbrev pRec (g : Nat) : pZ := pBM P (pRow P n rows cols vals held b g) (2 * n)
abbrev pAtCn (g : Nat) : Prop := 0 < (pRec P n rows cols vals held b g).2.2.1 ∧ (pRec P n rows cols vals held b g).1 (pRec P n rows cols vals held b g).2.2.1 = 0
abbrev pAtCa (g : Nat) : Nat → Nat := pCand P rows cols vals held b (pRec P n rows cols vals held b g).1 (pRec P n rows cols vals held b g).2.2.1
def pAtAns (g : Nat) : Nat := if pAtCn P n rows cols vals held b g then 3 else if pHolds P n rows cols vals held b (pAtCa P n rows cols vals held b g) then 0 else 4
def pAtSs (g : Nat) : Nat := if pAtCn P n rows cols vals held b g then 0 else pB (pHolds P n rows cols vals held b (pAtCa P n rows cols vals held b g))
def pAtProd (g prod : Nat) : Nat := if pAtCn P n rows cols vals held b g then prod + (2 * n - 1) else prod + (2 * n - 1) + ((pRec P n rows cols vals held b g).2.2.1 - 1) + 1
def pAtAn (g : Nat) (an : Nat → Nat) : Nat → Nat := if pAtCn P n rows cols vals held b g then an else pAtCa P n rows cols vals held b g
/-- k attempts -/
def sG (g : Nat) : Nat → Nat
  | 0 => g
  | k + 1 => pGn (sG g k) n
def sProd (g prod : Nat) : Nat → Nat
  | 0 => prod
  | k + 1 => pAtProd P n rows cols vals held b (sG n g k) (sProd g prod k)
def sAn (g : Nat) (an : Nat → Nat) : Nat → Nat → Nat
  | 0 => an
  | k + 1 => pAtAn P n rows cols vals held b (sG n g k) (sAn g an k)
def sNu (g : Nat) (nu : Nat → Nat) : Nat → Nat → Nat
  | 0 => nu
  | k + 1 => pRow P n rows cols vals held b (sG n g k)
def sC (g : Nat) (C : Nat → Nat) : Nat → Nat → Nat
  | 0 => C
  | k + 1 => (pRec P n rows cols vals held b (sG n g k)).1
def sL (g L : Nat) : Nat → Nat
  | 0 => L
  | k + 1 => (pRec P n rows cols vals held b (sG n g k)).2.2.1
def sSs (g ss : Nat) : Nat → Nat
  | 0 => ss
  | k + 1 => pAtSs P n rows cols vals held b (sG n g k)
def sTold (g : Nat) : Nat → Nat
  | 0 => 5
  | k + 1 => pAtAns P n rows cols vals held b (sG n g k)
end PS
def sRs (rs : Nat) : Nat → Nat
  | 0 => rs
  | _ + 1 => 1
/-- how many attempts are made, with f left and k made already, where a k is what attempt k tells -/
def pTry (a : Nat → Nat) : Nat → Nat → Nat
  | 0, k => k
  | f + 1, k => if a k = 0 then k + 1 else pTry a f (k + 1)
abbrev pMost (i : Int32) : Prop := 1 ≤ i.toInt ∧ i.toInt ≤ 50
def pTries (P n : Nat) (rows cols vals : Nat → Nat) (held : Nat) (b : Nat → Nat) (g : Nat) (most : Int32) : Nat := if pMost most then pTry (fun k => pAtAns P n rows cols vals held b (sG n g k)) (pIx most) 0 else 0
def pSol (n ss : Nat) (an : Nat → Nat) (i : Int32) : Int32 := if ¬ ss = 0 ∧ pPl n i then nI (an (pIx i)) else -1
def pDeg (rs L : Nat) : Int32 := if rs = 0 then -1 else nI L
def pCoef (rs L : Nat) (C : Nat → Nat) (i : Int32) : Int32 := if ¬ rs = 0 ∧ pPl (L + 1) i then nI (C (L - pIx i)) else -1
def pNum (n rs : Nat) (nu : Nat → Nat) (i : Int32) : Int32 := if ¬ rs = 0 ∧ pPl (2 * n) i then nI (nu (pIx i)) else -1
def pCount (P n held g att : Nat) (i : Int32) : Int32 := if i = 0 then nI P else if i = 1 then nI n else if i = 2 then nI held else if i = 3 then nI g else if i = 4 then nI att else -1
abbrev pOkE (n room held : Nat) (r c : Int32) : Prop := (pPl n r ∧ pPl n c) ∧ held < room
def pEntry (n room held : Nat) (r c : Int32) : Nat := if pPl n r ∧ pPl n c then if held < room then 0 else 2 else 1
theorem pB_nar (c : Prop) [Decidable c] : narrow .boolean (.int (nI (pB c))) = .int (nI (pB c)) := by
  rcases pB_01 c with h | h <;> rw [h] <;> rfl
theorem pB_fit (c : Prop) [Decidable c] : fits .boolean (.int (nI (pB c))) = true := by
  rcases pB_01 c with h | h <;> rw [h] <;> rfl
theorem pB_e0 {c : Prop} [Decidable c] (h : pB c = 0) : ¬ c := by
  intro q
  rw [pB_t q] at h
  omega
theorem pB_e1 {c : Prop} [Decidable c] (h : ¬ pB c = 0) : c := by
  apply Decidable.byContradiction
  intro q
  exact h (pB_f q)
section PA
variable {P n : Nat} {rows cols vals : Nat → Nat} {held : Nat} {b : Nat → Nat} {g : Nat}
theorem pAt_c (h : pAtCn P n rows cols vals held b g) : pAtAns P n rows cols vals held b g = 3 ∧ pAtSs P n rows cols vals held b g = 0 ∧ (∀ prod, pAtProd P n rows cols vals held b g prod = prod + (2 * n - 1)) ∧ ∀ an, pAtAn P n rows cols vals held b g an = an := ⟨if_pos h, if_pos h, fun _ => if_pos h, fun _ => if_pos h⟩
theorem pAt_n (h : ¬ pAtCn P n rows cols vals held b g) : pAtAns P n rows cols vals held b g = (if pHolds P n rows cols vals held b (pAtCa P n rows cols vals held b g) then 0 else 4) ∧ pAtSs P n rows cols vals held b g = pB (pHolds P n rows cols vals held b (pAtCa P n rows cols vals held b g)) ∧ (∀ prod, pAtProd P n rows cols vals held b g prod = prod + (2 * n - 1) + ((pRec P n rows cols vals held b g).2.2.1 - 1) + 1) ∧ ∀ an, pAtAn P n rows cols vals held b g an = pAtCa P n rows cols vals held b g := ⟨if_neg h, if_neg h, fun _ => if_neg h, fun _ => if_neg h⟩
theorem pAtAns_lt : pAtAns P n rows cols vals held b g < 5 := by
  unfold pAtAns
  split
  · omega
  · split <;> omega
theorem pAtAn_lt (h : 0 < P) {an : Nat → Nat} {m : Nat} (ha : ∀ j, j < m → an j < P) : ∀ j, j < m → pAtAn P n rows cols vals held b g an j < P := by
  intro j hj
  unfold pAtAn
  split
  · exact ha j hj
  · exact pCand_lt h
theorem sAn_lt (h : 0 < P) {an : Nat → Nat} {m : Nat} (ha : ∀ j, j < m → an j < P) : ∀ k j, j < m → sAn P n rows cols vals held b g an k j < P
  | 0, j, hj => ha j hj
  | k + 1, j, hj => pAtAn_lt h (sAn_lt h ha k) j hj
theorem sG_lt (h : g < 2 ^ 31) : ∀ k, sG n g k < 2 ^ 31
  | 0 => h
  | k + 1 => pGn_lt (sG_lt h k) n
theorem sTold_lt : ∀ k, sTold P n rows cols vals held b g k < 6
  | 0 => by show 5 < 6; omega
  | k + 1 => by
    have := pAtAns_lt (P := P) (n := n) (rows := rows) (cols := cols) (vals := vals) (held := held) (b := b) (g := sG n g k)
    show pAtAns P n rows cols vals held b (sG n g k) < 6
    omega
end PA
theorem pRec_ok {P n : Nat} (hP : 2 ≤ P) (rows cols vals : Nat → Nat) (held : Nat) (b : Nat → Nat) (g : Nat) : pZok P (2 * n) (pRec P n rows cols vals held b g) := pBM_ok hP (2 * n) (fun _ _ => pRow_lt (by omega))
/-- attempts on their way: k are made, what comes is what the whole count says -/
def pTryAt (told : Nat → Nat) (mo k : Nat) : Prop := pTry (fun j => told (j + 1)) mo 0 = if told k = 0 then k else pTry (fun j => told (j + 1)) (mo - k) k
theorem pTryAt_0 {P n : Nat} {rows cols vals : Nat → Nat} {held : Nat} {b : Nat → Nat} {g mo : Nat} : pTryAt (sTold P n rows cols vals held b g) mo 0 := by
  unfold pTryAt
  rw [if_neg (show ¬ sTold P n rows cols vals held b g 0 = 0 by show ¬ 5 = 0; omega)]
  rfl
theorem pTry_step {told : Nat → Nat} {mo k : Nat} (h : pTryAt told mo k) (hk : k < mo) (h0 : ¬ told k = 0) (_ : k ≤ mo) : pTryAt told mo (k + 1) := by
  unfold pTryAt at h ⊢
  rw [h, if_neg h0, show mo - k = (mo - (k + 1)) + 1 by omega]
  rfl
theorem pMost_lo {i : Int32} (h : i < nI 1) : ¬ pMost i := by
  intro q
  have h1 := Int32.lt_iff_toInt_lt.mp h
  rw [nI_toInt (by omega)] at h1
  have := q.1
  omega
theorem pMost_hi {i : Int32} (h : ¬ i ≤ nI 50) : ¬ pMost i := by
  intro q
  apply h
  apply Int32.le_iff_toInt_le.mpr
  rw [nI_toInt (by omega)]
  exact q.2
theorem pMost_in {i : Int32} (h : ¬ i < nI 1) (h2 : i ≤ nI 50) : pMost i ∧ ∃ mo : Nat, 1 ≤ mo ∧ mo ≤ 50 ∧ i = nI mo := by
  have h1 : ¬ i.toInt < 1 := fun q => h (Int32.lt_iff_toInt_lt.mpr (by rw [nI_toInt (by omega)]; exact q))
  have h3 := Int32.le_iff_toInt_le.mp h2
  rw [nI_toInt (by omega)] at h3
  refine ⟨⟨by omega, h3⟩, i.toInt.toNat, by omega, by omega, ?_⟩
  apply Int32.toInt_inj.mp
  rw [nI_toInt (by omega)]
  omega
theorem pTries_end {P n : Nat} {rows cols vals : Nat → Nat} {held : Nat} {b : Nat → Nat} {g mo k : Nat} (h : pMost (nI mo)) (h1 : mo ≤ 50) (h2 : k ≤ mo) (h3 : pTryAt (sTold P n rows cols vals held b g) mo k) (h4 : k = mo ∨ sTold P n rows cols vals held b g k = 0) : pTries P n rows cols vals held b g (nI mo) = k := by
  unfold pTries
  rw [if_pos h, pIx_nI (by omega)]
  unfold pTryAt at h3
  refine Eq.trans h3 ?_
  by_cases e : sTold P n rows cols vals held b g k = 0
  · rw [if_pos e]
  · rcases h4 with h4 | h4
    · rw [if_neg e, h4, Nat.sub_self]
      rfl
    · exact absurd h4 e
theorem pPl_le {L : Nat} {i : Int32} (hn : L + 1 < 2 ^ 31) (h0 : ¬ i < 0) (h : i ≤ nI L) : pPl (L + 1) i := by
  have h2 := Jvm.Kit.i32_nonneg.mp (Int32.not_lt.mp h0)
  have h3 := Int32.le_iff_toInt_le.mp h
  rw [nI_toInt (by omega)] at h3
  exact ⟨h2, by omega⟩
theorem pPl_gt {L : Nat} {i : Int32} (hn : L + 1 < 2 ^ 31) (h : ¬ i ≤ nI L) : ¬ pPl (L + 1) i := by
  intro q
  apply h
  apply Int32.le_iff_toInt_le.mpr
  rw [nI_toInt (by omega)]
  have := q.2
  omega
theorem kd_out4 {i : Int32} (h0 : ¬ i = 0) (h1 : ¬ i = 1) (h2 : ¬ i = 2) (h3 : ¬ i = 3) (h4 : ¬ i = 4) : i.toInt < 0 ∨ 4 < i.toInt := by
  apply Decidable.byContradiction
  intro q
  have a0 : i.toInt ≠ 0 := fun z => h0 (Int32.toInt_inj.mp z)
  have a1 : i.toInt ≠ 1 := fun z => h1 (Int32.toInt_inj.mp z)
  have a2 : i.toInt ≠ 2 := fun z => h2 (Int32.toInt_inj.mp z)
  have a3 : i.toInt ≠ 3 := fun z => h3 (Int32.toInt_inj.mp z)
  have a4 : i.toInt ≠ 4 := fun z => h4 (Int32.toInt_inj.mp z)
  omega
end
section
set_option maxHeartbeats 4000000 in
set_option maxRecDepth 100000 in
/-- an attempt -/
theorem c_X4_attempt (l : Launch) (D : va_G) (cI cJ : ClassId) (h0 aM aK aG aE aRi aCh aWo aNu aAn : Nat) (aR aC aV aS : Nat) (tC tB tT : Nat) (P n room held prod : Nat) (rows cols vals sums : Nat → Nat) (rs ss att gg L sh em : Nat) (b0 ch wo nu an C B T : Nat → Nat) (g : pOK P n room held rows cols vals b0) : kd_MI (S := (Nat → Nat) × (Nat → Nat) × (Nat → Nat) × (Nat → Nat) × (Nat → Nat) × Nat × Nat) l yX4_attempt wsX4_attempt { frames := 4, cells := 0, slots := 0, locals := 110 } [.ref h0] D vwCl cI cJ [(h0, .inr (4, [.ref aM, .ref aK, .ref aG, .ref aE, .int (nI n), .ref aRi, .ref aCh, .ref aWo, .ref aNu, .ref aAn, .int (nI rs), .int (nI ss), .int (nI att)])), (aM, .inr (2, [.int (nI P)])), (aG, .inr (0, [.int (nI gg)])), (aK, .inr (1, [.ref aM, .ref aR, .ref aC, .ref aV, .ref aS, .int (nI held), .int (nI prod)])), (aR, kd_ar cI room rows), (aC, kd_ar cI room cols), (aV, kd_ar cI room vals), (aS, kd_ar cI n sums), (aE, .inr (3, [.ref aM, .ref tC, .ref tB, .ref tT, .int (nI L), .int (nI sh), .int (nI em)])), (tC, kd_ar cI (2 * n + 1) C), (tB, kd_ar cI (2 * n + 1) B), (tT, kd_ar cI (2 * n + 1) T), (aRi, kd_ar cI n b0), (aCh, kd_ar cI n ch), (aWo, kd_ar cI n wo), (aNu, kd_ar cI (2 * n) nu), (aAn, kd_ar cI n an)] (fun u9 => nI (pAtAns P n rows cols vals held b0 gg)) (fun u9 => [(h0, .inr (4, [.ref aM, .ref aK, .ref aG, .ref aE, .int (nI n), .ref aRi, .ref aCh, .ref aWo, .ref aNu, .ref aAn, .int (nI 1), .int (nI (pAtSs P n rows cols vals held b0 gg)), .int (nI (att + 1))])), (aM, .inr (2, [.int (nI P)])), (aG, .inr (0, [.int (nI (pGn gg n))])), (aK, .inr (1, [.ref aM, .ref aR, .ref aC, .ref aV, .ref aS, .int (nI held), .int (nI (pAtProd P n rows cols vals held b0 gg prod))])), (aR, kd_ar cI room rows), (aC, kd_ar cI room cols), (aV, kd_ar cI room vals), (aS, kd_ar cI n u9.1), (aE, .inr (3, [.ref aM, .ref tC, .ref tB, .ref tT, .int (nI ((pRec P n rows cols vals held b0 gg).2.2.1)), .int (nI u9.2.2.2.2.2.1), .int (nI u9.2.2.2.2.2.2)])), (tC, kd_ar cI (2 * n + 1) ((pRec P n rows cols vals held b0 gg).1)), (tB, kd_ar cI (2 * n + 1) u9.2.2.2.1), (tT, kd_ar cI (2 * n + 1) u9.2.2.2.2.1), (aRi, kd_ar cI n b0), (aCh, kd_ar cI n u9.2.2.1), (aWo, kd_ar cI n u9.2.1), (aNu, kd_ar cI (2 * n) (pRow P n rows cols vals held b0 gg)), (aAn, kd_ar cI n (pAtAn P n rows cols vals held b0 gg an))]) 0 0 := by
  refine kd_enterI (cc := cX4_attempt) (maxL := 1) (by decide) rfl (Nat.le_of_ble_eq_true rfl) ?_
  intro p e s m args below meth c A ls Q hx hb hr hts hown hlk hnm hml hP hK hD hA hS hl ret
  have hl : lv_has ls 1 [(0, .ref h0)] := hl
  have hown : s.vm.findClass RX4 = some m.cls := hown
  have i_X4 : ∀ w ∈ wsX40, w ∈ wsX4_attempt := by decide +kernel
  have fl93 := hts (.fieldLink RX4 93 "KrylovDesk" "attemptsMade" "I") (by decide +kernel)
  have fl96 := hts (.fieldLink RX4 96 "KrylovDesk" "answerStands" "Z") (by decide +kernel)
  have fl52 := hts (.fieldLink RX4 52 "KrylovDesk" "recurrence" "LKrylovDesk$Recurrence;") (by decide +kernel)
  have fl66 := hts (.fieldLink RX4 66 "KrylovDesk" "numbers" "[I") (by decide +kernel)
  have fl110 := hts (.fieldLink RX4 110 "KrylovDesk" "rowStands" "Z") (by decide +kernel)
  have i_X3 : ∀ w ∈ wsX30, w ∈ wsX4_attempt := by decide +kernel
  have fl113 := hts (.fieldLink RX4 113 "KrylovDesk$Recurrence" "length" "I") (by decide +kernel)
  have g0 := g
  obtain ⟨g1, g2, g3, g4, g5, g6, g7, g8, g9, g10⟩ := g0
  obtain ⟨z1, z2, z3, z4, z5⟩ := pRec_ok (n := n) g1 rows cols vals held b0 gg
  refine lv_aload_n hx hb dX4_attempt_0 rfl (lv_at hl 0 rfl) ?_
  refine lv_dup hx hb dX4_attempt_1 rfl ?_
  refine va_get (D := D) (ci := 4) (v := .int (nI att)) (C := RX4) (T := TX4) (N := 13) hx hb hts i_X4 hown hK hP 0 rfl rfl 12 (by decide) fl93 (fun _ h9 => h9) rfl dX4_attempt_2 ?_
  refine lv_iconst (v := (nI 1)) hx hb dX4_attempt_5 (by decide) ?_
  refine kd_add hx hb dX4_attempt_6 ?_
  refine va_put (D := D) (ci := 4) (v := .int (nI (att + 1))) (ty := .int) (C := RX4) (T := TX4) (N := 13) hx hb hts i_X4 tyX4 tyX4_ok nmX4 hown hK hP hD hS 0 rfl rfl 12 (by decide) fl93 (fun _ h9 => h9) rfl (by decide +kernel) rfl rfl (Nat.le_of_ble_eq_true rfl) dX4_attempt_7 (fun H locs hP hD hS => ?_)
  have hP : va_P D vwCl [(h0, .inr (4, [.ref aM, .ref aK, .ref aG, .ref aE, .int (nI n), .ref aRi, .ref aCh, .ref aWo, .ref aNu, .ref aAn, .int (nI rs), .int (nI ss), .int (nI (att + 1))])), (aM, .inr (2, [.int (nI P)])), (aG, .inr (0, [.int (nI gg)])), (aK, .inr (1, [.ref aM, .ref aR, .ref aC, .ref aV, .ref aS, .int (nI held), .int (nI prod)])), (aR, kd_ar cI room rows), (aC, kd_ar cI room cols), (aV, kd_ar cI room vals), (aS, kd_ar cI n sums), (aE, .inr (3, [.ref aM, .ref tC, .ref tB, .ref tT, .int (nI L), .int (nI sh), .int (nI em)])), (tC, kd_ar cI (2 * n + 1) C), (tB, kd_ar cI (2 * n + 1) B), (tT, kd_ar cI (2 * n + 1) T), (aRi, kd_ar cI n b0), (aCh, kd_ar cI n ch), (aWo, kd_ar cI n wo), (aNu, kd_ar cI (2 * n) nu), (aAn, kd_ar cI n an)] H := hP
  have hD : va_D A [(h0, .inr (4, [.ref aM, .ref aK, .ref aG, .ref aE, .int (nI n), .ref aRi, .ref aCh, .ref aWo, .ref aNu, .ref aAn, .int (nI rs), .int (nI ss), .int (nI (att + 1))])), (aM, .inr (2, [.int (nI P)])), (aG, .inr (0, [.int (nI gg)])), (aK, .inr (1, [.ref aM, .ref aR, .ref aC, .ref aV, .ref aS, .int (nI held), .int (nI prod)])), (aR, kd_ar cI room rows), (aC, kd_ar cI room cols), (aV, kd_ar cI room vals), (aS, kd_ar cI n sums), (aE, .inr (3, [.ref aM, .ref tC, .ref tB, .ref tT, .int (nI L), .int (nI sh), .int (nI em)])), (tC, kd_ar cI (2 * n + 1) C), (tB, kd_ar cI (2 * n + 1) B), (tT, kd_ar cI (2 * n + 1) T), (aRi, kd_ar cI n b0), (aCh, kd_ar cI n ch), (aWo, kd_ar cI n wo), (aNu, kd_ar cI (2 * n) nu), (aAn, kd_ar cI n an)] := hD
  refine lv_aload_n hx hb dX4_attempt_10 rfl (lv_at hl 0 rfl) ?_
  refine lv_iconst (v := (nI 0)) hx hb dX4_attempt_11 (by decide) ?_
  refine va_put (D := D) (ci := 4) (v := .int (nI 0)) (ty := .boolean) (C := RX4) (T := TX4) (N := 13) hx hb hts i_X4 tyX4 tyX4_ok nmX4 hown hK hP hD hS 0 rfl rfl 11 (by decide) fl96 (fun _ h9 => h9) rfl (by decide +kernel) rfl rfl (Nat.le_of_ble_eq_true rfl) dX4_attempt_12 (fun H locs hP hD hS => ?_)
  have hP : va_P D vwCl [(h0, .inr (4, [.ref aM, .ref aK, .ref aG, .ref aE, .int (nI n), .ref aRi, .ref aCh, .ref aWo, .ref aNu, .ref aAn, .int (nI rs), .int (nI 0), .int (nI (att + 1))])), (aM, .inr (2, [.int (nI P)])), (aG, .inr (0, [.int (nI gg)])), (aK, .inr (1, [.ref aM, .ref aR, .ref aC, .ref aV, .ref aS, .int (nI held), .int (nI prod)])), (aR, kd_ar cI room rows), (aC, kd_ar cI room cols), (aV, kd_ar cI room vals), (aS, kd_ar cI n sums), (aE, .inr (3, [.ref aM, .ref tC, .ref tB, .ref tT, .int (nI L), .int (nI sh), .int (nI em)])), (tC, kd_ar cI (2 * n + 1) C), (tB, kd_ar cI (2 * n + 1) B), (tT, kd_ar cI (2 * n + 1) T), (aRi, kd_ar cI n b0), (aCh, kd_ar cI n ch), (aWo, kd_ar cI n wo), (aNu, kd_ar cI (2 * n) nu), (aAn, kd_ar cI n an)] H := hP
  have hD : va_D A [(h0, .inr (4, [.ref aM, .ref aK, .ref aG, .ref aE, .int (nI n), .ref aRi, .ref aCh, .ref aWo, .ref aNu, .ref aAn, .int (nI rs), .int (nI 0), .int (nI (att + 1))])), (aM, .inr (2, [.int (nI P)])), (aG, .inr (0, [.int (nI gg)])), (aK, .inr (1, [.ref aM, .ref aR, .ref aC, .ref aV, .ref aS, .int (nI held), .int (nI prod)])), (aR, kd_ar cI room rows), (aC, kd_ar cI room cols), (aV, kd_ar cI room vals), (aS, kd_ar cI n sums), (aE, .inr (3, [.ref aM, .ref tC, .ref tB, .ref tT, .int (nI L), .int (nI sh), .int (nI em)])), (tC, kd_ar cI (2 * n + 1) C), (tB, kd_ar cI (2 * n + 1) B), (tT, kd_ar cI (2 * n + 1) T), (aRi, kd_ar cI n b0), (aCh, kd_ar cI n ch), (aWo, kd_ar cI n wo), (aNu, kd_ar cI (2 * n) nu), (aAn, kd_ar cI n an)] := hD
  refine lv_aload_n hx hb dX4_attempt_15 rfl (lv_at hl 0 rfl) ?_
  refine kd_VV (As := []) (rest := []) (Wr := [(aK, .inr (1, [.ref aM, .ref aR, .ref aC, .ref aV, .ref aS, .int (nI held), .int (nI prod)])), (aR, kd_ar cI room rows), (aC, kd_ar cI room cols), (aV, kd_ar cI room vals), (aS, kd_ar cI n sums), (aE, .inr (3, [.ref aM, .ref tC, .ref tB, .ref tT, .int (nI L), .int (nI sh), .int (nI em)])), (tC, kd_ar cI (2 * n + 1) C), (tB, kd_ar cI (2 * n + 1) B), (tT, kd_ar cI (2 * n + 1) T), (aRi, kd_ar cI n b0), (aWo, kd_ar cI n wo), (aNu, kd_ar cI (2 * n) nu), (aAn, kd_ar cI n an)]) ⟨hx, hb, hml, hown, hts⟩ (c_X4_drawChance l D cI cJ h0 aM aK aG aE aRi aCh aWo aNu aAn P n rs 0 (att + 1) gg ch g1 g2 g4) (cwV 0 hts gX4_attempt_X4_drawChance rfl rfl rfl (by decide +kernel) ⟨Nat.le_of_ble_eq_true rfl, Nat.le_of_ble_eq_true rfl⟩) hK hP hD hS hA [0, 1, 2, 13] [3, 4, 5, 6, 7, 8, 9, 10, 11, 12, 14, 15, 16] rfl rfl (by decide) (by decide) 0 rfl rfl rfl rfl hl.1 (Nat.le_of_ble_eq_true rfl) dX4_attempt_16 ⟨Nat.le_of_ble_eq_true rfl, Nat.le_of_ble_eq_true rfl⟩ (fun _ H locs hP hD hS => ?_)
  have hP : va_P D vwCl [(aK, .inr (1, [.ref aM, .ref aR, .ref aC, .ref aV, .ref aS, .int (nI held), .int (nI prod)])), (aR, kd_ar cI room rows), (aC, kd_ar cI room cols), (aV, kd_ar cI room vals), (aS, kd_ar cI n sums), (aE, .inr (3, [.ref aM, .ref tC, .ref tB, .ref tT, .int (nI L), .int (nI sh), .int (nI em)])), (tC, kd_ar cI (2 * n + 1) C), (tB, kd_ar cI (2 * n + 1) B), (tT, kd_ar cI (2 * n + 1) T), (aRi, kd_ar cI n b0), (aWo, kd_ar cI n wo), (aNu, kd_ar cI (2 * n) nu), (aAn, kd_ar cI n an), (h0, .inr (4, [.ref aM, .ref aK, .ref aG, .ref aE, .int (nI n), .ref aRi, .ref aCh, .ref aWo, .ref aNu, .ref aAn, .int (nI rs), .int (nI 0), .int (nI (att + 1))])), (aM, .inr (2, [.int (nI P)])), (aG, .inr (0, [.int (nI (pGn gg n))])), (aCh, kd_ar cI n (pCh P gg))] H := hP
  have hD : va_D A [(aK, .inr (1, [.ref aM, .ref aR, .ref aC, .ref aV, .ref aS, .int (nI held), .int (nI prod)])), (aR, kd_ar cI room rows), (aC, kd_ar cI room cols), (aV, kd_ar cI room vals), (aS, kd_ar cI n sums), (aE, .inr (3, [.ref aM, .ref tC, .ref tB, .ref tT, .int (nI L), .int (nI sh), .int (nI em)])), (tC, kd_ar cI (2 * n + 1) C), (tB, kd_ar cI (2 * n + 1) B), (tT, kd_ar cI (2 * n + 1) T), (aRi, kd_ar cI n b0), (aWo, kd_ar cI n wo), (aNu, kd_ar cI (2 * n) nu), (aAn, kd_ar cI n an), (h0, .inr (4, [.ref aM, .ref aK, .ref aG, .ref aE, .int (nI n), .ref aRi, .ref aCh, .ref aWo, .ref aNu, .ref aAn, .int (nI rs), .int (nI 0), .int (nI (att + 1))])), (aM, .inr (2, [.int (nI P)])), (aG, .inr (0, [.int (nI (pGn gg n))])), (aCh, kd_ar cI n (pCh P gg))] := hD
  refine lv_aload_n hx hb dX4_attempt_19 rfl (lv_at hl 0 rfl) ?_
  refine kd_VV (As := []) (rest := []) (Wr := [(aE, .inr (3, [.ref aM, .ref tC, .ref tB, .ref tT, .int (nI L), .int (nI sh), .int (nI em)])), (tC, kd_ar cI (2 * n + 1) C), (tB, kd_ar cI (2 * n + 1) B), (tT, kd_ar cI (2 * n + 1) T), (aAn, kd_ar cI n an), (aG, .inr (0, [.int (nI (pGn gg n))]))]) ⟨hx, hb, hml, hown, hts⟩ (c_X4_fillRow l D cI cJ h0 aM aK aG aE aRi aCh aWo aNu aAn aR aC aV aS P n room held prod rows cols vals sums rs 0 (att + 1) gg b0 wo nu g) (cwV 0 hts gX4_attempt_X4_fillRow rfl rfl rfl (by decide +kernel) ⟨Nat.le_of_ble_eq_true rfl, Nat.le_of_ble_eq_true rfl⟩) hK hP hD hS hA [13, 14, 0, 1, 2, 3, 4, 9, 16, 10, 11] [5, 6, 7, 8, 12, 15] rfl rfl (by decide) (by decide) 0 rfl rfl rfl rfl hl.1 (Nat.le_of_ble_eq_true rfl) dX4_attempt_20 ⟨Nat.le_of_ble_eq_true rfl, Nat.le_of_ble_eq_true rfl⟩ (fun v9 H locs hP hD hS => ?_)
  have hP : va_P D vwCl [(aE, .inr (3, [.ref aM, .ref tC, .ref tB, .ref tT, .int (nI L), .int (nI sh), .int (nI em)])), (tC, kd_ar cI (2 * n + 1) C), (tB, kd_ar cI (2 * n + 1) B), (tT, kd_ar cI (2 * n + 1) T), (aAn, kd_ar cI n an), (aG, .inr (0, [.int (nI (pGn gg n))])), (h0, .inr (4, [.ref aM, .ref aK, .ref aG, .ref aE, .int (nI n), .ref aRi, .ref aCh, .ref aWo, .ref aNu, .ref aAn, .int (nI rs), .int (nI 0), .int (nI (att + 1))])), (aM, .inr (2, [.int (nI P)])), (aK, .inr (1, [.ref aM, .ref aR, .ref aC, .ref aV, .ref aS, .int (nI held), .int (nI (prod + (2 * n - 1)))])), (aR, kd_ar cI room rows), (aC, kd_ar cI room cols), (aV, kd_ar cI room vals), (aS, kd_ar cI n v9.1), (aRi, kd_ar cI n b0), (aCh, kd_ar cI n (pCh P gg)), (aWo, kd_ar cI n v9.2), (aNu, kd_ar cI (2 * n) (pRow P n rows cols vals held b0 gg))] H := hP
  have hD : va_D A [(aE, .inr (3, [.ref aM, .ref tC, .ref tB, .ref tT, .int (nI L), .int (nI sh), .int (nI em)])), (tC, kd_ar cI (2 * n + 1) C), (tB, kd_ar cI (2 * n + 1) B), (tT, kd_ar cI (2 * n + 1) T), (aAn, kd_ar cI n an), (aG, .inr (0, [.int (nI (pGn gg n))])), (h0, .inr (4, [.ref aM, .ref aK, .ref aG, .ref aE, .int (nI n), .ref aRi, .ref aCh, .ref aWo, .ref aNu, .ref aAn, .int (nI rs), .int (nI 0), .int (nI (att + 1))])), (aM, .inr (2, [.int (nI P)])), (aK, .inr (1, [.ref aM, .ref aR, .ref aC, .ref aV, .ref aS, .int (nI held), .int (nI (prod + (2 * n - 1)))])), (aR, kd_ar cI room rows), (aC, kd_ar cI room cols), (aV, kd_ar cI room vals), (aS, kd_ar cI n v9.1), (aRi, kd_ar cI n b0), (aCh, kd_ar cI n (pCh P gg)), (aWo, kd_ar cI n v9.2), (aNu, kd_ar cI (2 * n) (pRow P n rows cols vals held b0 gg))] := hD
  refine lv_aload_n hx hb dX4_attempt_23 rfl (lv_at hl 0 rfl) ?_
  refine va_get (D := D) (ci := 4) (v := .ref aE) (C := RX4) (T := TX4) (N := 13) hx hb hts i_X4 hown hK hP 6 rfl rfl 3 (by decide) fl52 (fun _ h9 => h9) rfl dX4_attempt_24 ?_
  refine lv_aload_n hx hb dX4_attempt_27 rfl (lv_at hl 0 rfl) ?_
  refine va_get (D := D) (ci := 4) (v := .ref aNu) (C := RX4) (T := TX4) (N := 13) hx hb hts i_X4 hown hK hP 6 rfl rfl 8 (by decide) fl66 (fun _ h9 => h9) rfl dX4_attempt_28 ?_
  refine kd_VV (As := [.ref aNu]) (rest := []) (Wr := [(aAn, kd_ar cI n an), (aG, .inr (0, [.int (nI (pGn gg n))])), (h0, .inr (4, [.ref aM, .ref aK, .ref aG, .ref aE, .int (nI n), .ref aRi, .ref aCh, .ref aWo, .ref aNu, .ref aAn, .int (nI rs), .int (nI 0), .int (nI (att + 1))])), (aK, .inr (1, [.ref aM, .ref aR, .ref aC, .ref aV, .ref aS, .int (nI held), .int (nI (prod + (2 * n - 1)))])), (aR, kd_ar cI room rows), (aC, kd_ar cI room cols), (aV, kd_ar cI room vals), (aS, kd_ar cI n v9.1), (aRi, kd_ar cI n b0), (aCh, kd_ar cI n (pCh P gg)), (aWo, kd_ar cI n v9.2)]) ⟨hx, hb, hml, hown, hts⟩ (c_X3_find l D cI cJ aE aM tC tB tT aNu P (2 * n + 1) (2 * n) L sh em C B T (pRow P n rows cols vals held b0 gg) g1 g2 (by omega) (by omega) (fun j _ => pRow_lt (by omega))) (cwV 1 hts gX4_attempt_X3_find rfl rfl rfl (by decide +kernel) ⟨Nat.le_of_ble_eq_true rfl, Nat.le_of_ble_eq_true rfl⟩) hK hP hD hS hA [0, 7, 1, 2, 3, 16] [4, 5, 6, 8, 9, 10, 11, 12, 13, 14, 15] rfl rfl (by decide) (by decide) 0 rfl rfl rfl rfl hl.1 (Nat.le_of_ble_eq_true rfl) dX4_attempt_31 ⟨Nat.le_of_ble_eq_true rfl, Nat.le_of_ble_eq_true rfl⟩ (fun t8 H locs hP hD hS => ?_)
  have hP : va_P D vwCl [(aAn, kd_ar cI n an), (aG, .inr (0, [.int (nI (pGn gg n))])), (h0, .inr (4, [.ref aM, .ref aK, .ref aG, .ref aE, .int (nI n), .ref aRi, .ref aCh, .ref aWo, .ref aNu, .ref aAn, .int (nI rs), .int (nI 0), .int (nI (att + 1))])), (aK, .inr (1, [.ref aM, .ref aR, .ref aC, .ref aV, .ref aS, .int (nI held), .int (nI (prod + (2 * n - 1)))])), (aR, kd_ar cI room rows), (aC, kd_ar cI room cols), (aV, kd_ar cI room vals), (aS, kd_ar cI n v9.1), (aRi, kd_ar cI n b0), (aCh, kd_ar cI n (pCh P gg)), (aWo, kd_ar cI n v9.2), (aE, .inr (3, [.ref aM, .ref tC, .ref tB, .ref tT, .int (nI ((pRec P n rows cols vals held b0 gg).2.2.1)), .int (nI ((pRec P n rows cols vals held b0 gg).2.2.2.1)), .int (nI ((pRec P n rows cols vals held b0 gg).2.2.2.2))])), (aM, .inr (2, [.int (nI P)])), (tC, kd_ar cI (2 * n + 1) ((pRec P n rows cols vals held b0 gg).1)), (tB, kd_ar cI (2 * n + 1) ((pRec P n rows cols vals held b0 gg).2.1)), (tT, kd_ar cI (2 * n + 1) t8), (aNu, kd_ar cI (2 * n) (pRow P n rows cols vals held b0 gg))] H := hP
  have hD : va_D A [(aAn, kd_ar cI n an), (aG, .inr (0, [.int (nI (pGn gg n))])), (h0, .inr (4, [.ref aM, .ref aK, .ref aG, .ref aE, .int (nI n), .ref aRi, .ref aCh, .ref aWo, .ref aNu, .ref aAn, .int (nI rs), .int (nI 0), .int (nI (att + 1))])), (aK, .inr (1, [.ref aM, .ref aR, .ref aC, .ref aV, .ref aS, .int (nI held), .int (nI (prod + (2 * n - 1)))])), (aR, kd_ar cI room rows), (aC, kd_ar cI room cols), (aV, kd_ar cI room vals), (aS, kd_ar cI n v9.1), (aRi, kd_ar cI n b0), (aCh, kd_ar cI n (pCh P gg)), (aWo, kd_ar cI n v9.2), (aE, .inr (3, [.ref aM, .ref tC, .ref tB, .ref tT, .int (nI ((pRec P n rows cols vals held b0 gg).2.2.1)), .int (nI ((pRec P n rows cols vals held b0 gg).2.2.2.1)), .int (nI ((pRec P n rows cols vals held b0 gg).2.2.2.2))])), (aM, .inr (2, [.int (nI P)])), (tC, kd_ar cI (2 * n + 1) ((pRec P n rows cols vals held b0 gg).1)), (tB, kd_ar cI (2 * n + 1) ((pRec P n rows cols vals held b0 gg).2.1)), (tT, kd_ar cI (2 * n + 1) t8), (aNu, kd_ar cI (2 * n) (pRow P n rows cols vals held b0 gg))] := hD
  refine lv_aload_n hx hb dX4_attempt_34 rfl (lv_at hl 0 rfl) ?_
  refine lv_iconst (v := (nI 1)) hx hb dX4_attempt_35 (by decide) ?_
  refine va_put (D := D) (ci := 4) (v := .int (nI 1)) (ty := .boolean) (C := RX4) (T := TX4) (N := 13) hx hb hts i_X4 tyX4 tyX4_ok nmX4 hown hK hP hD hS 2 rfl rfl 10 (by decide) fl110 (fun _ h9 => h9) rfl (by decide +kernel) rfl rfl (Nat.le_of_ble_eq_true rfl) dX4_attempt_36 (fun H locs hP hD hS => ?_)
  have hP : va_P D vwCl [(aAn, kd_ar cI n an), (aG, .inr (0, [.int (nI (pGn gg n))])), (h0, .inr (4, [.ref aM, .ref aK, .ref aG, .ref aE, .int (nI n), .ref aRi, .ref aCh, .ref aWo, .ref aNu, .ref aAn, .int (nI 1), .int (nI 0), .int (nI (att + 1))])), (aK, .inr (1, [.ref aM, .ref aR, .ref aC, .ref aV, .ref aS, .int (nI held), .int (nI (prod + (2 * n - 1)))])), (aR, kd_ar cI room rows), (aC, kd_ar cI room cols), (aV, kd_ar cI room vals), (aS, kd_ar cI n v9.1), (aRi, kd_ar cI n b0), (aCh, kd_ar cI n (pCh P gg)), (aWo, kd_ar cI n v9.2), (aE, .inr (3, [.ref aM, .ref tC, .ref tB, .ref tT, .int (nI ((pRec P n rows cols vals held b0 gg).2.2.1)), .int (nI ((pRec P n rows cols vals held b0 gg).2.2.2.1)), .int (nI ((pRec P n rows cols vals held b0 gg).2.2.2.2))])), (aM, .inr (2, [.int (nI P)])), (tC, kd_ar cI (2 * n + 1) ((pRec P n rows cols vals held b0 gg).1)), (tB, kd_ar cI (2 * n + 1) ((pRec P n rows cols vals held b0 gg).2.1)), (tT, kd_ar cI (2 * n + 1) t8), (aNu, kd_ar cI (2 * n) (pRow P n rows cols vals held b0 gg))] H := hP
  have hD : va_D A [(aAn, kd_ar cI n an), (aG, .inr (0, [.int (nI (pGn gg n))])), (h0, .inr (4, [.ref aM, .ref aK, .ref aG, .ref aE, .int (nI n), .ref aRi, .ref aCh, .ref aWo, .ref aNu, .ref aAn, .int (nI 1), .int (nI 0), .int (nI (att + 1))])), (aK, .inr (1, [.ref aM, .ref aR, .ref aC, .ref aV, .ref aS, .int (nI held), .int (nI (prod + (2 * n - 1)))])), (aR, kd_ar cI room rows), (aC, kd_ar cI room cols), (aV, kd_ar cI room vals), (aS, kd_ar cI n v9.1), (aRi, kd_ar cI n b0), (aCh, kd_ar cI n (pCh P gg)), (aWo, kd_ar cI n v9.2), (aE, .inr (3, [.ref aM, .ref tC, .ref tB, .ref tT, .int (nI ((pRec P n rows cols vals held b0 gg).2.2.1)), .int (nI ((pRec P n rows cols vals held b0 gg).2.2.2.1)), .int (nI ((pRec P n rows cols vals held b0 gg).2.2.2.2))])), (aM, .inr (2, [.int (nI P)])), (tC, kd_ar cI (2 * n + 1) ((pRec P n rows cols vals held b0 gg).1)), (tB, kd_ar cI (2 * n + 1) ((pRec P n rows cols vals held b0 gg).2.1)), (tT, kd_ar cI (2 * n + 1) t8), (aNu, kd_ar cI (2 * n) (pRow P n rows cols vals held b0 gg))] := hD
  refine lv_aload_n hx hb dX4_attempt_39 rfl (lv_at hl 0 rfl) ?_
  refine va_get (D := D) (ci := 4) (v := .ref aE) (C := RX4) (T := TX4) (N := 13) hx hb hts i_X4 hown hK hP 2 rfl rfl 3 (by decide) fl52 (fun _ h9 => h9) rfl dX4_attempt_40 ?_
  refine va_get (D := D) (ci := 3) (v := .int (nI ((pRec P n rows cols vals held b0 gg).2.2.1))) (C := RX3) (T := TX3) (N := 7) hx hb hts i_X3 hown hK hP 11 rfl rfl 4 (by decide) fl113 (fun _ h9 => h9) rfl dX4_attempt_43 ?_
  refine kd_le0 (tgt := 61) hx hb dX4_attempt_46 (by decide) (by omega) (fun c_46 => ?_) (fun c_46 => ?_)
  · skip
    refine lv_aload_n hx hb dX4_attempt_61 rfl (lv_at hl 0 rfl) ?_
    refine kd_VV (As := []) (rest := []) (Wr := [(aG, .inr (0, [.int (nI (pGn gg n))])), (aCh, kd_ar cI n (pCh P gg)), (tB, kd_ar cI (2 * n + 1) ((pRec P n rows cols vals held b0 gg).2.1)), (tT, kd_ar cI (2 * n + 1) t8), (aNu, kd_ar cI (2 * n) (pRow P n rows cols vals held b0 gg))]) ⟨hx, hb, hml, hown, hts⟩ (c_X4_makeCandidate l D cI cJ h0 aM aK aG aE aRi aCh aWo aNu aAn aR aC aV aS tC tB tT P n room held (prod + (2 * n - 1)) rows cols vals v9.1 1 0 (att + 1) (pRec P n rows cols vals held b0 gg).2.2.1 (pRec P n rows cols vals held b0 gg).2.2.2.1 (pRec P n rows cols vals held b0 gg).2.2.2.2 b0 v9.2 an (pRec P n rows cols vals held b0 gg).1 g z3 z1) (cwV 0 hts gX4_attempt_X4_makeCandidate rfl rfl rfl (by decide +kernel) ⟨Nat.le_of_ble_eq_true rfl, Nat.le_of_ble_eq_true rfl⟩) hK hP hD hS hA [2, 12, 3, 4, 5, 6, 7, 11, 13, 8, 10, 0] [1, 9, 14, 15, 16] rfl rfl (by decide) (by decide) 0 rfl rfl rfl rfl hl.1 (Nat.le_of_ble_eq_true rfl) dX4_attempt_62 ⟨Nat.le_of_ble_eq_true rfl, Nat.le_of_ble_eq_true rfl⟩ (fun v8 H locs hP hD hS => ?_)
    have hP : va_P D vwCl [(aG, .inr (0, [.int (nI (pGn gg n))])), (aCh, kd_ar cI n (pCh P gg)), (tB, kd_ar cI (2 * n + 1) ((pRec P n rows cols vals held b0 gg).2.1)), (tT, kd_ar cI (2 * n + 1) t8), (aNu, kd_ar cI (2 * n) (pRow P n rows cols vals held b0 gg)), (h0, .inr (4, [.ref aM, .ref aK, .ref aG, .ref aE, .int (nI n), .ref aRi, .ref aCh, .ref aWo, .ref aNu, .ref aAn, .int (nI 1), .int (nI 0), .int (nI (att + 1))])), (aM, .inr (2, [.int (nI P)])), (aK, .inr (1, [.ref aM, .ref aR, .ref aC, .ref aV, .ref aS, .int (nI held), .int (nI (prod + (2 * n - 1) + ((pRec P n rows cols vals held b0 gg).2.2.1 - 1)))])), (aR, kd_ar cI room rows), (aC, kd_ar cI room cols), (aV, kd_ar cI room vals), (aS, kd_ar cI n v8.1), (aE, .inr (3, [.ref aM, .ref tC, .ref tB, .ref tT, .int (nI ((pRec P n rows cols vals held b0 gg).2.2.1)), .int (nI ((pRec P n rows cols vals held b0 gg).2.2.2.1)), .int (nI ((pRec P n rows cols vals held b0 gg).2.2.2.2))])), (tC, kd_ar cI (2 * n + 1) ((pRec P n rows cols vals held b0 gg).1)), (aRi, kd_ar cI n b0), (aWo, kd_ar cI n v8.2), (aAn, kd_ar cI n (pAtCa P n rows cols vals held b0 gg))] H := hP
    have hD : va_D A [(aG, .inr (0, [.int (nI (pGn gg n))])), (aCh, kd_ar cI n (pCh P gg)), (tB, kd_ar cI (2 * n + 1) ((pRec P n rows cols vals held b0 gg).2.1)), (tT, kd_ar cI (2 * n + 1) t8), (aNu, kd_ar cI (2 * n) (pRow P n rows cols vals held b0 gg)), (h0, .inr (4, [.ref aM, .ref aK, .ref aG, .ref aE, .int (nI n), .ref aRi, .ref aCh, .ref aWo, .ref aNu, .ref aAn, .int (nI 1), .int (nI 0), .int (nI (att + 1))])), (aM, .inr (2, [.int (nI P)])), (aK, .inr (1, [.ref aM, .ref aR, .ref aC, .ref aV, .ref aS, .int (nI held), .int (nI (prod + (2 * n - 1) + ((pRec P n rows cols vals held b0 gg).2.2.1 - 1)))])), (aR, kd_ar cI room rows), (aC, kd_ar cI room cols), (aV, kd_ar cI room vals), (aS, kd_ar cI n v8.1), (aE, .inr (3, [.ref aM, .ref tC, .ref tB, .ref tT, .int (nI ((pRec P n rows cols vals held b0 gg).2.2.1)), .int (nI ((pRec P n rows cols vals held b0 gg).2.2.2.1)), .int (nI ((pRec P n rows cols vals held b0 gg).2.2.2.2))])), (tC, kd_ar cI (2 * n + 1) ((pRec P n rows cols vals held b0 gg).1)), (aRi, kd_ar cI n b0), (aWo, kd_ar cI n v8.2), (aAn, kd_ar cI n (pAtCa P n rows cols vals held b0 gg))] := hD
    refine lv_aload_n hx hb dX4_attempt_65 rfl (lv_at hl 0 rfl) ?_
    refine lv_aload_n hx hb dX4_attempt_66 rfl (lv_at hl 0 rfl) ?_
    refine kd_VI (As := []) (rest := [.ref h0]) (Wr := [(aG, .inr (0, [.int (nI (pGn gg n))])), (aCh, kd_ar cI n (pCh P gg)), (tB, kd_ar cI (2 * n + 1) ((pRec P n rows cols vals held b0 gg).2.1)), (tT, kd_ar cI (2 * n + 1) t8), (aNu, kd_ar cI (2 * n) (pRow P n rows cols vals held b0 gg)), (aE, .inr (3, [.ref aM, .ref tC, .ref tB, .ref tT, .int (nI ((pRec P n rows cols vals held b0 gg).2.2.1)), .int (nI ((pRec P n rows cols vals held b0 gg).2.2.2.1)), .int (nI ((pRec P n rows cols vals held b0 gg).2.2.2.2))])), (tC, kd_ar cI (2 * n + 1) ((pRec P n rows cols vals held b0 gg).1))]) ⟨hx, hb, hml, hown, hts⟩ (c_X4_answerMeetsRight l D cI cJ h0 aM aK aG aE aRi aCh aWo aNu aAn aR aC aV aS P n room held (prod + (2 * n - 1) + ((pRec P n rows cols vals held b0 gg).2.2.1 - 1)) rows cols vals v8.1 1 0 (att + 1) b0 v8.2 (pAtCa P n rows cols vals held b0 gg) g (fun j _ => pCand_lt (by omega))) (cwV 0 hts gX4_attempt_X4_answerMeetsRight rfl rfl rfl (by decide +kernel) ⟨Nat.le_of_ble_eq_true rfl, Nat.le_of_ble_eq_true rfl⟩) hK hP hD hS hA [5, 6, 7, 8, 9, 10, 11, 14, 15, 16] [0, 1, 2, 3, 4, 12, 13] rfl rfl (by decide) (by decide) 0 rfl rfl rfl rfl hl.1 (Nat.le_of_ble_eq_true rfl) dX4_attempt_67 ⟨Nat.le_of_ble_eq_true rfl, Nat.le_of_ble_eq_true rfl⟩ (fun v7 H locs hP hD hS => ?_)
    have hP : va_P D vwCl [(aG, .inr (0, [.int (nI (pGn gg n))])), (aCh, kd_ar cI n (pCh P gg)), (tB, kd_ar cI (2 * n + 1) ((pRec P n rows cols vals held b0 gg).2.1)), (tT, kd_ar cI (2 * n + 1) t8), (aNu, kd_ar cI (2 * n) (pRow P n rows cols vals held b0 gg)), (aE, .inr (3, [.ref aM, .ref tC, .ref tB, .ref tT, .int (nI ((pRec P n rows cols vals held b0 gg).2.2.1)), .int (nI ((pRec P n rows cols vals held b0 gg).2.2.2.1)), .int (nI ((pRec P n rows cols vals held b0 gg).2.2.2.2))])), (tC, kd_ar cI (2 * n + 1) ((pRec P n rows cols vals held b0 gg).1)), (h0, .inr (4, [.ref aM, .ref aK, .ref aG, .ref aE, .int (nI n), .ref aRi, .ref aCh, .ref aWo, .ref aNu, .ref aAn, .int (nI 1), .int (nI 0), .int (nI (att + 1))])), (aM, .inr (2, [.int (nI P)])), (aK, .inr (1, [.ref aM, .ref aR, .ref aC, .ref aV, .ref aS, .int (nI held), .int (nI (prod + (2 * n - 1) + ((pRec P n rows cols vals held b0 gg).2.2.1 - 1) + 1))])), (aR, kd_ar cI room rows), (aC, kd_ar cI room cols), (aV, kd_ar cI room vals), (aS, kd_ar cI n v7.1), (aRi, kd_ar cI n b0), (aWo, kd_ar cI n v7.2), (aAn, kd_ar cI n (pAtCa P n rows cols vals held b0 gg))] H := hP
    have hD : va_D A [(aG, .inr (0, [.int (nI (pGn gg n))])), (aCh, kd_ar cI n (pCh P gg)), (tB, kd_ar cI (2 * n + 1) ((pRec P n rows cols vals held b0 gg).2.1)), (tT, kd_ar cI (2 * n + 1) t8), (aNu, kd_ar cI (2 * n) (pRow P n rows cols vals held b0 gg)), (aE, .inr (3, [.ref aM, .ref tC, .ref tB, .ref tT, .int (nI ((pRec P n rows cols vals held b0 gg).2.2.1)), .int (nI ((pRec P n rows cols vals held b0 gg).2.2.2.1)), .int (nI ((pRec P n rows cols vals held b0 gg).2.2.2.2))])), (tC, kd_ar cI (2 * n + 1) ((pRec P n rows cols vals held b0 gg).1)), (h0, .inr (4, [.ref aM, .ref aK, .ref aG, .ref aE, .int (nI n), .ref aRi, .ref aCh, .ref aWo, .ref aNu, .ref aAn, .int (nI 1), .int (nI 0), .int (nI (att + 1))])), (aM, .inr (2, [.int (nI P)])), (aK, .inr (1, [.ref aM, .ref aR, .ref aC, .ref aV, .ref aS, .int (nI held), .int (nI (prod + (2 * n - 1) + ((pRec P n rows cols vals held b0 gg).2.2.1 - 1) + 1))])), (aR, kd_ar cI room rows), (aC, kd_ar cI room cols), (aV, kd_ar cI room vals), (aS, kd_ar cI n v7.1), (aRi, kd_ar cI n b0), (aWo, kd_ar cI n v7.2), (aAn, kd_ar cI n (pAtCa P n rows cols vals held b0 gg))] := hD
    refine va_put (D := D) (ci := 4) (v := .int (nI (pB (pHolds P n rows cols vals held b0 (pAtCa P n rows cols vals held b0 gg))))) (ty := .boolean) (C := RX4) (T := TX4) (N := 13) hx hb hts i_X4 tyX4 tyX4_ok nmX4 hown hK hP hD hS 7 rfl rfl 11 (by decide) fl96 (fun _ h9 => h9) rfl (by decide +kernel) (pB_nar _) (pB_fit _) (Nat.le_of_ble_eq_true rfl) dX4_attempt_70 (fun H locs hP hD hS => ?_)
    have hP : va_P D vwCl [(aG, .inr (0, [.int (nI (pGn gg n))])), (aCh, kd_ar cI n (pCh P gg)), (tB, kd_ar cI (2 * n + 1) ((pRec P n rows cols vals held b0 gg).2.1)), (tT, kd_ar cI (2 * n + 1) t8), (aNu, kd_ar cI (2 * n) (pRow P n rows cols vals held b0 gg)), (aE, .inr (3, [.ref aM, .ref tC, .ref tB, .ref tT, .int (nI ((pRec P n rows cols vals held b0 gg).2.2.1)), .int (nI ((pRec P n rows cols vals held b0 gg).2.2.2.1)), .int (nI ((pRec P n rows cols vals held b0 gg).2.2.2.2))])), (tC, kd_ar cI (2 * n + 1) ((pRec P n rows cols vals held b0 gg).1)), (h0, .inr (4, [.ref aM, .ref aK, .ref aG, .ref aE, .int (nI n), .ref aRi, .ref aCh, .ref aWo, .ref aNu, .ref aAn, .int (nI 1), .int (nI (pB (pHolds P n rows cols vals held b0 (pAtCa P n rows cols vals held b0 gg)))), .int (nI (att + 1))])), (aM, .inr (2, [.int (nI P)])), (aK, .inr (1, [.ref aM, .ref aR, .ref aC, .ref aV, .ref aS, .int (nI held), .int (nI (prod + (2 * n - 1) + ((pRec P n rows cols vals held b0 gg).2.2.1 - 1) + 1))])), (aR, kd_ar cI room rows), (aC, kd_ar cI room cols), (aV, kd_ar cI room vals), (aS, kd_ar cI n v7.1), (aRi, kd_ar cI n b0), (aWo, kd_ar cI n v7.2), (aAn, kd_ar cI n (pAtCa P n rows cols vals held b0 gg))] H := hP
    have hD : va_D A [(aG, .inr (0, [.int (nI (pGn gg n))])), (aCh, kd_ar cI n (pCh P gg)), (tB, kd_ar cI (2 * n + 1) ((pRec P n rows cols vals held b0 gg).2.1)), (tT, kd_ar cI (2 * n + 1) t8), (aNu, kd_ar cI (2 * n) (pRow P n rows cols vals held b0 gg)), (aE, .inr (3, [.ref aM, .ref tC, .ref tB, .ref tT, .int (nI ((pRec P n rows cols vals held b0 gg).2.2.1)), .int (nI ((pRec P n rows cols vals held b0 gg).2.2.2.1)), .int (nI ((pRec P n rows cols vals held b0 gg).2.2.2.2))])), (tC, kd_ar cI (2 * n + 1) ((pRec P n rows cols vals held b0 gg).1)), (h0, .inr (4, [.ref aM, .ref aK, .ref aG, .ref aE, .int (nI n), .ref aRi, .ref aCh, .ref aWo, .ref aNu, .ref aAn, .int (nI 1), .int (nI (pB (pHolds P n rows cols vals held b0 (pAtCa P n rows cols vals held b0 gg)))), .int (nI (att + 1))])), (aM, .inr (2, [.int (nI P)])), (aK, .inr (1, [.ref aM, .ref aR, .ref aC, .ref aV, .ref aS, .int (nI held), .int (nI (prod + (2 * n - 1) + ((pRec P n rows cols vals held b0 gg).2.2.1 - 1) + 1))])), (aR, kd_ar cI room rows), (aC, kd_ar cI room cols), (aV, kd_ar cI room vals), (aS, kd_ar cI n v7.1), (aRi, kd_ar cI n b0), (aWo, kd_ar cI n v7.2), (aAn, kd_ar cI n (pAtCa P n rows cols vals held b0 gg))] := hD
    refine lv_aload_n hx hb dX4_attempt_73 rfl (lv_at hl 0 rfl) ?_
    refine va_get (D := D) (ci := 4) (v := .int (nI (pB (pHolds P n rows cols vals held b0 (pAtCa P n rows cols vals held b0 gg))))) (C := RX4) (T := TX4) (N := 13) hx hb hts i_X4 hown hK hP 7 rfl rfl 11 (by decide) fl96 (fun _ h9 => h9) rfl dX4_attempt_74 ?_
    refine kd_eq0 (tgt := 84) hx hb dX4_attempt_77 (by decide) (by have := pB_lt (pHolds P n rows cols vals held b0 (pAtCa P n rows cols vals held b0 gg)); omega) (fun c_77 => ?_) (fun c_77 => ?_)
    · skip
      refine lv_iconst (v := (nI 4)) hx hb dX4_attempt_84 (by decide) ?_
      have e0 : ¬ pAtCn P n rows cols vals held b0 gg := by
        intro q
        first | exact c_56 q.2 | (have := q.1; omega)
      obtain ⟨e1, e2, e3, e4⟩ := pAt_n e0
      rw [e2, e3, e4] at ret
      exact ret (v7.1, v7.2, (pCh P gg), (pRec P n rows cols vals held b0 gg).2.1, t8, (pRec P n rows cols vals held b0 gg).2.2.2.1, (pRec P n rows cols vals held b0 gg).2.2.2.2) _ _ _ _ _ dX4_attempt_85 (by rw [e1]; first | rw [if_pos (pB_e1 c_77)] | rw [if_neg (pB_e0 c_77)]) hS (hP.sub [7, 8, 0, 9, 10, 11, 12, 13, 5, 6, 2, 3, 14, 1, 15, 4, 16] rfl) (hD.sub [7, 8, 0, 9, 10, 11, 12, 13, 5, 6, 2, 3, 14, 1, 15, 4, 16] (by decide) rfl)
    · skip
      refine lv_iconst (v := (nI 0)) hx hb dX4_attempt_80 (by decide) ?_
      refine lv_goto (tgt := 85) hx hb dX4_attempt_81 (by decide) ?_
      have e0 : ¬ pAtCn P n rows cols vals held b0 gg := by
        intro q
        first | exact c_56 q.2 | (have := q.1; omega)
      obtain ⟨e1, e2, e3, e4⟩ := pAt_n e0
      rw [e2, e3, e4] at ret
      exact ret (v7.1, v7.2, (pCh P gg), (pRec P n rows cols vals held b0 gg).2.1, t8, (pRec P n rows cols vals held b0 gg).2.2.2.1, (pRec P n rows cols vals held b0 gg).2.2.2.2) _ _ _ _ _ dX4_attempt_85 (by rw [e1]; first | rw [if_pos (pB_e1 c_77)] | rw [if_neg (pB_e0 c_77)]) hS (hP.sub [7, 8, 0, 9, 10, 11, 12, 13, 5, 6, 2, 3, 14, 1, 15, 4, 16] rfl) (hD.sub [7, 8, 0, 9, 10, 11, 12, 13, 5, 6, 2, 3, 14, 1, 15, 4, 16] (by decide) rfl)
  · skip
    refine lv_aload_n hx hb dX4_attempt_49 rfl (lv_at hl 0 rfl) ?_
    refine va_get (D := D) (ci := 4) (v := .ref aE) (C := RX4) (T := TX4) (N := 13) hx hb hts i_X4 hown hK hP 2 rfl rfl 3 (by decide) fl52 (fun _ h9 => h9) rfl dX4_attempt_50 ?_
    refine kd_VI (As := []) (rest := []) (Wr := [(aAn, kd_ar cI n an), (aG, .inr (0, [.int (nI (pGn gg n))])), (h0, .inr (4, [.ref aM, .ref aK, .ref aG, .ref aE, .int (nI n), .ref aRi, .ref aCh, .ref aWo, .ref aNu, .ref aAn, .int (nI 1), .int (nI 0), .int (nI (att + 1))])), (aK, .inr (1, [.ref aM, .ref aR, .ref aC, .ref aV, .ref aS, .int (nI held), .int (nI (prod + (2 * n - 1)))])), (aR, kd_ar cI room rows), (aC, kd_ar cI room cols), (aV, kd_ar cI room vals), (aS, kd_ar cI n v9.1), (aRi, kd_ar cI n b0), (aCh, kd_ar cI n (pCh P gg)), (aWo, kd_ar cI n v9.2), (aM, .inr (2, [.int (nI P)])), (tB, kd_ar cI (2 * n + 1) ((pRec P n rows cols vals held b0 gg).2.1)), (tT, kd_ar cI (2 * n + 1) t8), (aNu, kd_ar cI (2 * n) (pRow P n rows cols vals held b0 gg))]) ⟨hx, hb, hml, hown, hts⟩ (c_X3_lastTerm l D cI cJ aE aM tC tB tT (2 * n + 1) (pRec P n rows cols vals held b0 gg).2.2.1 (pRec P n rows cols vals held b0 gg).2.2.2.1 (pRec P n rows cols vals held b0 gg).2.2.2.2 (pRec P n rows cols vals held b0 gg).1 (by omega) (by omega)) (cwV 0 hts gX4_attempt_X3_lastTerm rfl rfl rfl (by decide +kernel) ⟨Nat.le_of_ble_eq_true rfl, Nat.le_of_ble_eq_true rfl⟩) hK hP hD hS hA [11, 13] [0, 1, 2, 3, 4, 5, 6, 7, 8, 9, 10, 12, 14, 15, 16] rfl rfl (by decide) (by decide) 0 rfl rfl rfl rfl hl.1 (Nat.le_of_ble_eq_true rfl) dX4_attempt_53 ⟨Nat.le_of_ble_eq_true rfl, Nat.le_of_ble_eq_true rfl⟩ (fun _ H locs hP hD hS => ?_)
    have hP : va_P D vwCl [(aAn, kd_ar cI n an), (aG, .inr (0, [.int (nI (pGn gg n))])), (h0, .inr (4, [.ref aM, .ref aK, .ref aG, .ref aE, .int (nI n), .ref aRi, .ref aCh, .ref aWo, .ref aNu, .ref aAn, .int (nI 1), .int (nI 0), .int (nI (att + 1))])), (aK, .inr (1, [.ref aM, .ref aR, .ref aC, .ref aV, .ref aS, .int (nI held), .int (nI (prod + (2 * n - 1)))])), (aR, kd_ar cI room rows), (aC, kd_ar cI room cols), (aV, kd_ar cI room vals), (aS, kd_ar cI n v9.1), (aRi, kd_ar cI n b0), (aCh, kd_ar cI n (pCh P gg)), (aWo, kd_ar cI n v9.2), (aM, .inr (2, [.int (nI P)])), (tB, kd_ar cI (2 * n + 1) ((pRec P n rows cols vals held b0 gg).2.1)), (tT, kd_ar cI (2 * n + 1) t8), (aNu, kd_ar cI (2 * n) (pRow P n rows cols vals held b0 gg)), (aE, .inr (3, [.ref aM, .ref tC, .ref tB, .ref tT, .int (nI ((pRec P n rows cols vals held b0 gg).2.2.1)), .int (nI ((pRec P n rows cols vals held b0 gg).2.2.2.1)), .int (nI ((pRec P n rows cols vals held b0 gg).2.2.2.2))])), (tC, kd_ar cI (2 * n + 1) ((pRec P n rows cols vals held b0 gg).1))] H := hP
    have hD : va_D A [(aAn, kd_ar cI n an), (aG, .inr (0, [.int (nI (pGn gg n))])), (h0, .inr (4, [.ref aM, .ref aK, .ref aG, .ref aE, .int (nI n), .ref aRi, .ref aCh, .ref aWo, .ref aNu, .ref aAn, .int (nI 1), .int (nI 0), .int (nI (att + 1))])), (aK, .inr (1, [.ref aM, .ref aR, .ref aC, .ref aV, .ref aS, .int (nI held), .int (nI (prod + (2 * n - 1)))])), (aR, kd_ar cI room rows), (aC, kd_ar cI room cols), (aV, kd_ar cI room vals), (aS, kd_ar cI n v9.1), (aRi, kd_ar cI n b0), (aCh, kd_ar cI n (pCh P gg)), (aWo, kd_ar cI n v9.2), (aM, .inr (2, [.int (nI P)])), (tB, kd_ar cI (2 * n + 1) ((pRec P n rows cols vals held b0 gg).2.1)), (tT, kd_ar cI (2 * n + 1) t8), (aNu, kd_ar cI (2 * n) (pRow P n rows cols vals held b0 gg)), (aE, .inr (3, [.ref aM, .ref tC, .ref tB, .ref tT, .int (nI ((pRec P n rows cols vals held b0 gg).2.2.1)), .int (nI ((pRec P n rows cols vals held b0 gg).2.2.2.1)), .int (nI ((pRec P n rows cols vals held b0 gg).2.2.2.2))])), (tC, kd_ar cI (2 * n + 1) ((pRec P n rows cols vals held b0 gg).1))] := hD
    refine kd_ne0 (tgt := 61) hx hb dX4_attempt_56 (by decide) (by have := z1 (pRec P n rows cols vals held b0 gg).2.2.1; omega) (fun c_56 => ?_) (fun c_56 => ?_)
    · skip
      refine lv_aload_n hx hb dX4_attempt_61 rfl (lv_at hl 0 rfl) ?_
      refine kd_VV (As := []) (rest := []) (Wr := [(aG, .inr (0, [.int (nI (pGn gg n))])), (aCh, kd_ar cI n (pCh P gg)), (tB, kd_ar cI (2 * n + 1) ((pRec P n rows cols vals held b0 gg).2.1)), (tT, kd_ar cI (2 * n + 1) t8), (aNu, kd_ar cI (2 * n) (pRow P n rows cols vals held b0 gg))]) ⟨hx, hb, hml, hown, hts⟩ (c_X4_makeCandidate l D cI cJ h0 aM aK aG aE aRi aCh aWo aNu aAn aR aC aV aS tC tB tT P n room held (prod + (2 * n - 1)) rows cols vals v9.1 1 0 (att + 1) (pRec P n rows cols vals held b0 gg).2.2.1 (pRec P n rows cols vals held b0 gg).2.2.2.1 (pRec P n rows cols vals held b0 gg).2.2.2.2 b0 v9.2 an (pRec P n rows cols vals held b0 gg).1 g z3 z1) (cwV 0 hts gX4_attempt_X4_makeCandidate rfl rfl rfl (by decide +kernel) ⟨Nat.le_of_ble_eq_true rfl, Nat.le_of_ble_eq_true rfl⟩) hK hP hD hS hA [2, 11, 3, 4, 5, 6, 7, 15, 16, 8, 10, 0] [1, 9, 12, 13, 14] rfl rfl (by decide) (by decide) 0 rfl rfl rfl rfl hl.1 (Nat.le_of_ble_eq_true rfl) dX4_attempt_62 ⟨Nat.le_of_ble_eq_true rfl, Nat.le_of_ble_eq_true rfl⟩ (fun v8 H locs hP hD hS => ?_)
      have hP : va_P D vwCl [(aG, .inr (0, [.int (nI (pGn gg n))])), (aCh, kd_ar cI n (pCh P gg)), (tB, kd_ar cI (2 * n + 1) ((pRec P n rows cols vals held b0 gg).2.1)), (tT, kd_ar cI (2 * n + 1) t8), (aNu, kd_ar cI (2 * n) (pRow P n rows cols vals held b0 gg)), (h0, .inr (4, [.ref aM, .ref aK, .ref aG, .ref aE, .int (nI n), .ref aRi, .ref aCh, .ref aWo, .ref aNu, .ref aAn, .int (nI 1), .int (nI 0), .int (nI (att + 1))])), (aM, .inr (2, [.int (nI P)])), (aK, .inr (1, [.ref aM, .ref aR, .ref aC, .ref aV, .ref aS, .int (nI held), .int (nI (prod + (2 * n - 1) + ((pRec P n rows cols vals held b0 gg).2.2.1 - 1)))])), (aR, kd_ar cI room rows), (aC, kd_ar cI room cols), (aV, kd_ar cI room vals), (aS, kd_ar cI n v8.1), (aE, .inr (3, [.ref aM, .ref tC, .ref tB, .ref tT, .int (nI ((pRec P n rows cols vals held b0 gg).2.2.1)), .int (nI ((pRec P n rows cols vals held b0 gg).2.2.2.1)), .int (nI ((pRec P n rows cols vals held b0 gg).2.2.2.2))])), (tC, kd_ar cI (2 * n + 1) ((pRec P n rows cols vals held b0 gg).1)), (aRi, kd_ar cI n b0), (aWo, kd_ar cI n v8.2), (aAn, kd_ar cI n (pAtCa P n rows cols vals held b0 gg))] H := hP
      have hD : va_D A [(aG, .inr (0, [.int (nI (pGn gg n))])), (aCh, kd_ar cI n (pCh P gg)), (tB, kd_ar cI (2 * n + 1) ((pRec P n rows cols vals held b0 gg).2.1)), (tT, kd_ar cI (2 * n + 1) t8), (aNu, kd_ar cI (2 * n) (pRow P n rows cols vals held b0 gg)), (h0, .inr (4, [.ref aM, .ref aK, .ref aG, .ref aE, .int (nI n), .ref aRi, .ref aCh, .ref aWo, .ref aNu, .ref aAn, .int (nI 1), .int (nI 0), .int (nI (att + 1))])), (aM, .inr (2, [.int (nI P)])), (aK, .inr (1, [.ref aM, .ref aR, .ref aC, .ref aV, .ref aS, .int (nI held), .int (nI (prod + (2 * n - 1) + ((pRec P n rows cols vals held b0 gg).2.2.1 - 1)))])), (aR, kd_ar cI room rows), (aC, kd_ar cI room cols), (aV, kd_ar cI room vals), (aS, kd_ar cI n v8.1), (aE, .inr (3, [.ref aM, .ref tC, .ref tB, .ref tT, .int (nI ((pRec P n rows cols vals held b0 gg).2.2.1)), .int (nI ((pRec P n rows cols vals held b0 gg).2.2.2.1)), .int (nI ((pRec P n rows cols vals held b0 gg).2.2.2.2))])), (tC, kd_ar cI (2 * n + 1) ((pRec P n rows cols vals held b0 gg).1)), (aRi, kd_ar cI n b0), (aWo, kd_ar cI n v8.2), (aAn, kd_ar cI n (pAtCa P n rows cols vals held b0 gg))] := hD
      refine lv_aload_n hx hb dX4_attempt_65 rfl (lv_at hl 0 rfl) ?_
      refine lv_aload_n hx hb dX4_attempt_66 rfl (lv_at hl 0 rfl) ?_
      refine kd_VI (As := []) (rest := [.ref h0]) (Wr := [(aG, .inr (0, [.int (nI (pGn gg n))])), (aCh, kd_ar cI n (pCh P gg)), (tB, kd_ar cI (2 * n + 1) ((pRec P n rows cols vals held b0 gg).2.1)), (tT, kd_ar cI (2 * n + 1) t8), (aNu, kd_ar cI (2 * n) (pRow P n rows cols vals held b0 gg)), (aE, .inr (3, [.ref aM, .ref tC, .ref tB, .ref tT, .int (nI ((pRec P n rows cols vals held b0 gg).2.2.1)), .int (nI ((pRec P n rows cols vals held b0 gg).2.2.2.1)), .int (nI ((pRec P n rows cols vals held b0 gg).2.2.2.2))])), (tC, kd_ar cI (2 * n + 1) ((pRec P n rows cols vals held b0 gg).1))]) ⟨hx, hb, hml, hown, hts⟩ (c_X4_answerMeetsRight l D cI cJ h0 aM aK aG aE aRi aCh aWo aNu aAn aR aC aV aS P n room held (prod + (2 * n - 1) + ((pRec P n rows cols vals held b0 gg).2.2.1 - 1)) rows cols vals v8.1 1 0 (att + 1) b0 v8.2 (pAtCa P n rows cols vals held b0 gg) g (fun j _ => pCand_lt (by omega))) (cwV 0 hts gX4_attempt_X4_answerMeetsRight rfl rfl rfl (by decide +kernel) ⟨Nat.le_of_ble_eq_true rfl, Nat.le_of_ble_eq_true rfl⟩) hK hP hD hS hA [5, 6, 7, 8, 9, 10, 11, 14, 15, 16] [0, 1, 2, 3, 4, 12, 13] rfl rfl (by decide) (by decide) 0 rfl rfl rfl rfl hl.1 (Nat.le_of_ble_eq_true rfl) dX4_attempt_67 ⟨Nat.le_of_ble_eq_true rfl, Nat.le_of_ble_eq_true rfl⟩ (fun v7 H locs hP hD hS => ?_)
      have hP : va_P D vwCl [(aG, .inr (0, [.int (nI (pGn gg n))])), (aCh, kd_ar cI n (pCh P gg)), (tB, kd_ar cI (2 * n + 1) ((pRec P n rows cols vals held b0 gg).2.1)), (tT, kd_ar cI (2 * n + 1) t8), (aNu, kd_ar cI (2 * n) (pRow P n rows cols vals held b0 gg)), (aE, .inr (3, [.ref aM, .ref tC, .ref tB, .ref tT, .int (nI ((pRec P n rows cols vals held b0 gg).2.2.1)), .int (nI ((pRec P n rows cols vals held b0 gg).2.2.2.1)), .int (nI ((pRec P n rows cols vals held b0 gg).2.2.2.2))])), (tC, kd_ar cI (2 * n + 1) ((pRec P n rows cols vals held b0 gg).1)), (h0, .inr (4, [.ref aM, .ref aK, .ref aG, .ref aE, .int (nI n), .ref aRi, .ref aCh, .ref aWo, .ref aNu, .ref aAn, .int (nI 1), .int (nI 0), .int (nI (att + 1))])), (aM, .inr (2, [.int (nI P)])), (aK, .inr (1, [.ref aM, .ref aR, .ref aC, .ref aV, .ref aS, .int (nI held), .int (nI (prod + (2 * n - 1) + ((pRec P n rows cols vals held b0 gg).2.2.1 - 1) + 1))])), (aR, kd_ar cI room rows), (aC, kd_ar cI room cols), (aV, kd_ar cI room vals), (aS, kd_ar cI n v7.1), (aRi, kd_ar cI n b0), (aWo, kd_ar cI n v7.2), (aAn, kd_ar cI n (pAtCa P n rows cols vals held b0 gg))] H := hP
      have hD : va_D A [(aG, .inr (0, [.int (nI (pGn gg n))])), (aCh, kd_ar cI n (pCh P gg)), (tB, kd_ar cI (2 * n + 1) ((pRec P n rows cols vals held b0 gg).2.1)), (tT, kd_ar cI (2 * n + 1) t8), (aNu, kd_ar cI (2 * n) (pRow P n rows cols vals held b0 gg)), (aE, .inr (3, [.ref aM, .ref tC, .ref tB, .ref tT, .int (nI ((pRec P n rows cols vals held b0 gg).2.2.1)), .int (nI ((pRec P n rows cols vals held b0 gg).2.2.2.1)), .int (nI ((pRec P n rows cols vals held b0 gg).2.2.2.2))])), (tC, kd_ar cI (2 * n + 1) ((pRec P n rows cols vals held b0 gg).1)), (h0, .inr (4, [.ref aM, .ref aK, .ref aG, .ref aE, .int (nI n), .ref aRi, .ref aCh, .ref aWo, .ref aNu, .ref aAn, .int (nI 1), .int (nI 0), .int (nI (att + 1))])), (aM, .inr (2, [.int (nI P)])), (aK, .inr (1, [.ref aM, .ref aR, .ref aC, .ref aV, .ref aS, .int (nI held), .int (nI (prod + (2 * n - 1) + ((pRec P n rows cols vals held b0 gg).2.2.1 - 1) + 1))])), (aR, kd_ar cI room rows), (aC, kd_ar cI room cols), (aV, kd_ar cI room vals), (aS, kd_ar cI n v7.1), (aRi, kd_ar cI n b0), (aWo, kd_ar cI n v7.2), (aAn, kd_ar cI n (pAtCa P n rows cols vals held b0 gg))] := hD
      refine va_put (D := D) (ci := 4) (v := .int (nI (pB (pHolds P n rows cols vals held b0 (pAtCa P n rows cols vals held b0 gg))))) (ty := .boolean) (C := RX4) (T := TX4) (N := 13) hx hb hts i_X4 tyX4 tyX4_ok nmX4 hown hK hP hD hS 7 rfl rfl 11 (by decide) fl96 (fun _ h9 => h9) rfl (by decide +kernel) (pB_nar _) (pB_fit _) (Nat.le_of_ble_eq_true rfl) dX4_attempt_70 (fun H locs hP hD hS => ?_)
      have hP : va_P D vwCl [(aG, .inr (0, [.int (nI (pGn gg n))])), (aCh, kd_ar cI n (pCh P gg)), (tB, kd_ar cI (2 * n + 1) ((pRec P n rows cols vals held b0 gg).2.1)), (tT, kd_ar cI (2 * n + 1) t8), (aNu, kd_ar cI (2 * n) (pRow P n rows cols vals held b0 gg)), (aE, .inr (3, [.ref aM, .ref tC, .ref tB, .ref tT, .int (nI ((pRec P n rows cols vals held b0 gg).2.2.1)), .int (nI ((pRec P n rows cols vals held b0 gg).2.2.2.1)), .int (nI ((pRec P n rows cols vals held b0 gg).2.2.2.2))])), (tC, kd_ar cI (2 * n + 1) ((pRec P n rows cols vals held b0 gg).1)), (h0, .inr (4, [.ref aM, .ref aK, .ref aG, .ref aE, .int (nI n), .ref aRi, .ref aCh, .ref aWo, .ref aNu, .ref aAn, .int (nI 1), .int (nI (pB (pHolds P n rows cols vals held b0 (pAtCa P n rows cols vals held b0 gg)))), .int (nI (att + 1))])), (aM, .inr (2, [.int (nI P)])), (aK, .inr (1, [.ref aM, .ref aR, .ref aC, .ref aV, .ref aS, .int (nI held), .int (nI (prod + (2 * n - 1) + ((pRec P n rows cols vals held b0 gg).2.2.1 - 1) + 1))])), (aR, kd_ar cI room rows), (aC, kd_ar cI room cols), (aV, kd_ar cI room vals), (aS, kd_ar cI n v7.1), (aRi, kd_ar cI n b0), (aWo, kd_ar cI n v7.2), (aAn, kd_ar cI n (pAtCa P n rows cols vals held b0 gg))] H := hP
      have hD : va_D A [(aG, .inr (0, [.int (nI (pGn gg n))])), (aCh, kd_ar cI n (pCh P gg)), (tB, kd_ar cI (2 * n + 1) ((pRec P n rows cols vals held b0 gg).2.1)), (tT, kd_ar cI (2 * n + 1) t8), (aNu, kd_ar cI (2 * n) (pRow P n rows cols vals held b0 gg)), (aE, .inr (3, [.ref aM, .ref tC, .ref tB, .ref tT, .int (nI ((pRec P n rows cols vals held b0 gg).2.2.1)), .int (nI ((pRec P n rows cols vals held b0 gg).2.2.2.1)), .int (nI ((pRec P n rows cols vals held b0 gg).2.2.2.2))])), (tC, kd_ar cI (2 * n + 1) ((pRec P n rows cols vals held b0 gg).1)), (h0, .inr (4, [.ref aM, .ref aK, .ref aG, .ref aE, .int (nI n), .ref aRi, .ref aCh, .ref aWo, .ref aNu, .ref aAn, .int (nI 1), .int (nI (pB (pHolds P n rows cols vals held b0 (pAtCa P n rows cols vals held b0 gg)))), .int (nI (att + 1))])), (aM, .inr (2, [.int (nI P)])), (aK, .inr (1, [.ref aM, .ref aR, .ref aC, .ref aV, .ref aS, .int (nI held), .int (nI (prod + (2 * n - 1) + ((pRec P n rows cols vals held b0 gg).2.2.1 - 1) + 1))])), (aR, kd_ar cI room rows), (aC, kd_ar cI room cols), (aV, kd_ar cI room vals), (aS, kd_ar cI n v7.1), (aRi, kd_ar cI n b0), (aWo, kd_ar cI n v7.2), (aAn, kd_ar cI n (pAtCa P n rows cols vals held b0 gg))] := hD
      refine lv_aload_n hx hb dX4_attempt_73 rfl (lv_at hl 0 rfl) ?_
      refine va_get (D := D) (ci := 4) (v := .int (nI (pB (pHolds P n rows cols vals held b0 (pAtCa P n rows cols vals held b0 gg))))) (C := RX4) (T := TX4) (N := 13) hx hb hts i_X4 hown hK hP 7 rfl rfl 11 (by decide) fl96 (fun _ h9 => h9) rfl dX4_attempt_74 ?_
      refine kd_eq0 (tgt := 84) hx hb dX4_attempt_77 (by decide) (by have := pB_lt (pHolds P n rows cols vals held b0 (pAtCa P n rows cols vals held b0 gg)); omega) (fun c_77 => ?_) (fun c_77 => ?_)
      · skip
        refine lv_iconst (v := (nI 4)) hx hb dX4_attempt_84 (by decide) ?_
        have e0 : ¬ pAtCn P n rows cols vals held b0 gg := by
          intro q
          first | exact c_56 q.2 | (have := q.1; omega)
        obtain ⟨e1, e2, e3, e4⟩ := pAt_n e0
        rw [e2, e3, e4] at ret
        exact ret (v7.1, v7.2, (pCh P gg), (pRec P n rows cols vals held b0 gg).2.1, t8, (pRec P n rows cols vals held b0 gg).2.2.2.1, (pRec P n rows cols vals held b0 gg).2.2.2.2) _ _ _ _ _ dX4_attempt_85 (by rw [e1]; first | rw [if_pos (pB_e1 c_77)] | rw [if_neg (pB_e0 c_77)]) hS (hP.sub [7, 8, 0, 9, 10, 11, 12, 13, 5, 6, 2, 3, 14, 1, 15, 4, 16] rfl) (hD.sub [7, 8, 0, 9, 10, 11, 12, 13, 5, 6, 2, 3, 14, 1, 15, 4, 16] (by decide) rfl)
      · skip
        refine lv_iconst (v := (nI 0)) hx hb dX4_attempt_80 (by decide) ?_
        refine lv_goto (tgt := 85) hx hb dX4_attempt_81 (by decide) ?_
        have e0 : ¬ pAtCn P n rows cols vals held b0 gg := by
          intro q
          first | exact c_56 q.2 | (have := q.1; omega)
        obtain ⟨e1, e2, e3, e4⟩ := pAt_n e0
        rw [e2, e3, e4] at ret
        exact ret (v7.1, v7.2, (pCh P gg), (pRec P n rows cols vals held b0 gg).2.1, t8, (pRec P n rows cols vals held b0 gg).2.2.2.1, (pRec P n rows cols vals held b0 gg).2.2.2.2) _ _ _ _ _ dX4_attempt_85 (by rw [e1]; first | rw [if_pos (pB_e1 c_77)] | rw [if_neg (pB_e0 c_77)]) hS (hP.sub [7, 8, 0, 9, 10, 11, 12, 13, 5, 6, 2, 3, 14, 1, 15, 4, 16] rfl) (hD.sub [7, 8, 0, 9, 10, 11, 12, 13, 5, 6, 2, 3, 14, 1, 15, 4, 16] (by decide) rfl)
    · skip
      refine lv_iconst (v := (nI 3)) hx hb dX4_attempt_59 (by decide) ?_
      obtain ⟨e1, e2, e3, e4⟩ := pAt_c (show pAtCn P n rows cols vals held b0 gg from ⟨by omega, c_56⟩)
      rw [e2, e3, e4] at ret
      exact ret (v9.1, v9.2, (pCh P gg), (pRec P n rows cols vals held b0 gg).2.1, t8, (pRec P n rows cols vals held b0 gg).2.2.2.1, (pRec P n rows cols vals held b0 gg).2.2.2.2) _ _ _ _ _ dX4_attempt_60 (by rw [e1]) hS (hP.sub [2, 11, 1, 3, 4, 5, 6, 7, 15, 16, 12, 13, 8, 9, 10, 14, 0] rfl) (hD.sub [2, 11, 1, 3, 4, 5, 6, 7, 15, 16, 12, 13, 8, 9, 10, 14, 0] (by decide) rfl)

set_option maxHeartbeats 4000000 in
set_option maxRecDepth 100000 in
/-- attempts, until one is solved -/
theorem c_X4_solve (l : Launch) (D : va_G) (cI cJ : ClassId) (h0 aM aK aG aE aRi aCh aWo aNu aAn : Nat) (aR aC aV aS : Nat) (tC tB tT : Nat) (P n room held prod : Nat) (rows cols vals sums : Nat → Nat) (rs ss att gg L sh em : Nat) (b0 ch wo nu an C B T : Nat → Nat) (i0 : Int32) (g : pOK P n room held rows cols vals b0) : kd_MI (S := (Nat → Nat) × (Nat → Nat) × (Nat → Nat) × (Nat → Nat) × (Nat → Nat) × Nat × Nat) l yX4_solve wsX4_solve { frames := 5, cells := 0, slots := 0, locals := 130 } [.ref h0, .int i0] D vwCl cI cJ [(h0, .inr (4, [.ref aM, .ref aK, .ref aG, .ref aE, .int (nI n), .ref aRi, .ref aCh, .ref aWo, .ref aNu, .ref aAn, .int (nI rs), .int (nI ss), .int (nI att)])), (aM, .inr (2, [.int (nI P)])), (aG, .inr (0, [.int (nI gg)])), (aK, .inr (1, [.ref aM, .ref aR, .ref aC, .ref aV, .ref aS, .int (nI held), .int (nI prod)])), (aR, kd_ar cI room rows), (aC, kd_ar cI room cols), (aV, kd_ar cI room vals), (aS, kd_ar cI n sums), (aE, .inr (3, [.ref aM, .ref tC, .ref tB, .ref tT, .int (nI L), .int (nI sh), .int (nI em)])), (tC, kd_ar cI (2 * n + 1) C), (tB, kd_ar cI (2 * n + 1) B), (tT, kd_ar cI (2 * n + 1) T), (aRi, kd_ar cI n b0), (aCh, kd_ar cI n ch), (aWo, kd_ar cI n wo), (aNu, kd_ar cI (2 * n) nu), (aAn, kd_ar cI n an)] (fun v9 => nI (sTold P n rows cols vals held b0 gg (pTries P n rows cols vals held b0 gg i0))) (fun v9 => [(h0, .inr (4, [.ref aM, .ref aK, .ref aG, .ref aE, .int (nI n), .ref aRi, .ref aCh, .ref aWo, .ref aNu, .ref aAn, .int (nI (sRs rs (pTries P n rows cols vals held b0 gg i0))), .int (nI (sSs P n rows cols vals held b0 gg ss (pTries P n rows cols vals held b0 gg i0))), .int (nI (att + (pTries P n rows cols vals held b0 gg i0)))])), (aM, .inr (2, [.int (nI P)])), (aG, .inr (0, [.int (nI (sG n gg (pTries P n rows cols vals held b0 gg i0)))])), (aK, .inr (1, [.ref aM, .ref aR, .ref aC, .ref aV, .ref aS, .int (nI held), .int (nI (sProd P n rows cols vals held b0 gg prod (pTries P n rows cols vals held b0 gg i0)))])), (aR, kd_ar cI room rows), (aC, kd_ar cI room cols), (aV, kd_ar cI room vals), (aS, kd_ar cI n v9.1), (aE, .inr (3, [.ref aM, .ref tC, .ref tB, .ref tT, .int (nI (sL P n rows cols vals held b0 gg L (pTries P n rows cols vals held b0 gg i0))), .int (nI v9.2.2.2.2.2.1), .int (nI v9.2.2.2.2.2.2)])), (tC, kd_ar cI (2 * n + 1) (sC P n rows cols vals held b0 gg C (pTries P n rows cols vals held b0 gg i0))), (tB, kd_ar cI (2 * n + 1) v9.2.2.2.1), (tT, kd_ar cI (2 * n + 1) v9.2.2.2.2.1), (aRi, kd_ar cI n b0), (aCh, kd_ar cI n v9.2.2.1), (aWo, kd_ar cI n v9.2.1), (aNu, kd_ar cI (2 * n) (sNu P n rows cols vals held b0 gg nu (pTries P n rows cols vals held b0 gg i0))), (aAn, kd_ar cI n (sAn P n rows cols vals held b0 gg an (pTries P n rows cols vals held b0 gg i0)))]) 0 0 := by
  refine kd_enterI (cc := cX4_solve) (maxL := 4) (by decide) rfl (Nat.le_of_ble_eq_true rfl) ?_
  intro p e s m args below meth c A ls Q hx hb hr hts hown hlk hnm hml hP hK hD hA hS hl ret
  have hl : lv_has ls 4 [(0, .ref h0), (1, .int i0)] := hl
  have hown : s.vm.findClass RX4 = some m.cls := hown
  refine lv_iload_n hx hb dX4_solve_0 rfl (lv_at hl 1 rfl) ?_
  refine lv_iconst (v := (nI 1)) hx hb dX4_solve_1 (by decide) ?_
  refine lv_icmp_lt (tgt := 11) hx hb dX4_solve_2 (by decide) (fun c_2 => ?_) (fun c_2 => ?_)
  · skip
    refine lv_iconst (v := (nI 5)) hx hb dX4_solve_11 (by decide) ?_
    have e9 : pTries P n rows cols vals held b0 gg i0 = 0 := if_neg (by first | exact pMost_lo c_2 | exact pMost_hi c_8)
    rw [e9] at ret
    exact ret (sums, wo, ch, B, T, sh, em) _ _ _ _ _ dX4_solve_12 rfl hS (hP.sub [0, 1, 2, 3, 4, 5, 6, 7, 8, 9, 10, 11, 12, 13, 14, 15, 16] rfl) (hD.sub [0, 1, 2, 3, 4, 5, 6, 7, 8, 9, 10, 11, 12, 13, 14, 15, 16] (by decide) rfl)
  · skip
    refine lv_iload_n hx hb dX4_solve_5 rfl (lv_at hl 1 rfl) ?_
    refine lv_bipush (v := (nI 50)) hx hb dX4_solve_6 (by decide) ?_
    refine lv_icmp_le (tgt := 13) hx hb dX4_solve_8 (by decide) (fun c_8 => ?_) (fun c_8 => ?_)
    · skip
      obtain ⟨hmo, mo, hm1, hm2, rfl⟩ := pMost_in c_2 c_8
      refine lv_iconst (v := (nI 5)) hx hb dX4_solve_13 (by decide) ?_
      refine lv_istore_n (lv' := [(2, .int (nI 5)), (0, .ref h0), (1, .int (nI mo))]) hx hb dX4_solve_14 rfl hl (by decide) rfl (fun ls hl => ?_)
      refine lv_iconst (v := (nI 0)) hx hb dX4_solve_15 (by decide) ?_
      refine lv_istore_n (lv' := [(3, .int (nI 0)), (2, .int (nI 5)), (0, .ref h0), (1, .int (nI mo))]) hx hb dX4_solve_16 rfl hl (by decide) rfl (fun ls hl => ?_)
      have lp : ∀ (k_lp : Nat) (k : Nat) (v9 : (Nat → Nat) × (Nat → Nat) × (Nat → Nat) × (Nat → Nat) × (Nat → Nat) × Nat × Nat) (H : Heap) (locs : List Loc) (ls : Array Slot), (mo - k < k_lp) → (k ≤ mo) → (pTryAt (sTold P n rows cols vals held b0 gg) mo k) → va_P D vwCl [(h0, .inr (4, [.ref aM, .ref aK, .ref aG, .ref aE, .int (nI n), .ref aRi, .ref aCh, .ref aWo, .ref aNu, .ref aAn, .int (nI (sRs rs k)), .int (nI (sSs P n rows cols vals held b0 gg ss k)), .int (nI (att + k))])), (aM, .inr (2, [.int (nI P)])), (aG, .inr (0, [.int (nI (sG n gg k))])), (aK, .inr (1, [.ref aM, .ref aR, .ref aC, .ref aV, .ref aS, .int (nI held), .int (nI (sProd P n rows cols vals held b0 gg prod k))])), (aR, kd_ar cI room rows), (aC, kd_ar cI room cols), (aV, kd_ar cI room vals), (aS, kd_ar cI n v9.1), (aE, .inr (3, [.ref aM, .ref tC, .ref tB, .ref tT, .int (nI (sL P n rows cols vals held b0 gg L k)), .int (nI v9.2.2.2.2.2.1), .int (nI v9.2.2.2.2.2.2)])), (tC, kd_ar cI (2 * n + 1) (sC P n rows cols vals held b0 gg C k)), (tB, kd_ar cI (2 * n + 1) v9.2.2.2.1), (tT, kd_ar cI (2 * n + 1) v9.2.2.2.2.1), (aRi, kd_ar cI n b0), (aCh, kd_ar cI n v9.2.2.1), (aWo, kd_ar cI n v9.2.1), (aNu, kd_ar cI (2 * n) (sNu P n rows cols vals held b0 gg nu k)), (aAn, kd_ar cI n (sAn P n rows cols vals held b0 gg an k))] H → va_D A [(h0, .inr (4, [.ref aM, .ref aK, .ref aG, .ref aE, .int (nI n), .ref aRi, .ref aCh, .ref aWo, .ref aNu, .ref aAn, .int (nI (sRs rs k)), .int (nI (sSs P n rows cols vals held b0 gg ss k)), .int (nI (att + k))])), (aM, .inr (2, [.int (nI P)])), (aG, .inr (0, [.int (nI (sG n gg k))])), (aK, .inr (1, [.ref aM, .ref aR, .ref aC, .ref aV, .ref aS, .int (nI held), .int (nI (sProd P n rows cols vals held b0 gg prod k))])), (aR, kd_ar cI room rows), (aC, kd_ar cI room cols), (aV, kd_ar cI room vals), (aS, kd_ar cI n v9.1), (aE, .inr (3, [.ref aM, .ref tC, .ref tB, .ref tT, .int (nI (sL P n rows cols vals held b0 gg L k)), .int (nI v9.2.2.2.2.2.1), .int (nI v9.2.2.2.2.2.2)])), (tC, kd_ar cI (2 * n + 1) (sC P n rows cols vals held b0 gg C k)), (tB, kd_ar cI (2 * n + 1) v9.2.2.2.1), (tT, kd_ar cI (2 * n + 1) v9.2.2.2.2.1), (aRi, kd_ar cI n b0), (aCh, kd_ar cI n v9.2.2.1), (aWo, kd_ar cI n v9.2.1), (aNu, kd_ar cI (2 * n) (sNu P n rows cols vals held b0 gg nu k)), (aAn, kd_ar cI n (sAn P n rows cols vals held b0 gg an k))] → va_S A s.heap H locs → lv_has ls 4 [(3, .int (nI k)), (2, .int (nI (sTold P n rows cols vals held b0 gg k))), (0, .ref h0), (1, .int (nI mo))] → W p l e { frames := 5, cells := 0, slots := 0, locals := 130 } s m args below meth c H locs 0 0 Q (F0 m 17 ls []) := by
        intro k_lp
        induction k_lp with
        | zero => intro k v9 H locs ls i1 i2 i3 hP hD hS hl; omega
        | succ k_lp ih_lp =>
          intro k v9 H locs ls i1 i2 i3 hP hD hS hl
          refine lv_iload_n hx hb dX4_solve_17 rfl (lv_at hl 0 rfl) ?_
          refine lv_iload_n hx hb dX4_solve_18 rfl (lv_at hl 3 rfl) ?_
          refine kd_ge (tgt := 37) hx hb dX4_solve_19 (by decide) (by omega) (by omega) (fun c_19 => ?_) (fun c_19 => ?_)
          · skip
            refine lv_iload_n hx hb dX4_solve_37 rfl (lv_at hl 1 rfl) ?_
            have e9 : pTries P n rows cols vals held b0 gg (nI mo) = k := pTries_end hmo (by omega) (by omega) i3 (by first | exact Or.inr c_23 | exact Or.inl (by omega))
            rw [e9] at ret
            exact ret v9 _ _ _ _ _ dX4_solve_38 rfl hS (hP.sub [0, 1, 2, 3, 4, 5, 6, 7, 8, 9, 10, 11, 12, 13, 14, 15, 16] rfl) (hD.sub [0, 1, 2, 3, 4, 5, 6, 7, 8, 9, 10, 11, 12, 13, 14, 15, 16] (by decide) rfl)
          · skip
            refine lv_iload_n hx hb dX4_solve_22 rfl (lv_at hl 1 rfl) ?_
            refine kd_eq0 (tgt := 37) hx hb dX4_solve_23 (by decide) (by have := sTold_lt (P := P) (n := n) (rows := rows) (cols := cols) (vals := vals) (held := held) (b := b0) (g := gg) k; omega) (fun c_23 => ?_) (fun c_23 => ?_)
            · skip
              refine lv_iload_n hx hb dX4_solve_37 rfl (lv_at hl 1 rfl) ?_
              have e9 : pTries P n rows cols vals held b0 gg (nI mo) = k := pTries_end hmo (by omega) (by omega) i3 (by first | exact Or.inr c_23 | exact Or.inl (by omega))
              rw [e9] at ret
              exact ret v9 _ _ _ _ _ dX4_solve_38 rfl hS (hP.sub [0, 1, 2, 3, 4, 5, 6, 7, 8, 9, 10, 11, 12, 13, 14, 15, 16] rfl) (hD.sub [0, 1, 2, 3, 4, 5, 6, 7, 8, 9, 10, 11, 12, 13, 14, 15, 16] (by decide) rfl)
            · skip
              refine lv_aload_n hx hb dX4_solve_26 rfl (lv_at hl 2 rfl) ?_
              refine kd_VI (As := []) (rest := []) (Wr := []) ⟨hx, hb, hml, hown, hts⟩ (c_X4_attempt l D cI cJ h0 aM aK aG aE aRi aCh aWo aNu aAn aR aC aV aS tC tB tT P n room held (sProd P n rows cols vals held b0 gg prod k) rows cols vals v9.1 (sRs rs k) (sSs P n rows cols vals held b0 gg ss k) (att + k) (sG n gg k) (sL P n rows cols vals held b0 gg L k) v9.2.2.2.2.2.1 v9.2.2.2.2.2.2 b0 v9.2.2.1 v9.2.1 (sNu P n rows cols vals held b0 gg nu k) (sAn P n rows cols vals held b0 gg an k) (sC P n rows cols vals held b0 gg C k) v9.2.2.2.1 v9.2.2.2.2.1 g) (cwV 0 hts gX4_solve_X4_attempt rfl rfl rfl (by decide +kernel) ⟨Nat.le_of_ble_eq_true rfl, Nat.le_of_ble_eq_true rfl⟩) hK hP hD hS hA [0, 1, 2, 3, 4, 5, 6, 7, 8, 9, 10, 11, 12, 13, 14, 15, 16] [] rfl rfl (by decide) (by decide) 0 rfl rfl rfl rfl hl.1 (Nat.le_of_ble_eq_true rfl) dX4_solve_27 ⟨Nat.le_of_ble_eq_true rfl, Nat.le_of_ble_eq_true rfl⟩ (fun v9 H locs hP hD hS => ?_)
              have hP : va_P D vwCl [(h0, .inr (4, [.ref aM, .ref aK, .ref aG, .ref aE, .int (nI n), .ref aRi, .ref aCh, .ref aWo, .ref aNu, .ref aAn, .int (nI (sRs rs (k + 1))), .int (nI (sSs P n rows cols vals held b0 gg ss (k + 1))), .int (nI (att + (k + 1)))])), (aM, .inr (2, [.int (nI P)])), (aG, .inr (0, [.int (nI (sG n gg (k + 1)))])), (aK, .inr (1, [.ref aM, .ref aR, .ref aC, .ref aV, .ref aS, .int (nI held), .int (nI (sProd P n rows cols vals held b0 gg prod (k + 1)))])), (aR, kd_ar cI room rows), (aC, kd_ar cI room cols), (aV, kd_ar cI room vals), (aS, kd_ar cI n v9.1), (aE, .inr (3, [.ref aM, .ref tC, .ref tB, .ref tT, .int (nI (sL P n rows cols vals held b0 gg L (k + 1))), .int (nI v9.2.2.2.2.2.1), .int (nI v9.2.2.2.2.2.2)])), (tC, kd_ar cI (2 * n + 1) (sC P n rows cols vals held b0 gg C (k + 1))), (tB, kd_ar cI (2 * n + 1) v9.2.2.2.1), (tT, kd_ar cI (2 * n + 1) v9.2.2.2.2.1), (aRi, kd_ar cI n b0), (aCh, kd_ar cI n v9.2.2.1), (aWo, kd_ar cI n v9.2.1), (aNu, kd_ar cI (2 * n) (sNu P n rows cols vals held b0 gg nu (k + 1))), (aAn, kd_ar cI n (sAn P n rows cols vals held b0 gg an (k + 1)))] H := hP
              have hD : va_D A [(h0, .inr (4, [.ref aM, .ref aK, .ref aG, .ref aE, .int (nI n), .ref aRi, .ref aCh, .ref aWo, .ref aNu, .ref aAn, .int (nI (sRs rs (k + 1))), .int (nI (sSs P n rows cols vals held b0 gg ss (k + 1))), .int (nI (att + (k + 1)))])), (aM, .inr (2, [.int (nI P)])), (aG, .inr (0, [.int (nI (sG n gg (k + 1)))])), (aK, .inr (1, [.ref aM, .ref aR, .ref aC, .ref aV, .ref aS, .int (nI held), .int (nI (sProd P n rows cols vals held b0 gg prod (k + 1)))])), (aR, kd_ar cI room rows), (aC, kd_ar cI room cols), (aV, kd_ar cI room vals), (aS, kd_ar cI n v9.1), (aE, .inr (3, [.ref aM, .ref tC, .ref tB, .ref tT, .int (nI (sL P n rows cols vals held b0 gg L (k + 1))), .int (nI v9.2.2.2.2.2.1), .int (nI v9.2.2.2.2.2.2)])), (tC, kd_ar cI (2 * n + 1) (sC P n rows cols vals held b0 gg C (k + 1))), (tB, kd_ar cI (2 * n + 1) v9.2.2.2.1), (tT, kd_ar cI (2 * n + 1) v9.2.2.2.2.1), (aRi, kd_ar cI n b0), (aCh, kd_ar cI n v9.2.2.1), (aWo, kd_ar cI n v9.2.1), (aNu, kd_ar cI (2 * n) (sNu P n rows cols vals held b0 gg nu (k + 1))), (aAn, kd_ar cI n (sAn P n rows cols vals held b0 gg an (k + 1)))] := hD
              refine lv_istore_n (lv' := [(2, .int (nI (sTold P n rows cols vals held b0 gg (k + 1)))), (3, .int (nI k)), (0, .ref h0), (1, .int (nI mo))]) hx hb dX4_solve_30 rfl hl (by decide) rfl (fun ls hl => ?_)
              refine lv_iinc (v := (nI (k + 1))) (lv' := [(3, .int (nI (k + 1))), (2, .int (nI (sTold P n rows cols vals held b0 gg (k + 1)))), (0, .ref h0), (1, .int (nI mo))]) hx hb dX4_solve_31 hl (k := 1) rfl (nI_1 _) (by decide) rfl (fun ls hl => ?_)
              refine lv_goto (tgt := 17) hx hb dX4_solve_34 (by decide) ?_
              exact ih_lp (k + 1) v9 _ _ _ (by omega) (by omega) (pTry_step i3 (by omega) c_23 (by omega)) (hP.sub [0, 1, 2, 3, 4, 5, 6, 7, 8, 9, 10, 11, 12, 13, 14, 15, 16] rfl) (hD.sub [0, 1, 2, 3, 4, 5, 6, 7, 8, 9, 10, 11, 12, 13, 14, 15, 16] (by decide) rfl) hS (lv_sub hl [0, 1, 2, 3] rfl)
      exact lp (mo + 1) 0 (sums, wo, ch, B, T, sh, em) _ _ _ (by omega) (by omega) pTryAt_0 (hP.sub [0, 1, 2, 3, 4, 5, 6, 7, 8, 9, 10, 11, 12, 13, 14, 15, 16] rfl) (hD.sub [0, 1, 2, 3, 4, 5, 6, 7, 8, 9, 10, 11, 12, 13, 14, 15, 16] (by decide) rfl) hS (lv_sub hl [0, 1, 2, 3] rfl)
    · skip
      refine lv_iconst (v := (nI 5)) hx hb dX4_solve_11 (by decide) ?_
      have e9 : pTries P n rows cols vals held b0 gg i0 = 0 := if_neg (by first | exact pMost_lo c_2 | exact pMost_hi c_8)
      rw [e9] at ret
      exact ret (sums, wo, ch, B, T, sh, em) _ _ _ _ _ dX4_solve_12 rfl hS (hP.sub [0, 1, 2, 3, 4, 5, 6, 7, 8, 9, 10, 11, 12, 13, 14, 15, 16] rfl) (hD.sub [0, 1, 2, 3, 4, 5, 6, 7, 8, 9, 10, 11, 12, 13, 14, 15, 16] (by decide) rfl)
end
section
set_option maxHeartbeats 4000000 in
set_option maxRecDepth 100000 in
/-- entry -/
theorem c_X4_entry (l : Launch) (D : va_G) (cI cJ : ClassId) (h0 aM aK aG aE aRi aCh aWo aNu aAn : Nat) (aR aC aV aS : Nat) (P n room held prod : Nat) (rows cols vals : Nat → Nat) (rs ss att : Nat) (r0 c0 v0 : Int32) (g1 : 2 ≤ P) (g2 : P ≤ 46337) (g4 : n ≤ 16) (g5 : room ≤ 100) (g6 : held ≤ room) : kd_MI (S := Unit) l yX4_entry wsX4_entry { frames := 1, cells := 0, slots := 0, locals := 23 } [.ref h0, .int r0, .int c0, .int v0] D vwCl cI cJ [(h0, .inr (4, [.ref aM, .ref aK, .ref aG, .ref aE, .int (nI n), .ref aRi, .ref aCh, .ref aWo, .ref aNu, .ref aAn, .int (nI rs), .int (nI ss), .int (nI att)])), (aM, .inr (2, [.int (nI P)])), (aK, .inr (1, [.ref aM, .ref aR, .ref aC, .ref aV, .ref aS, .int (nI held), .int (nI prod)])), (aR, kd_ar cI room rows), (aC, kd_ar cI room cols), (aV, kd_ar cI room vals)] (fun _ => nI (pEntry n room held r0 c0)) (fun _ => [(h0, .inr (4, [.ref aM, .ref aK, .ref aG, .ref aE, .int (nI n), .ref aRi, .ref aCh, .ref aWo, .ref aNu, .ref aAn, .int (nI (if pOkE n room held r0 c0 then 0 else rs)), .int (nI (if pOkE n room held r0 c0 then 0 else ss)), .int (nI att)])), (aM, .inr (2, [.int (nI P)])), (aK, .inr (1, [.ref aM, .ref aR, .ref aC, .ref aV, .ref aS, .int (nI (if pOkE n room held r0 c0 then held + 1 else held)), .int (nI prod)])), (aR, kd_ar cI room (if pOkE n room held r0 c0 then va_up rows held (pIx r0) else rows)), (aC, kd_ar cI room (if pOkE n room held r0 c0 then va_up cols held (pIx c0) else cols)), (aV, kd_ar cI room (if pOkE n room held r0 c0 then va_up vals held (pRed P v0) else vals))]) 0 0 := by
  refine kd_enterI (cc := cX4_entry) (maxL := 4) (by decide) rfl (Nat.le_of_ble_eq_true rfl) ?_
  intro p e s m args below meth c A ls Q hx hb hr hts hown hlk hnm hml hP hK hD hA hS hl ret
  have hl : lv_has ls 4 [(0, .ref h0), (1, .int r0), (2, .int c0), (3, .int v0)] := hl
  have hown : s.vm.findClass RX4 = some m.cls := hown
  have i_X4 : ∀ w ∈ wsX40, w ∈ wsX4_entry := by decide +kernel
  have fl36 := hts (.fieldLink RX4 36 "KrylovDesk" "matrix" "LKrylovDesk$Matrix;") (by decide +kernel)
  have fl27 := hts (.fieldLink RX4 27 "KrylovDesk" "modulus" "LKrylovDesk$Modulus;") (by decide +kernel)
  refine lv_aload_n hx hb dX4_entry_0 rfl (lv_at hl 0 rfl) ?_
  refine lv_iload_n hx hb dX4_entry_1 rfl (lv_at hl 1 rfl) ?_
  refine kd_VI (As := [.int r0]) (rest := []) (Wr := [(aM, .inr (2, [.int (nI P)])), (aK, .inr (1, [.ref aM, .ref aR, .ref aC, .ref aV, .ref aS, .int (nI held), .int (nI prod)])), (aR, kd_ar cI room rows), (aC, kd_ar cI room cols), (aV, kd_ar cI room vals)]) ⟨hx, hb, hml, hown, hts⟩ (c_X4_isPlace l D cI cJ h0 aM aK aG aE aRi aCh aWo aNu aAn n rs ss att r0 g4) (cwV 1 hts gX4_entry_X4_isPlace rfl rfl rfl (by decide +kernel) ⟨Nat.le_of_ble_eq_true rfl, Nat.le_of_ble_eq_true rfl⟩) hK hP hD hS hA [0] [1, 2, 3, 4, 5] rfl rfl (by decide) (by decide) 0 rfl rfl rfl rfl hl.1 (Nat.le_of_ble_eq_true rfl) dX4_entry_2 ⟨Nat.le_of_ble_eq_true rfl, Nat.le_of_ble_eq_true rfl⟩ (fun _ H locs hP hD hS => ?_)
  have hP : va_P D vwCl [(aM, .inr (2, [.int (nI P)])), (aK, .inr (1, [.ref aM, .ref aR, .ref aC, .ref aV, .ref aS, .int (nI held), .int (nI prod)])), (aR, kd_ar cI room rows), (aC, kd_ar cI room cols), (aV, kd_ar cI room vals), (h0, .inr (4, [.ref aM, .ref aK, .ref aG, .ref aE, .int (nI n), .ref aRi, .ref aCh, .ref aWo, .ref aNu, .ref aAn, .int (nI rs), .int (nI ss), .int (nI att)]))] H := hP
  have hD : va_D A [(aM, .inr (2, [.int (nI P)])), (aK, .inr (1, [.ref aM, .ref aR, .ref aC, .ref aV, .ref aS, .int (nI held), .int (nI prod)])), (aR, kd_ar cI room rows), (aC, kd_ar cI room cols), (aV, kd_ar cI room vals), (h0, .inr (4, [.ref aM, .ref aK, .ref aG, .ref aE, .int (nI n), .ref aRi, .ref aCh, .ref aWo, .ref aNu, .ref aAn, .int (nI rs), .int (nI ss), .int (nI att)]))] := hD
  refine kd_eq0 (tgt := 16) hx hb dX4_entry_5 (by decide) (by have := pB_lt (pPl n r0); omega) (fun c_5 => ?_) (fun c_5 => ?_)
  · skip
    refine lv_iconst (v := (nI 1)) hx hb dX4_entry_16 (by decide) ?_
    have e0 : ¬ (pPl n r0 ∧ pPl n c0) := fun q => by first | exact pB_e0 c_5 q.1 | exact pB_e0 c_13 q.2
    have e9 : ¬ pOkE n room held r0 c0 := fun q => e0 q.1
    simp only [if_neg e9] at ret
    exact ret () _ _ _ _ _ dX4_entry_17 (by unfold pEntry; rw [if_neg e0]) hS (hP.sub [5, 0, 1, 2, 3, 4] rfl) (hD.sub [5, 0, 1, 2, 3, 4] (by decide) rfl)
  · skip
    refine lv_aload_n hx hb dX4_entry_8 rfl (lv_at hl 0 rfl) ?_
    refine lv_iload_n hx hb dX4_entry_9 rfl (lv_at hl 2 rfl) ?_
    refine kd_VI (As := [.int c0]) (rest := []) (Wr := [(aM, .inr (2, [.int (nI P)])), (aK, .inr (1, [.ref aM, .ref aR, .ref aC, .ref aV, .ref aS, .int (nI held), .int (nI prod)])), (aR, kd_ar cI room rows), (aC, kd_ar cI room cols), (aV, kd_ar cI room vals)]) ⟨hx, hb, hml, hown, hts⟩ (c_X4_isPlace l D cI cJ h0 aM aK aG aE aRi aCh aWo aNu aAn n rs ss att c0 g4) (cwV 1 hts gX4_entry_X4_isPlace rfl rfl rfl (by decide +kernel) ⟨Nat.le_of_ble_eq_true rfl, Nat.le_of_ble_eq_true rfl⟩) hK hP hD hS hA [5] [0, 1, 2, 3, 4] rfl rfl (by decide) (by decide) 0 rfl rfl rfl rfl hl.1 (Nat.le_of_ble_eq_true rfl) dX4_entry_10 ⟨Nat.le_of_ble_eq_true rfl, Nat.le_of_ble_eq_true rfl⟩ (fun _ H locs hP hD hS => ?_)
    have hP : va_P D vwCl [(aM, .inr (2, [.int (nI P)])), (aK, .inr (1, [.ref aM, .ref aR, .ref aC, .ref aV, .ref aS, .int (nI held), .int (nI prod)])), (aR, kd_ar cI room rows), (aC, kd_ar cI room cols), (aV, kd_ar cI room vals), (h0, .inr (4, [.ref aM, .ref aK, .ref aG, .ref aE, .int (nI n), .ref aRi, .ref aCh, .ref aWo, .ref aNu, .ref aAn, .int (nI rs), .int (nI ss), .int (nI att)]))] H := hP
    have hD : va_D A [(aM, .inr (2, [.int (nI P)])), (aK, .inr (1, [.ref aM, .ref aR, .ref aC, .ref aV, .ref aS, .int (nI held), .int (nI prod)])), (aR, kd_ar cI room rows), (aC, kd_ar cI room cols), (aV, kd_ar cI room vals), (h0, .inr (4, [.ref aM, .ref aK, .ref aG, .ref aE, .int (nI n), .ref aRi, .ref aCh, .ref aWo, .ref aNu, .ref aAn, .int (nI rs), .int (nI ss), .int (nI att)]))] := hD
    refine kd_ne0 (tgt := 18) hx hb dX4_entry_13 (by decide) (by have := pB_lt (pPl n c0); omega) (fun c_13 => ?_) (fun c_13 => ?_)
    · skip
      refine lv_aload_n hx hb dX4_entry_18 rfl (lv_at hl 0 rfl) ?_
      refine va_get (D := D) (ci := 4) (v := .ref aK) (C := RX4) (T := TX4) (N := 13) hx hb hts i_X4 hown hK hP 5 rfl rfl 1 (by decide) fl36 (fun _ h9 => h9) rfl dX4_entry_19 ?_
      refine kd_VI (As := []) (rest := []) (Wr := [(aM, .inr (2, [.int (nI P)])), (aR, kd_ar cI room rows), (aC, kd_ar cI room cols), (h0, .inr (4, [.ref aM, .ref aK, .ref aG, .ref aE, .int (nI n), .ref aRi, .ref aCh, .ref aWo, .ref aNu, .ref aAn, .int (nI rs), .int (nI ss), .int (nI att)]))]) ⟨hx, hb, hml, hown, hts⟩ (c_X1_isFull l D cI cJ aK aM aR aC aV aS room held prod vals g5 g6) (cwV 0 hts gX4_entry_X1_isFull rfl rfl rfl (by decide +kernel) ⟨Nat.le_of_ble_eq_true rfl, Nat.le_of_ble_eq_true rfl⟩) hK hP hD hS hA [1, 4] [0, 2, 3, 5] rfl rfl (by decide) (by decide) 0 rfl rfl rfl rfl hl.1 (Nat.le_of_ble_eq_true rfl) dX4_entry_22 ⟨Nat.le_of_ble_eq_true rfl, Nat.le_of_ble_eq_true rfl⟩ (fun _ H locs hP hD hS => ?_)
      have hP : va_P D vwCl [(aM, .inr (2, [.int (nI P)])), (aR, kd_ar cI room rows), (aC, kd_ar cI room cols), (h0, .inr (4, [.ref aM, .ref aK, .ref aG, .ref aE, .int (nI n), .ref aRi, .ref aCh, .ref aWo, .ref aNu, .ref aAn, .int (nI rs), .int (nI ss), .int (nI att)])), (aK, .inr (1, [.ref aM, .ref aR, .ref aC, .ref aV, .ref aS, .int (nI held), .int (nI prod)])), (aV, kd_ar cI room vals)] H := hP
      have hD : va_D A [(aM, .inr (2, [.int (nI P)])), (aR, kd_ar cI room rows), (aC, kd_ar cI room cols), (h0, .inr (4, [.ref aM, .ref aK, .ref aG, .ref aE, .int (nI n), .ref aRi, .ref aCh, .ref aWo, .ref aNu, .ref aAn, .int (nI rs), .int (nI ss), .int (nI att)])), (aK, .inr (1, [.ref aM, .ref aR, .ref aC, .ref aV, .ref aS, .int (nI held), .int (nI prod)])), (aV, kd_ar cI room vals)] := hD
      refine kd_eq0 (tgt := 30) hx hb dX4_entry_25 (by decide) (by have := pB_lt (room ≤ held); omega) (fun c_25 => ?_) (fun c_25 => ?_)
      · skip
        have eok : pOkE n room held r0 c0 := ⟨⟨pB_e1 c_5, pB_e1 c_13⟩, by have := pB_e0 c_25; omega⟩
        have ean : pEntry n room held r0 c0 = 0 := by unfold pEntry; rw [if_pos eok.1, if_pos eok.2]
        rw [ean] at ret
        simp only [if_pos eok] at ret
        have q1 := pPl_ix eok.1.1
        have q2 := pPl_ix eok.1.2
        generalize pIx r0 = jr at q1 ret
        generalize pIx c0 = jc at q2 ret
        obtain ⟨e7, hjr⟩ := q1
        obtain ⟨e8, hjc⟩ := q2
        rw [e7, e8] at hl
        refine lv_aload_n hx hb dX4_entry_30 rfl (lv_at hl 0 rfl) ?_
        refine va_get (D := D) (ci := 4) (v := .ref aK) (C := RX4) (T := TX4) (N := 13) hx hb hts i_X4 hown hK hP 3 rfl rfl 1 (by decide) fl36 (fun _ h9 => h9) rfl dX4_entry_31 ?_
        refine lv_iload_n hx hb dX4_entry_34 rfl (lv_at hl 1 rfl) ?_
        refine lv_iload_n hx hb dX4_entry_35 rfl (lv_at hl 2 rfl) ?_
        refine lv_aload_n hx hb dX4_entry_36 rfl (lv_at hl 0 rfl) ?_
        refine va_get (D := D) (ci := 4) (v := .ref aM) (C := RX4) (T := TX4) (N := 13) hx hb hts i_X4 hown hK hP 3 rfl rfl 0 (by decide) fl27 (fun _ h9 => h9) rfl dX4_entry_37 ?_
        refine lv_iload_n hx hb dX4_entry_40 rfl (lv_at hl 3 rfl) ?_
        refine kd_VI (As := [.int v0]) (rest := [.int (nI jc), .int (nI jr), .ref aK]) (Wr := [(aR, kd_ar cI room rows), (aC, kd_ar cI room cols), (h0, .inr (4, [.ref aM, .ref aK, .ref aG, .ref aE, .int (nI n), .ref aRi, .ref aCh, .ref aWo, .ref aNu, .ref aAn, .int (nI rs), .int (nI ss), .int (nI att)])), (aK, .inr (1, [.ref aM, .ref aR, .ref aC, .ref aV, .ref aS, .int (nI held), .int (nI prod)])), (aV, kd_ar cI room vals)]) ⟨hx, hb, hml, hown, hts⟩ (c_X2_reduce l D cI cJ aM P v0 g1 g2) (cwV 1 hts gX4_entry_X2_reduce rfl rfl rfl (by decide +kernel) ⟨Nat.le_of_ble_eq_true rfl, Nat.le_of_ble_eq_true rfl⟩) hK hP hD hS hA [0] [1, 2, 3, 4, 5] rfl rfl (by decide) (by decide) 0 rfl rfl rfl rfl hl.1 (Nat.le_of_ble_eq_true rfl) dX4_entry_41 ⟨Nat.le_of_ble_eq_true rfl, Nat.le_of_ble_eq_true rfl⟩ (fun _ H locs hP hD hS => ?_)
        have hP : va_P D vwCl [(aR, kd_ar cI room rows), (aC, kd_ar cI room cols), (h0, .inr (4, [.ref aM, .ref aK, .ref aG, .ref aE, .int (nI n), .ref aRi, .ref aCh, .ref aWo, .ref aNu, .ref aAn, .int (nI rs), .int (nI ss), .int (nI att)])), (aK, .inr (1, [.ref aM, .ref aR, .ref aC, .ref aV, .ref aS, .int (nI held), .int (nI prod)])), (aV, kd_ar cI room vals), (aM, .inr (2, [.int (nI P)]))] H := hP
        have hD : va_D A [(aR, kd_ar cI room rows), (aC, kd_ar cI room cols), (h0, .inr (4, [.ref aM, .ref aK, .ref aG, .ref aE, .int (nI n), .ref aRi, .ref aCh, .ref aWo, .ref aNu, .ref aAn, .int (nI rs), .int (nI ss), .int (nI att)])), (aK, .inr (1, [.ref aM, .ref aR, .ref aC, .ref aV, .ref aS, .int (nI held), .int (nI prod)])), (aV, kd_ar cI room vals), (aM, .inr (2, [.int (nI P)]))] := hD
        refine kd_VV (As := [.int (nI jr), .int (nI jc), .int (nI (pRed P v0))]) (rest := []) (Wr := [(h0, .inr (4, [.ref aM, .ref aK, .ref aG, .ref aE, .int (nI n), .ref aRi, .ref aCh, .ref aWo, .ref aNu, .ref aAn, .int (nI rs), .int (nI ss), .int (nI att)])), (aM, .inr (2, [.int (nI P)]))]) ⟨hx, hb, hml, hown, hts⟩ (c_X1_put l D cI cJ aK aM aR aC aV aS n room held prod rows cols vals jr jc (pRed P v0) g5 (by have := pB_e0 c_25; omega)) (cwV 3 hts gX4_entry_X1_put rfl rfl rfl (by decide +kernel) ⟨Nat.le_of_ble_eq_true rfl, Nat.le_of_ble_eq_true rfl⟩) hK hP hD hS hA [3, 0, 1, 4] [2, 5] rfl rfl (by decide) (by decide) 0 rfl rfl rfl rfl hl.1 (Nat.le_of_ble_eq_true rfl) dX4_entry_44 ⟨Nat.le_of_ble_eq_true rfl, Nat.le_of_ble_eq_true rfl⟩ (fun _ H locs hP hD hS => ?_)
        have hP : va_P D vwCl [(h0, .inr (4, [.ref aM, .ref aK, .ref aG, .ref aE, .int (nI n), .ref aRi, .ref aCh, .ref aWo, .ref aNu, .ref aAn, .int (nI rs), .int (nI ss), .int (nI att)])), (aM, .inr (2, [.int (nI P)])), (aK, .inr (1, [.ref aM, .ref aR, .ref aC, .ref aV, .ref aS, .int (nI (held + 1)), .int (nI prod)])), (aR, kd_ar cI room (va_up rows held jr)), (aC, kd_ar cI room (va_up cols held jc)), (aV, kd_ar cI room (va_up vals held (pRed P v0)))] H := hP
        have hD : va_D A [(h0, .inr (4, [.ref aM, .ref aK, .ref aG, .ref aE, .int (nI n), .ref aRi, .ref aCh, .ref aWo, .ref aNu, .ref aAn, .int (nI rs), .int (nI ss), .int (nI att)])), (aM, .inr (2, [.int (nI P)])), (aK, .inr (1, [.ref aM, .ref aR, .ref aC, .ref aV, .ref aS, .int (nI (held + 1)), .int (nI prod)])), (aR, kd_ar cI room (va_up rows held jr)), (aC, kd_ar cI room (va_up cols held jc)), (aV, kd_ar cI room (va_up vals held (pRed P v0)))] := hD
        refine lv_aload_n hx hb dX4_entry_47 rfl (lv_at hl 0 rfl) ?_
        refine kd_VV (As := []) (rest := []) (Wr := [(aM, .inr (2, [.int (nI P)])), (aK, .inr (1, [.ref aM, .ref aR, .ref aC, .ref aV, .ref aS, .int (nI (held + 1)), .int (nI prod)])), (aR, kd_ar cI room (va_up rows held jr)), (aC, kd_ar cI room (va_up cols held jc)), (aV, kd_ar cI room (va_up vals held (pRed P v0)))]) ⟨hx, hb, hml, hown, hts⟩ (c_X4_forgetResults l D cI cJ h0 aM aK aG aE aRi aCh aWo aNu aAn n rs ss att) (cwV 0 hts gX4_entry_X4_forgetResults rfl rfl rfl (by decide +kernel) ⟨Nat.le_of_ble_eq_true rfl, Nat.le_of_ble_eq_true rfl⟩) hK hP hD hS hA [0] [1, 2, 3, 4, 5] rfl rfl (by decide) (by decide) 0 rfl rfl rfl rfl hl.1 (Nat.le_of_ble_eq_true rfl) dX4_entry_48 ⟨Nat.le_of_ble_eq_true rfl, Nat.le_of_ble_eq_true rfl⟩ (fun _ H locs hP hD hS => ?_)
        have hP : va_P D vwCl [(aM, .inr (2, [.int (nI P)])), (aK, .inr (1, [.ref aM, .ref aR, .ref aC, .ref aV, .ref aS, .int (nI (held + 1)), .int (nI prod)])), (aR, kd_ar cI room (va_up rows held jr)), (aC, kd_ar cI room (va_up cols held jc)), (aV, kd_ar cI room (va_up vals held (pRed P v0))), (h0, .inr (4, [.ref aM, .ref aK, .ref aG, .ref aE, .int (nI n), .ref aRi, .ref aCh, .ref aWo, .ref aNu, .ref aAn, .int (nI 0), .int (nI 0), .int (nI att)]))] H := hP
        have hD : va_D A [(aM, .inr (2, [.int (nI P)])), (aK, .inr (1, [.ref aM, .ref aR, .ref aC, .ref aV, .ref aS, .int (nI (held + 1)), .int (nI prod)])), (aR, kd_ar cI room (va_up rows held jr)), (aC, kd_ar cI room (va_up cols held jc)), (aV, kd_ar cI room (va_up vals held (pRed P v0))), (h0, .inr (4, [.ref aM, .ref aK, .ref aG, .ref aE, .int (nI n), .ref aRi, .ref aCh, .ref aWo, .ref aNu, .ref aAn, .int (nI 0), .int (nI 0), .int (nI att)]))] := hD
        refine lv_iconst (v := (nI 0)) hx hb dX4_entry_51 (by decide) ?_
        exact ret () _ _ _ _ _ dX4_entry_52 rfl hS (hP.sub [5, 0, 1, 2, 3, 4] rfl) (hD.sub [5, 0, 1, 2, 3, 4] (by decide) rfl)
      · skip
        refine lv_iconst (v := (nI 2)) hx hb dX4_entry_28 (by decide) ?_
        have e9 : ¬ pOkE n room held r0 c0 := fun q => by have := pB_e1 c_25; have := q.2; omega
        simp only [if_neg e9] at ret
        exact ret () _ _ _ _ _ dX4_entry_29 (by unfold pEntry; rw [if_pos ⟨pB_e1 c_5, pB_e1 c_13⟩, if_neg (by have := pB_e1 c_25; omega)]) hS (hP.sub [3, 0, 4, 1, 2, 5] rfl) (hD.sub [3, 0, 4, 1, 2, 5] (by decide) rfl)
    · skip
      refine lv_iconst (v := (nI 1)) hx hb dX4_entry_16 (by decide) ?_
      have e0 : ¬ (pPl n r0 ∧ pPl n c0) := fun q => by first | exact pB_e0 c_5 q.1 | exact pB_e0 c_13 q.2
      have e9 : ¬ pOkE n room held r0 c0 := fun q => e0 q.1
      simp only [if_neg e9] at ret
      exact ret () _ _ _ _ _ dX4_entry_17 (by unfold pEntry; rw [if_neg e0]) hS (hP.sub [5, 0, 1, 2, 3, 4] rfl) (hD.sub [5, 0, 1, 2, 3, 4] (by decide) rfl)

set_option maxHeartbeats 4000000 in
set_option maxRecDepth 100000 in
/-- side -/
theorem c_X4_side (l : Launch) (D : va_G) (cI cJ : ClassId) (h0 aM aK aG aE aRi aCh aWo aNu aAn : Nat) (P n : Nat) (b0 : Nat → Nat) (rs ss att : Nat) (r0 v0 : Int32) (g1 : 2 ≤ P) (g2 : P ≤ 46337) (g4 : n ≤ 16) : kd_MI (S := Unit) l yX4_side wsX4_side { frames := 1, cells := 0, slots := 0, locals := 22 } [.ref h0, .int r0, .int v0] D vwCl cI cJ [(h0, .inr (4, [.ref aM, .ref aK, .ref aG, .ref aE, .int (nI n), .ref aRi, .ref aCh, .ref aWo, .ref aNu, .ref aAn, .int (nI rs), .int (nI ss), .int (nI att)])), (aM, .inr (2, [.int (nI P)])), (aRi, kd_ar cI n b0)] (fun _ => nI (if pPl n r0 then 0 else 1)) (fun _ => [(h0, .inr (4, [.ref aM, .ref aK, .ref aG, .ref aE, .int (nI n), .ref aRi, .ref aCh, .ref aWo, .ref aNu, .ref aAn, .int (nI (if pPl n r0 then 0 else rs)), .int (nI (if pPl n r0 then 0 else ss)), .int (nI att)])), (aM, .inr (2, [.int (nI P)])), (aRi, kd_ar cI n (if pPl n r0 then va_up b0 (pIx r0) (pRed P v0) else b0))]) 0 0 := by
  refine kd_enterI (cc := cX4_side) (maxL := 3) (by decide) rfl (Nat.le_of_ble_eq_true rfl) ?_
  intro p e s m args below meth c A ls Q hx hb hr hts hown hlk hnm hml hP hK hD hA hS hl ret
  have hl : lv_has ls 3 [(0, .ref h0), (1, .int r0), (2, .int v0)] := hl
  have hown : s.vm.findClass RX4 = some m.cls := hown
  have i_X4 : ∀ w ∈ wsX40, w ∈ wsX4_side := by decide +kernel
  have fl56 := hts (.fieldLink RX4 56 "KrylovDesk" "right" "[I") (by decide +kernel)
  have fl27 := hts (.fieldLink RX4 27 "KrylovDesk" "modulus" "LKrylovDesk$Modulus;") (by decide +kernel)
  refine lv_aload_n hx hb dX4_side_0 rfl (lv_at hl 0 rfl) ?_
  refine lv_iload_n hx hb dX4_side_1 rfl (lv_at hl 1 rfl) ?_
  refine kd_VI (As := [.int r0]) (rest := []) (Wr := [(aM, .inr (2, [.int (nI P)])), (aRi, kd_ar cI n b0)]) ⟨hx, hb, hml, hown, hts⟩ (c_X4_isPlace l D cI cJ h0 aM aK aG aE aRi aCh aWo aNu aAn n rs ss att r0 g4) (cwV 1 hts gX4_side_X4_isPlace rfl rfl rfl (by decide +kernel) ⟨Nat.le_of_ble_eq_true rfl, Nat.le_of_ble_eq_true rfl⟩) hK hP hD hS hA [0] [1, 2] rfl rfl (by decide) (by decide) 0 rfl rfl rfl rfl hl.1 (Nat.le_of_ble_eq_true rfl) dX4_side_2 ⟨Nat.le_of_ble_eq_true rfl, Nat.le_of_ble_eq_true rfl⟩ (fun _ H locs hP hD hS => ?_)
  have hP : va_P D vwCl [(aM, .inr (2, [.int (nI P)])), (aRi, kd_ar cI n b0), (h0, .inr (4, [.ref aM, .ref aK, .ref aG, .ref aE, .int (nI n), .ref aRi, .ref aCh, .ref aWo, .ref aNu, .ref aAn, .int (nI rs), .int (nI ss), .int (nI att)]))] H := hP
  have hD : va_D A [(aM, .inr (2, [.int (nI P)])), (aRi, kd_ar cI n b0), (h0, .inr (4, [.ref aM, .ref aK, .ref aG, .ref aE, .int (nI n), .ref aRi, .ref aCh, .ref aWo, .ref aNu, .ref aAn, .int (nI rs), .int (nI ss), .int (nI att)]))] := hD
  refine kd_ne0 (tgt := 10) hx hb dX4_side_5 (by decide) (by have := pB_lt (pPl n r0); omega) (fun c_5 => ?_) (fun c_5 => ?_)
  · skip
    have eok : pPl n r0 := pB_e1 c_5
    simp only [if_pos eok] at ret
    have q1 := pPl_ix eok
    generalize pIx r0 = jr at q1 ret
    obtain ⟨e7, hjr⟩ := q1
    rw [e7] at hl
    refine lv_aload_n hx hb dX4_side_10 rfl (lv_at hl 0 rfl) ?_
    refine va_get (D := D) (ci := 4) (v := .ref aRi) (C := RX4) (T := TX4) (N := 13) hx hb hts i_X4 hown hK hP 2 rfl rfl 5 (by decide) fl56 (fun _ h9 => h9) rfl dX4_side_11 ?_
    refine lv_iload_n hx hb dX4_side_14 rfl (lv_at hl 1 rfl) ?_
    refine lv_aload_n hx hb dX4_side_15 rfl (lv_at hl 0 rfl) ?_
    refine va_get (D := D) (ci := 4) (v := .ref aM) (C := RX4) (T := TX4) (N := 13) hx hb hts i_X4 hown hK hP 2 rfl rfl 0 (by decide) fl27 (fun _ h9 => h9) rfl dX4_side_16 ?_
    refine lv_iload_n hx hb dX4_side_19 rfl (lv_at hl 2 rfl) ?_
    refine kd_VI (As := [.int v0]) (rest := [.int (nI jr), .ref aRi]) (Wr := [(aRi, kd_ar cI n b0), (h0, .inr (4, [.ref aM, .ref aK, .ref aG, .ref aE, .int (nI n), .ref aRi, .ref aCh, .ref aWo, .ref aNu, .ref aAn, .int (nI rs), .int (nI ss), .int (nI att)]))]) ⟨hx, hb, hml, hown, hts⟩ (c_X2_reduce l D cI cJ aM P v0 g1 g2) (cwV 1 hts gX4_side_X2_reduce rfl rfl rfl (by decide +kernel) ⟨Nat.le_of_ble_eq_true rfl, Nat.le_of_ble_eq_true rfl⟩) hK hP hD hS hA [0] [1, 2] rfl rfl (by decide) (by decide) 0 rfl rfl rfl rfl hl.1 (Nat.le_of_ble_eq_true rfl) dX4_side_20 ⟨Nat.le_of_ble_eq_true rfl, Nat.le_of_ble_eq_true rfl⟩ (fun _ H locs hP hD hS => ?_)
    have hP : va_P D vwCl [(aRi, kd_ar cI n b0), (h0, .inr (4, [.ref aM, .ref aK, .ref aG, .ref aE, .int (nI n), .ref aRi, .ref aCh, .ref aWo, .ref aNu, .ref aAn, .int (nI rs), .int (nI ss), .int (nI att)])), (aM, .inr (2, [.int (nI P)]))] H := hP
    have hD : va_D A [(aRi, kd_ar cI n b0), (h0, .inr (4, [.ref aM, .ref aK, .ref aG, .ref aE, .int (nI n), .ref aRi, .ref aCh, .ref aWo, .ref aNu, .ref aAn, .int (nI rs), .int (nI ss), .int (nI att)])), (aM, .inr (2, [.int (nI P)]))] := hD
    refine kd_ast hx hb hK hP hD hS 0 rfl jr (by omega) (by omega) dX4_side_23 (fun H locs hP hD hS => ?_)
    have hP : va_P D vwCl [(aRi, kd_ar cI n (va_up b0 jr (pRed P v0))), (h0, .inr (4, [.ref aM, .ref aK, .ref aG, .ref aE, .int (nI n), .ref aRi, .ref aCh, .ref aWo, .ref aNu, .ref aAn, .int (nI rs), .int (nI ss), .int (nI att)])), (aM, .inr (2, [.int (nI P)]))] H := hP
    have hD : va_D A [(aRi, kd_ar cI n (va_up b0 jr (pRed P v0))), (h0, .inr (4, [.ref aM, .ref aK, .ref aG, .ref aE, .int (nI n), .ref aRi, .ref aCh, .ref aWo, .ref aNu, .ref aAn, .int (nI rs), .int (nI ss), .int (nI att)])), (aM, .inr (2, [.int (nI P)]))] := hD
    refine lv_aload_n hx hb dX4_side_24 rfl (lv_at hl 0 rfl) ?_
    refine kd_VV (As := []) (rest := []) (Wr := [(aRi, kd_ar cI n (va_up b0 jr (pRed P v0))), (aM, .inr (2, [.int (nI P)]))]) ⟨hx, hb, hml, hown, hts⟩ (c_X4_forgetResults l D cI cJ h0 aM aK aG aE aRi aCh aWo aNu aAn n rs ss att) (cwV 0 hts gX4_side_X4_forgetResults rfl rfl rfl (by decide +kernel) ⟨Nat.le_of_ble_eq_true rfl, Nat.le_of_ble_eq_true rfl⟩) hK hP hD hS hA [1] [0, 2] rfl rfl (by decide) (by decide) 0 rfl rfl rfl rfl hl.1 (Nat.le_of_ble_eq_true rfl) dX4_side_25 ⟨Nat.le_of_ble_eq_true rfl, Nat.le_of_ble_eq_true rfl⟩ (fun _ H locs hP hD hS => ?_)
    have hP : va_P D vwCl [(aRi, kd_ar cI n (va_up b0 jr (pRed P v0))), (aM, .inr (2, [.int (nI P)])), (h0, .inr (4, [.ref aM, .ref aK, .ref aG, .ref aE, .int (nI n), .ref aRi, .ref aCh, .ref aWo, .ref aNu, .ref aAn, .int (nI 0), .int (nI 0), .int (nI att)]))] H := hP
    have hD : va_D A [(aRi, kd_ar cI n (va_up b0 jr (pRed P v0))), (aM, .inr (2, [.int (nI P)])), (h0, .inr (4, [.ref aM, .ref aK, .ref aG, .ref aE, .int (nI n), .ref aRi, .ref aCh, .ref aWo, .ref aNu, .ref aAn, .int (nI 0), .int (nI 0), .int (nI att)]))] := hD
    refine lv_iconst (v := (nI 0)) hx hb dX4_side_28 (by decide) ?_
    exact ret () _ _ _ _ _ dX4_side_29 rfl hS (hP.sub [2, 1, 0] rfl) (hD.sub [2, 1, 0] (by decide) rfl)
  · skip
    refine lv_iconst (v := (nI 1)) hx hb dX4_side_8 (by decide) ?_
    have e9 : ¬ pPl n r0 := pB_e0 c_5
    simp only [if_neg e9] at ret
    exact ret () _ _ _ _ _ dX4_side_9 rfl hS (hP.sub [2, 0, 1] rfl) (hD.sub [2, 0, 1] (by decide) rfl)

set_option maxHeartbeats 4000000 in
set_option maxRecDepth 100000 in
/-- seed -/
theorem c_X4_seed (l : Launch) (D : va_G) (cI cJ : ClassId) (h0 aM aK aG aE aRi aCh aWo aNu aAn : Nat) (n rs ss att gg : Nat) (v0 : Int32) : kd_MV (S := Unit) l yX4_seed wsX4_seed { frames := 1, cells := 0, slots := 0, locals := 21 } [.ref h0, .int v0] D vwCl cI cJ [(h0, .inr (4, [.ref aM, .ref aK, .ref aG, .ref aE, .int (nI n), .ref aRi, .ref aCh, .ref aWo, .ref aNu, .ref aAn, .int (nI rs), .int (nI ss), .int (nI att)])), (aG, .inr (0, [.int (nI gg)]))] (fun _ => [(h0, .inr (4, [.ref aM, .ref aK, .ref aG, .ref aE, .int (nI n), .ref aRi, .ref aCh, .ref aWo, .ref aNu, .ref aAn, .int (nI rs), .int (nI ss), .int (nI att)])), (aG, .inr (0, [.int (nI (pSeed v0))]))]) 0 0 := by
  refine kd_enterV (cc := cX4_seed) (maxL := 2) (by decide) rfl (Nat.le_of_ble_eq_true rfl) ?_
  intro p e s m args below meth c A ls Q hx hb hr hts hown hlk hnm hml hP hK hD hA hS hl ret
  have hl : lv_has ls 2 [(0, .ref h0), (1, .int v0)] := hl
  have hown : s.vm.findClass RX4 = some m.cls := hown
  have i_X4 : ∀ w ∈ wsX40, w ∈ wsX4_seed := by decide +kernel
  have fl43 := hts (.fieldLink RX4 43 "KrylovDesk" "generator" "LKrylovDesk$Generator;") (by decide +kernel)
  refine lv_aload_n hx hb dX4_seed_0 rfl (lv_at hl 0 rfl) ?_
  refine va_get (D := D) (ci := 4) (v := .ref aG) (C := RX4) (T := TX4) (N := 13) hx hb hts i_X4 hown hK hP 0 rfl rfl 2 (by decide) fl43 (fun _ h9 => h9) rfl dX4_seed_1 ?_
  refine lv_iload_n hx hb dX4_seed_4 rfl (lv_at hl 1 rfl) ?_
  refine kd_VV (As := [.int v0]) (rest := []) (Wr := [(h0, .inr (4, [.ref aM, .ref aK, .ref aG, .ref aE, .int (nI n), .ref aRi, .ref aCh, .ref aWo, .ref aNu, .ref aAn, .int (nI rs), .int (nI ss), .int (nI att)]))]) ⟨hx, hb, hml, hown, hts⟩ (c_X0_restart l D cI cJ aG gg v0) (cwV 1 hts gX4_seed_X0_restart rfl rfl rfl (by decide +kernel) ⟨Nat.le_of_ble_eq_true rfl, Nat.le_of_ble_eq_true rfl⟩) hK hP hD hS hA [1] [0] rfl rfl (by decide) (by decide) 0 rfl rfl rfl rfl hl.1 (Nat.le_of_ble_eq_true rfl) dX4_seed_5 ⟨Nat.le_of_ble_eq_true rfl, Nat.le_of_ble_eq_true rfl⟩ (fun _ H locs hP hD hS => ?_)
  have hP : va_P D vwCl [(h0, .inr (4, [.ref aM, .ref aK, .ref aG, .ref aE, .int (nI n), .ref aRi, .ref aCh, .ref aWo, .ref aNu, .ref aAn, .int (nI rs), .int (nI ss), .int (nI att)])), (aG, .inr (0, [.int (nI (pSeed v0))]))] H := hP
  have hD : va_D A [(h0, .inr (4, [.ref aM, .ref aK, .ref aG, .ref aE, .int (nI n), .ref aRi, .ref aCh, .ref aWo, .ref aNu, .ref aAn, .int (nI rs), .int (nI ss), .int (nI att)])), (aG, .inr (0, [.int (nI (pSeed v0))]))] := hD
  exact ret () _ _ _ _ dX4_seed_8 hS (hP.sub [0, 1] rfl) (hD.sub [0, 1] (by decide) rfl)

set_option maxHeartbeats 4000000 in
set_option maxRecDepth 100000 in
/-- solution -/
theorem c_X4_solution (l : Launch) (D : va_G) (cI cJ : ClassId) (h0 aM aK aG aE aRi aCh aWo aNu aAn : Nat) (n rs ss att : Nat) (an : Nat → Nat) (i0 : Int32) (g4 : n ≤ 16) (g5 : ss < 2) : kd_MI (S := Unit) l yX4_solution wsX4_solution { frames := 1, cells := 0, slots := 0, locals := 21 } [.ref h0, .int i0] D vwCl cI cJ [(h0, .inr (4, [.ref aM, .ref aK, .ref aG, .ref aE, .int (nI n), .ref aRi, .ref aCh, .ref aWo, .ref aNu, .ref aAn, .int (nI rs), .int (nI ss), .int (nI att)])), (aAn, kd_ar cI n an)] (fun _ => pSol n ss an i0) (fun _ => [(h0, .inr (4, [.ref aM, .ref aK, .ref aG, .ref aE, .int (nI n), .ref aRi, .ref aCh, .ref aWo, .ref aNu, .ref aAn, .int (nI rs), .int (nI ss), .int (nI att)])), (aAn, kd_ar cI n an)]) 0 0 := by
  refine kd_enterI (cc := cX4_solution) (maxL := 2) (by decide) rfl (Nat.le_of_ble_eq_true rfl) ?_
  intro p e s m args below meth c A ls Q hx hb hr hts hown hlk hnm hml hP hK hD hA hS hl ret
  have hl : lv_has ls 2 [(0, .ref h0), (1, .int i0)] := hl
  have hown : s.vm.findClass RX4 = some m.cls := hown
  have i_X4 : ∀ w ∈ wsX40, w ∈ wsX4_solution := by decide +kernel
  have fl96 := hts (.fieldLink RX4 96 "KrylovDesk" "answerStands" "Z") (by decide +kernel)
  have fl69 := hts (.fieldLink RX4 69 "KrylovDesk" "answer" "[I") (by decide +kernel)
  refine lv_aload_n hx hb dX4_solution_0 rfl (lv_at hl 0 rfl) ?_
  refine va_get (D := D) (ci := 4) (v := .int (nI ss)) (C := RX4) (T := TX4) (N := 13) hx hb hts i_X4 hown hK hP 0 rfl rfl 11 (by decide) fl96 (fun _ h9 => h9) rfl dX4_solution_1 ?_
  refine kd_eq0 (tgt := 24) hx hb dX4_solution_4 (by decide) (by omega) (fun c_4 => ?_) (fun c_4 => ?_)
  · skip
    refine lv_iconst (v := (-1)) hx hb dX4_solution_24 (by decide) ?_
    exact ret () _ _ _ _ _ dX4_solution_25 ((if_neg (fun q => q.1 c_4)).symm) hS (hP.sub [0, 1] rfl) (hD.sub [0, 1] (by decide) rfl)
  · skip
    refine lv_aload_n hx hb dX4_solution_7 rfl (lv_at hl 0 rfl) ?_
    refine lv_iload_n hx hb dX4_solution_8 rfl (lv_at hl 1 rfl) ?_
    refine kd_VI (As := [.int i0]) (rest := []) (Wr := [(aAn, kd_ar cI n an)]) ⟨hx, hb, hml, hown, hts⟩ (c_X4_isPlace l D cI cJ h0 aM aK aG aE aRi aCh aWo aNu aAn n rs ss att i0 g4) (cwV 1 hts gX4_solution_X4_isPlace rfl rfl rfl (by decide +kernel) ⟨Nat.le_of_ble_eq_true rfl, Nat.le_of_ble_eq_true rfl⟩) hK hP hD hS hA [0] [1] rfl rfl (by decide) (by decide) 0 rfl rfl rfl rfl hl.1 (Nat.le_of_ble_eq_true rfl) dX4_solution_9 ⟨Nat.le_of_ble_eq_true rfl, Nat.le_of_ble_eq_true rfl⟩ (fun _ H locs hP hD hS => ?_)
    have hP : va_P D vwCl [(aAn, kd_ar cI n an), (h0, .inr (4, [.ref aM, .ref aK, .ref aG, .ref aE, .int (nI n), .ref aRi, .ref aCh, .ref aWo, .ref aNu, .ref aAn, .int (nI rs), .int (nI ss), .int (nI att)]))] H := hP
    have hD : va_D A [(aAn, kd_ar cI n an), (h0, .inr (4, [.ref aM, .ref aK, .ref aG, .ref aE, .int (nI n), .ref aRi, .ref aCh, .ref aWo, .ref aNu, .ref aAn, .int (nI rs), .int (nI ss), .int (nI att)]))] := hD
    refine kd_eq0 (tgt := 24) hx hb dX4_solution_12 (by decide) (by have := pB_lt (pPl n i0); omega) (fun c_12 => ?_) (fun c_12 => ?_)
    · skip
      refine lv_iconst (v := (-1)) hx hb dX4_solution_24 (by decide) ?_
      exact ret () _ _ _ _ _ dX4_solution_25 ((if_neg (fun q => pB_e0 c_12 q.2)).symm) hS (hP.sub [1, 0] rfl) (hD.sub [1, 0] (by decide) rfl)
    · skip
      have ean : pSol n ss an i0 = nI (an (pIx i0)) := if_pos ⟨c_4, pB_e1 c_12⟩
      rw [ean] at ret
      have q1 := pPl_ix (pB_e1 c_12)
      generalize pIx i0 = j at q1 ret
      obtain ⟨e7, hj⟩ := q1
      rw [e7] at hl
      refine lv_aload_n hx hb dX4_solution_15 rfl (lv_at hl 0 rfl) ?_
      refine va_get (D := D) (ci := 4) (v := .ref aAn) (C := RX4) (T := TX4) (N := 13) hx hb hts i_X4 hown hK hP 1 rfl rfl 9 (by decide) fl69 (fun _ h9 => h9) rfl dX4_solution_16 ?_
      refine lv_iload_n hx hb dX4_solution_19 rfl (lv_at hl 1 rfl) ?_
      refine kd_ald hx hb hK hP 0 rfl j (by omega) (by omega) dX4_solution_20 ?_
      refine lv_goto (tgt := 25) hx hb dX4_solution_21 (by decide) ?_
      exact ret () _ _ _ _ _ dX4_solution_25 rfl hS (hP.sub [1, 0] rfl) (hD.sub [1, 0] (by decide) rfl)

set_option maxHeartbeats 4000000 in
set_option maxRecDepth 100000 in
/-- degree -/
theorem c_X4_degree (l : Launch) (D : va_G) (cI cJ : ClassId) (h0 aM aK aG aE aRi aCh aWo aNu aAn : Nat) (tC tB tT : Nat) (n rs ss att L sh em : Nat) (g5 : rs < 2) : kd_MI (S := Unit) l yX4_degree wsX4_degree { frames := 0, cells := 0, slots := 0, locals := 0 } [.ref h0] D vwCl cI cJ [(h0, .inr (4, [.ref aM, .ref aK, .ref aG, .ref aE, .int (nI n), .ref aRi, .ref aCh, .ref aWo, .ref aNu, .ref aAn, .int (nI rs), .int (nI ss), .int (nI att)])), (aE, .inr (3, [.ref aM, .ref tC, .ref tB, .ref tT, .int (nI L), .int (nI sh), .int (nI em)]))] (fun _ => pDeg rs L) (fun _ => [(h0, .inr (4, [.ref aM, .ref aK, .ref aG, .ref aE, .int (nI n), .ref aRi, .ref aCh, .ref aWo, .ref aNu, .ref aAn, .int (nI rs), .int (nI ss), .int (nI att)])), (aE, .inr (3, [.ref aM, .ref tC, .ref tB, .ref tT, .int (nI L), .int (nI sh), .int (nI em)]))]) 0 0 := by
  refine kd_enterI (cc := cX4_degree) (maxL := 1) (by decide) rfl (Nat.le_of_ble_eq_true rfl) ?_
  intro p e s m args below meth c A ls Q hx hb hr hts hown hlk hnm hml hP hK hD hA hS hl ret
  have hl : lv_has ls 1 [(0, .ref h0)] := hl
  have hown : s.vm.findClass RX4 = some m.cls := hown
  have i_X4 : ∀ w ∈ wsX40, w ∈ wsX4_degree := by decide +kernel
  have fl110 := hts (.fieldLink RX4 110 "KrylovDesk" "rowStands" "Z") (by decide +kernel)
  have fl52 := hts (.fieldLink RX4 52 "KrylovDesk" "recurrence" "LKrylovDesk$Recurrence;") (by decide +kernel)
  have i_X3 : ∀ w ∈ wsX30, w ∈ wsX4_degree := by decide +kernel
  have fl113 := hts (.fieldLink RX4 113 "KrylovDesk$Recurrence" "length" "I") (by decide +kernel)
  refine lv_aload_n hx hb dX4_degree_0 rfl (lv_at hl 0 rfl) ?_
  refine va_get (D := D) (ci := 4) (v := .int (nI rs)) (C := RX4) (T := TX4) (N := 13) hx hb hts i_X4 hown hK hP 0 rfl rfl 10 (by decide) fl110 (fun _ h9 => h9) rfl dX4_degree_1 ?_
  refine kd_eq0 (tgt := 17) hx hb dX4_degree_4 (by decide) (by omega) (fun c_4 => ?_) (fun c_4 => ?_)
  · skip
    refine lv_iconst (v := (-1)) hx hb dX4_degree_17 (by decide) ?_
    exact ret () _ _ _ _ _ dX4_degree_18 (by first | exact (if_pos c_4).symm | exact (if_neg c_4).symm) hS (hP.sub [0, 1] rfl) (hD.sub [0, 1] (by decide) rfl)
  · skip
    refine lv_aload_n hx hb dX4_degree_7 rfl (lv_at hl 0 rfl) ?_
    refine va_get (D := D) (ci := 4) (v := .ref aE) (C := RX4) (T := TX4) (N := 13) hx hb hts i_X4 hown hK hP 0 rfl rfl 3 (by decide) fl52 (fun _ h9 => h9) rfl dX4_degree_8 ?_
    refine va_get (D := D) (ci := 3) (v := .int (nI L)) (C := RX3) (T := TX3) (N := 7) hx hb hts i_X3 hown hK hP 1 rfl rfl 4 (by decide) fl113 (fun _ h9 => h9) rfl dX4_degree_11 ?_
    refine lv_goto (tgt := 18) hx hb dX4_degree_14 (by decide) ?_
    exact ret () _ _ _ _ _ dX4_degree_18 (by first | exact (if_pos c_4).symm | exact (if_neg c_4).symm) hS (hP.sub [0, 1] rfl) (hD.sub [0, 1] (by decide) rfl)

set_option maxHeartbeats 4000000 in
set_option maxRecDepth 100000 in
/-- coefficient -/
theorem c_X4_coefficient (l : Launch) (D : va_G) (cI cJ : ClassId) (h0 aM aK aG aE aRi aCh aWo aNu aAn : Nat) (tC tB tT : Nat) (n rs ss att L sh em : Nat) (C : Nat → Nat) (i0 : Int32) (g4 : n ≤ 16) (g5 : rs < 2) (g6 : L ≤ 2 * n) : kd_MI (S := Unit) l yX4_coefficient wsX4_coefficient { frames := 1, cells := 0, slots := 0, locals := 21 } [.ref h0, .int i0] D vwCl cI cJ [(h0, .inr (4, [.ref aM, .ref aK, .ref aG, .ref aE, .int (nI n), .ref aRi, .ref aCh, .ref aWo, .ref aNu, .ref aAn, .int (nI rs), .int (nI ss), .int (nI att)])), (aE, .inr (3, [.ref aM, .ref tC, .ref tB, .ref tT, .int (nI L), .int (nI sh), .int (nI em)])), (tC, kd_ar cI (2 * n + 1) C)] (fun _ => pCoef rs L C i0) (fun _ => [(h0, .inr (4, [.ref aM, .ref aK, .ref aG, .ref aE, .int (nI n), .ref aRi, .ref aCh, .ref aWo, .ref aNu, .ref aAn, .int (nI rs), .int (nI ss), .int (nI att)])), (aE, .inr (3, [.ref aM, .ref tC, .ref tB, .ref tT, .int (nI L), .int (nI sh), .int (nI em)])), (tC, kd_ar cI (2 * n + 1) C)]) 0 0 := by
  refine kd_enterI (cc := cX4_coefficient) (maxL := 2) (by decide) rfl (Nat.le_of_ble_eq_true rfl) ?_
  intro p e s m args below meth c A ls Q hx hb hr hts hown hlk hnm hml hP hK hD hA hS hl ret
  have hl : lv_has ls 2 [(0, .ref h0), (1, .int i0)] := hl
  have hown : s.vm.findClass RX4 = some m.cls := hown
  have i_X4 : ∀ w ∈ wsX40, w ∈ wsX4_coefficient := by decide +kernel
  have fl110 := hts (.fieldLink RX4 110 "KrylovDesk" "rowStands" "Z") (by decide +kernel)
  have fl52 := hts (.fieldLink RX4 52 "KrylovDesk" "recurrence" "LKrylovDesk$Recurrence;") (by decide +kernel)
  have i_X3 : ∀ w ∈ wsX30, w ∈ wsX4_coefficient := by decide +kernel
  have fl113 := hts (.fieldLink RX4 113 "KrylovDesk$Recurrence" "length" "I") (by decide +kernel)
  refine lv_aload_n hx hb dX4_coefficient_0 rfl (lv_at hl 0 rfl) ?_
  refine va_get (D := D) (ci := 4) (v := .int (nI rs)) (C := RX4) (T := TX4) (N := 13) hx hb hts i_X4 hown hK hP 0 rfl rfl 10 (by decide) fl110 (fun _ h9 => h9) rfl dX4_coefficient_1 ?_
  refine kd_eq0 (tgt := 22) hx hb dX4_coefficient_4 (by decide) (by omega) (fun c_4 => ?_) (fun c_4 => ?_)
  · skip
    refine lv_iconst (v := (-1)) hx hb dX4_coefficient_22 (by decide) ?_
    exact ret () _ _ _ _ _ dX4_coefficient_23 ((if_neg (fun q => q.1 c_4)).symm) hS (hP.sub [0, 1, 2] rfl) (hD.sub [0, 1, 2] (by decide) rfl)
  · skip
    refine lv_iload_n hx hb dX4_coefficient_7 rfl (lv_at hl 1 rfl) ?_
    refine lv_if_lt (tgt := 22) hx hb dX4_coefficient_8 (by decide) (fun c_8 => ?_) (fun c_8 => ?_)
    · skip
      refine lv_iconst (v := (-1)) hx hb dX4_coefficient_22 (by decide) ?_
      exact ret () _ _ _ _ _ dX4_coefficient_23 ((if_neg (fun q => pPl_neg c_8 q.2)).symm) hS (hP.sub [0, 1, 2] rfl) (hD.sub [0, 1, 2] (by decide) rfl)
    · skip
      refine lv_iload_n hx hb dX4_coefficient_11 rfl (lv_at hl 1 rfl) ?_
      refine lv_aload_n hx hb dX4_coefficient_12 rfl (lv_at hl 0 rfl) ?_
      refine va_get (D := D) (ci := 4) (v := .ref aE) (C := RX4) (T := TX4) (N := 13) hx hb hts i_X4 hown hK hP 0 rfl rfl 3 (by decide) fl52 (fun _ h9 => h9) rfl dX4_coefficient_13 ?_
      refine va_get (D := D) (ci := 3) (v := .int (nI L)) (C := RX3) (T := TX3) (N := 7) hx hb hts i_X3 hown hK hP 1 rfl rfl 4 (by decide) fl113 (fun _ h9 => h9) rfl dX4_coefficient_16 ?_
      refine lv_icmp_le (tgt := 24) hx hb dX4_coefficient_19 (by decide) (fun c_19 => ?_) (fun c_19 => ?_)
      · skip
        have eok : pPl (L + 1) i0 := pPl_le (by omega) c_8 c_19
        have ean : pCoef rs L C i0 = nI (C (L - pIx i0)) := if_pos ⟨c_4, eok⟩
        rw [ean] at ret
        have q1 := pPl_ix eok
        generalize pIx i0 = j at q1 ret
        obtain ⟨e7, hj⟩ := q1
        rw [e7] at hl
        refine lv_aload_n hx hb dX4_coefficient_24 rfl (lv_at hl 0 rfl) ?_
        refine va_get (D := D) (ci := 4) (v := .ref aE) (C := RX4) (T := TX4) (N := 13) hx hb hts i_X4 hown hK hP 0 rfl rfl 3 (by decide) fl52 (fun _ h9 => h9) rfl dX4_coefficient_25 ?_
        refine lv_aload_n hx hb dX4_coefficient_28 rfl (lv_at hl 0 rfl) ?_
        refine va_get (D := D) (ci := 4) (v := .ref aE) (C := RX4) (T := TX4) (N := 13) hx hb hts i_X4 hown hK hP 0 rfl rfl 3 (by decide) fl52 (fun _ h9 => h9) rfl dX4_coefficient_29 ?_
        refine va_get (D := D) (ci := 3) (v := .int (nI L)) (C := RX3) (T := TX3) (N := 7) hx hb hts i_X3 hown hK hP 1 rfl rfl 4 (by decide) fl113 (fun _ h9 => h9) rfl dX4_coefficient_32 ?_
        refine lv_iload_n hx hb dX4_coefficient_35 rfl (lv_at hl 1 rfl) ?_
        refine kd_sub hx hb (by omega) dX4_coefficient_36 ?_
        refine kd_VI (As := [.int (nI (L - j))]) (rest := []) (Wr := [(h0, .inr (4, [.ref aM, .ref aK, .ref aG, .ref aE, .int (nI n), .ref aRi, .ref aCh, .ref aWo, .ref aNu, .ref aAn, .int (nI rs), .int (nI ss), .int (nI att)]))]) ⟨hx, hb, hml, hown, hts⟩ (c_X3_term l D cI cJ aE aM tC tB tT (2 * n + 1) L sh em (L - j) C (by omega) (by omega)) (cwV 1 hts gX4_coefficient_X3_term rfl rfl rfl (by decide +kernel) ⟨Nat.le_of_ble_eq_true rfl, Nat.le_of_ble_eq_true rfl⟩) hK hP hD hS hA [1, 2] [0] rfl rfl (by decide) (by decide) 0 rfl rfl rfl rfl hl.1 (Nat.le_of_ble_eq_true rfl) dX4_coefficient_37 ⟨Nat.le_of_ble_eq_true rfl, Nat.le_of_ble_eq_true rfl⟩ (fun _ H locs hP hD hS => ?_)
        have hP : va_P D vwCl [(h0, .inr (4, [.ref aM, .ref aK, .ref aG, .ref aE, .int (nI n), .ref aRi, .ref aCh, .ref aWo, .ref aNu, .ref aAn, .int (nI rs), .int (nI ss), .int (nI att)])), (aE, .inr (3, [.ref aM, .ref tC, .ref tB, .ref tT, .int (nI L), .int (nI sh), .int (nI em)])), (tC, kd_ar cI (2 * n + 1) C)] H := hP
        have hD : va_D A [(h0, .inr (4, [.ref aM, .ref aK, .ref aG, .ref aE, .int (nI n), .ref aRi, .ref aCh, .ref aWo, .ref aNu, .ref aAn, .int (nI rs), .int (nI ss), .int (nI att)])), (aE, .inr (3, [.ref aM, .ref tC, .ref tB, .ref tT, .int (nI L), .int (nI sh), .int (nI em)])), (tC, kd_ar cI (2 * n + 1) C)] := hD
        exact ret () _ _ _ _ _ dX4_coefficient_40 rfl hS (hP.sub [0, 1, 2] rfl) (hD.sub [0, 1, 2] (by decide) rfl)
      · skip
        refine lv_iconst (v := (-1)) hx hb dX4_coefficient_22 (by decide) ?_
        exact ret () _ _ _ _ _ dX4_coefficient_23 ((if_neg (fun q => pPl_gt (by omega) c_19 q.2)).symm) hS (hP.sub [0, 1, 2] rfl) (hD.sub [0, 1, 2] (by decide) rfl)

set_option maxHeartbeats 4000000 in
set_option maxRecDepth 100000 in
/-- number -/
theorem c_X4_number (l : Launch) (D : va_G) (cI cJ : ClassId) (h0 aM aK aG aE aRi aCh aWo aNu aAn : Nat) (n rs ss att : Nat) (nu : Nat → Nat) (i0 : Int32) (g4 : n ≤ 16) (g5 : rs < 2) : kd_MI (S := Unit) l yX4_number wsX4_number { frames := 0, cells := 0, slots := 0, locals := 0 } [.ref h0, .int i0] D vwCl cI cJ [(h0, .inr (4, [.ref aM, .ref aK, .ref aG, .ref aE, .int (nI n), .ref aRi, .ref aCh, .ref aWo, .ref aNu, .ref aAn, .int (nI rs), .int (nI ss), .int (nI att)])), (aNu, kd_ar cI (2 * n) nu)] (fun _ => pNum n rs nu i0) (fun _ => [(h0, .inr (4, [.ref aM, .ref aK, .ref aG, .ref aE, .int (nI n), .ref aRi, .ref aCh, .ref aWo, .ref aNu, .ref aAn, .int (nI rs), .int (nI ss), .int (nI att)])), (aNu, kd_ar cI (2 * n) nu)]) 0 0 := by
  refine kd_enterI (cc := cX4_number) (maxL := 2) (by decide) rfl (Nat.le_of_ble_eq_true rfl) ?_
  intro p e s m args below meth c A ls Q hx hb hr hts hown hlk hnm hml hP hK hD hA hS hl ret
  have hl : lv_has ls 2 [(0, .ref h0), (1, .int i0)] := hl
  have hown : s.vm.findClass RX4 = some m.cls := hown
  have i_X4 : ∀ w ∈ wsX40, w ∈ wsX4_number := by decide +kernel
  have fl110 := hts (.fieldLink RX4 110 "KrylovDesk" "rowStands" "Z") (by decide +kernel)
  have fl66 := hts (.fieldLink RX4 66 "KrylovDesk" "numbers" "[I") (by decide +kernel)
  refine lv_aload_n hx hb dX4_number_0 rfl (lv_at hl 0 rfl) ?_
  refine va_get (D := D) (ci := 4) (v := .int (nI rs)) (C := RX4) (T := TX4) (N := 13) hx hb hts i_X4 hown hK hP 0 rfl rfl 10 (by decide) fl110 (fun _ h9 => h9) rfl dX4_number_1 ?_
  refine kd_eq0 (tgt := 29) hx hb dX4_number_4 (by decide) (by omega) (fun c_4 => ?_) (fun c_4 => ?_)
  · skip
    refine lv_iconst (v := (-1)) hx hb dX4_number_29 (by decide) ?_
    exact ret () _ _ _ _ _ dX4_number_30 ((if_neg (fun q => q.1 c_4)).symm) hS (hP.sub [0, 1] rfl) (hD.sub [0, 1] (by decide) rfl)
  · skip
    refine lv_iload_n hx hb dX4_number_7 rfl (lv_at hl 1 rfl) ?_
    refine lv_if_lt (tgt := 29) hx hb dX4_number_8 (by decide) (fun c_8 => ?_) (fun c_8 => ?_)
    · skip
      refine lv_iconst (v := (-1)) hx hb dX4_number_29 (by decide) ?_
      exact ret () _ _ _ _ _ dX4_number_30 ((if_neg (fun q => pPl_neg c_8 q.2)).symm) hS (hP.sub [0, 1] rfl) (hD.sub [0, 1] (by decide) rfl)
    · skip
      refine lv_iload_n hx hb dX4_number_11 rfl (lv_at hl 1 rfl) ?_
      refine lv_aload_n hx hb dX4_number_12 rfl (lv_at hl 0 rfl) ?_
      refine va_get (D := D) (ci := 4) (v := .ref aNu) (C := RX4) (T := TX4) (N := 13) hx hb hts i_X4 hown hK hP 0 rfl rfl 8 (by decide) fl66 (fun _ h9 => h9) rfl dX4_number_13 ?_
      refine kd_alen hx hb hK hP 1 rfl dX4_number_16 ?_
      refine lv_icmp_ge (tgt := 29) hx hb dX4_number_17 (by decide) (fun c_17 => ?_) (fun c_17 => ?_)
      · skip
        refine lv_iconst (v := (-1)) hx hb dX4_number_29 (by decide) ?_
        exact ret () _ _ _ _ _ dX4_number_30 ((if_neg (fun q => pPl_big (by omega) c_17 q.2)).symm) hS (hP.sub [0, 1] rfl) (hD.sub [0, 1] (by decide) rfl)
      · skip
        have eok : pPl (2 * n) i0 := pPl_in (by omega) c_8 c_17
        have ean : pNum n rs nu i0 = nI (nu (pIx i0)) := if_pos ⟨c_4, eok⟩
        rw [ean] at ret
        have q1 := pPl_ix eok
        generalize pIx i0 = j at q1 ret
        obtain ⟨e7, hj⟩ := q1
        rw [e7] at hl
        refine lv_aload_n hx hb dX4_number_20 rfl (lv_at hl 0 rfl) ?_
        refine va_get (D := D) (ci := 4) (v := .ref aNu) (C := RX4) (T := TX4) (N := 13) hx hb hts i_X4 hown hK hP 0 rfl rfl 8 (by decide) fl66 (fun _ h9 => h9) rfl dX4_number_21 ?_
        refine lv_iload_n hx hb dX4_number_24 rfl (lv_at hl 1 rfl) ?_
        refine kd_ald hx hb hK hP 1 rfl j (by omega) (by omega) dX4_number_25 ?_
        refine lv_goto (tgt := 30) hx hb dX4_number_26 (by decide) ?_
        exact ret () _ _ _ _ _ dX4_number_30 rfl hS (hP.sub [0, 1] rfl) (hD.sub [0, 1] (by decide) rfl)

set_option maxHeartbeats 4000000 in
set_option maxRecDepth 100000 in
/-- verify -/
theorem c_X4_verify (l : Launch) (D : va_G) (cI cJ : ClassId) (h0 aM aK aG aE aRi aCh aWo aNu aAn : Nat) (aR aC aV aS : Nat) (P n room held prod : Nat) (rows cols vals sums : Nat → Nat) (rs ss att : Nat) (b0 wo an : Nat → Nat) (g : pOK P n room held rows cols vals b0) (g11 : ∀ j, j < n → an j < P) (g12 : ss < 2) : kd_MI (S := (Nat → Nat) × (Nat → Nat)) l yX4_verify wsX4_verify { frames := 3, cells := 0, slots := 0, locals := 108 } [.ref h0] D vwCl cI cJ [(h0, .inr (4, [.ref aM, .ref aK, .ref aG, .ref aE, .int (nI n), .ref aRi, .ref aCh, .ref aWo, .ref aNu, .ref aAn, .int (nI rs), .int (nI ss), .int (nI att)])), (aM, .inr (2, [.int (nI P)])), (aK, .inr (1, [.ref aM, .ref aR, .ref aC, .ref aV, .ref aS, .int (nI held), .int (nI prod)])), (aR, kd_ar cI room rows), (aC, kd_ar cI room cols), (aV, kd_ar cI room vals), (aS, kd_ar cI n sums), (aRi, kd_ar cI n b0), (aWo, kd_ar cI n wo), (aAn, kd_ar cI n an)] (fun u9 => nI (pB (¬ ss = 0 ∧ pHolds P n rows cols vals held b0 an))) (fun u9 => [(h0, .inr (4, [.ref aM, .ref aK, .ref aG, .ref aE, .int (nI n), .ref aRi, .ref aCh, .ref aWo, .ref aNu, .ref aAn, .int (nI rs), .int (nI ss), .int (nI att)])), (aM, .inr (2, [.int (nI P)])), (aK, .inr (1, [.ref aM, .ref aR, .ref aC, .ref aV, .ref aS, .int (nI held), .int (nI (if ss = 0 then prod else prod + 1))])), (aR, kd_ar cI room rows), (aC, kd_ar cI room cols), (aV, kd_ar cI room vals), (aS, kd_ar cI n u9.1), (aRi, kd_ar cI n b0), (aWo, kd_ar cI n u9.2), (aAn, kd_ar cI n an)]) 0 0 := by
  refine kd_enterZ (cc := cX4_verify) (maxL := 1) (by decide) rfl (Nat.le_of_ble_eq_true rfl) (fun _ => pB_01 _) ?_
  intro p e s m args below meth c A ls Q hx hb hr hts hown hlk hnm hml hP hK hD hA hS hl ret
  have hl : lv_has ls 1 [(0, .ref h0)] := hl
  have hown : s.vm.findClass RX4 = some m.cls := hown
  have i_X4 : ∀ w ∈ wsX40, w ∈ wsX4_verify := by decide +kernel
  have fl96 := hts (.fieldLink RX4 96 "KrylovDesk" "answerStands" "Z") (by decide +kernel)
  refine lv_aload_n hx hb dX4_verify_0 rfl (lv_at hl 0 rfl) ?_
  refine va_get (D := D) (ci := 4) (v := .int (nI ss)) (C := RX4) (T := TX4) (N := 13) hx hb hts i_X4 hown hK hP 0 rfl rfl 11 (by decide) fl96 (fun _ h9 => h9) rfl dX4_verify_1 ?_
  refine kd_eq0 (tgt := 18) hx hb dX4_verify_4 (by decide) (by omega) (fun c_4 => ?_) (fun c_4 => ?_)
  · skip
    refine lv_iconst (v := (nI 0)) hx hb dX4_verify_18 (by decide) ?_
    rw [if_pos c_4] at ret
    exact ret (sums, wo) _ _ _ _ _ dX4_verify_19 (by rw [pB_f (fun q => q.1 c_4)]) hS (hP.sub [0, 1, 2, 3, 4, 5, 6, 7, 8, 9] rfl) (hD.sub [0, 1, 2, 3, 4, 5, 6, 7, 8, 9] (by decide) rfl)
  · skip
    refine lv_aload_n hx hb dX4_verify_7 rfl (lv_at hl 0 rfl) ?_
    refine kd_VI (As := []) (rest := []) (Wr := []) ⟨hx, hb, hml, hown, hts⟩ (c_X4_answerMeetsRight l D cI cJ h0 aM aK aG aE aRi aCh aWo aNu aAn aR aC aV aS P n room held prod rows cols vals sums rs ss att b0 wo an g g11) (cwV 0 hts gX4_verify_X4_answerMeetsRight rfl rfl rfl (by decide +kernel) ⟨Nat.le_of_ble_eq_true rfl, Nat.le_of_ble_eq_true rfl⟩) hK hP hD hS hA [0, 1, 2, 3, 4, 5, 6, 7, 8, 9] [] rfl rfl (by decide) (by decide) 0 rfl rfl rfl rfl hl.1 (Nat.le_of_ble_eq_true rfl) dX4_verify_8 ⟨Nat.le_of_ble_eq_true rfl, Nat.le_of_ble_eq_true rfl⟩ (fun v9 H locs hP hD hS => ?_)
    have hP : va_P D vwCl [(h0, .inr (4, [.ref aM, .ref aK, .ref aG, .ref aE, .int (nI n), .ref aRi, .ref aCh, .ref aWo, .ref aNu, .ref aAn, .int (nI rs), .int (nI ss), .int (nI att)])), (aM, .inr (2, [.int (nI P)])), (aK, .inr (1, [.ref aM, .ref aR, .ref aC, .ref aV, .ref aS, .int (nI held), .int (nI (prod + 1))])), (aR, kd_ar cI room rows), (aC, kd_ar cI room cols), (aV, kd_ar cI room vals), (aS, kd_ar cI n v9.1), (aRi, kd_ar cI n b0), (aWo, kd_ar cI n v9.2), (aAn, kd_ar cI n an)] H := hP
    have hD : va_D A [(h0, .inr (4, [.ref aM, .ref aK, .ref aG, .ref aE, .int (nI n), .ref aRi, .ref aCh, .ref aWo, .ref aNu, .ref aAn, .int (nI rs), .int (nI ss), .int (nI att)])), (aM, .inr (2, [.int (nI P)])), (aK, .inr (1, [.ref aM, .ref aR, .ref aC, .ref aV, .ref aS, .int (nI held), .int (nI (prod + 1))])), (aR, kd_ar cI room rows), (aC, kd_ar cI room cols), (aV, kd_ar cI room vals), (aS, kd_ar cI n v9.1), (aRi, kd_ar cI n b0), (aWo, kd_ar cI n v9.2), (aAn, kd_ar cI n an)] := hD
    refine kd_eq0 (tgt := 18) hx hb dX4_verify_11 (by decide) (by have := pB_lt (pHolds P n rows cols vals held b0 an); omega) (fun c_11 => ?_) (fun c_11 => ?_)
    · skip
      refine lv_iconst (v := (nI 0)) hx hb dX4_verify_18 (by decide) ?_
      rw [if_neg c_4] at ret
      exact ret v9 _ _ _ _ _ dX4_verify_19 (by first | rw [pB_f (fun q => pB_e0 c_11 q.2)] | rw [pB_t ⟨c_4, pB_e1 c_11⟩]) hS (hP.sub [0, 1, 2, 3, 4, 5, 6, 7, 8, 9] rfl) (hD.sub [0, 1, 2, 3, 4, 5, 6, 7, 8, 9] (by decide) rfl)
    · skip
      refine lv_iconst (v := (nI 1)) hx hb dX4_verify_14 (by decide) ?_
      refine lv_goto (tgt := 19) hx hb dX4_verify_15 (by decide) ?_
      rw [if_neg c_4] at ret
      exact ret v9 _ _ _ _ _ dX4_verify_19 (by first | rw [pB_f (fun q => pB_e0 c_11 q.2)] | rw [pB_t ⟨c_4, pB_e1 c_11⟩]) hS (hP.sub [0, 1, 2, 3, 4, 5, 6, 7, 8, 9] rfl) (hD.sub [0, 1, 2, 3, 4, 5, 6, 7, 8, 9] (by decide) rfl)

set_option maxHeartbeats 4000000 in
set_option maxRecDepth 100000 in
/-- products -/
theorem c_X4_products (l : Launch) (D : va_G) (cI cJ : ClassId) (h0 aM aK aG aE aRi aCh aWo aNu aAn : Nat) (aR aC aV aS : Nat) (n held prod rs ss att : Nat) : kd_MI (S := Unit) l yX4_products wsX4_products { frames := 0, cells := 0, slots := 0, locals := 0 } [.ref h0] D vwCl cI cJ [(h0, .inr (4, [.ref aM, .ref aK, .ref aG, .ref aE, .int (nI n), .ref aRi, .ref aCh, .ref aWo, .ref aNu, .ref aAn, .int (nI rs), .int (nI ss), .int (nI att)])), (aK, .inr (1, [.ref aM, .ref aR, .ref aC, .ref aV, .ref aS, .int (nI held), .int (nI prod)]))] (fun _ => nI prod) (fun _ => [(h0, .inr (4, [.ref aM, .ref aK, .ref aG, .ref aE, .int (nI n), .ref aRi, .ref aCh, .ref aWo, .ref aNu, .ref aAn, .int (nI rs), .int (nI ss), .int (nI att)])), (aK, .inr (1, [.ref aM, .ref aR, .ref aC, .ref aV, .ref aS, .int (nI held), .int (nI prod)]))]) 0 0 := by
  refine kd_enterI (cc := cX4_products) (maxL := 1) (by decide) rfl (Nat.le_of_ble_eq_true rfl) ?_
  intro p e s m args below meth c A ls Q hx hb hr hts hown hlk hnm hml hP hK hD hA hS hl ret
  have hl : lv_has ls 1 [(0, .ref h0)] := hl
  have hown : s.vm.findClass RX4 = some m.cls := hown
  have i_X4 : ∀ w ∈ wsX40, w ∈ wsX4_products := by decide +kernel
  have fl36 := hts (.fieldLink RX4 36 "KrylovDesk" "matrix" "LKrylovDesk$Matrix;") (by decide +kernel)
  have i_X1 : ∀ w ∈ wsX10, w ∈ wsX4_products := by decide +kernel
  have fl132 := hts (.fieldLink RX4 132 "KrylovDesk$Matrix" "productsMade" "I") (by decide +kernel)
  refine lv_aload_n hx hb dX4_products_0 rfl (lv_at hl 0 rfl) ?_
  refine va_get (D := D) (ci := 4) (v := .ref aK) (C := RX4) (T := TX4) (N := 13) hx hb hts i_X4 hown hK hP 0 rfl rfl 1 (by decide) fl36 (fun _ h9 => h9) rfl dX4_products_1 ?_
  refine va_get (D := D) (ci := 1) (v := .int (nI prod)) (C := RX1) (T := TX1) (N := 7) hx hb hts i_X1 hown hK hP 1 rfl rfl 6 (by decide) fl132 (fun _ h9 => h9) rfl dX4_products_4 ?_
  exact ret () _ _ _ _ _ dX4_products_7 rfl hS (hP.sub [0, 1] rfl) (hD.sub [0, 1] (by decide) rfl)

set_option maxHeartbeats 4000000 in
set_option maxRecDepth 100000 in
/-- count -/
theorem c_X4_count (l : Launch) (D : va_G) (cI cJ : ClassId) (h0 aM aK aG aE aRi aCh aWo aNu aAn : Nat) (aR aC aV aS : Nat) (P n held prod rs ss att gg : Nat) (i0 : Int32) : kd_MI (S := Unit) l yX4_count wsX4_count { frames := 0, cells := 0, slots := 0, locals := 0 } [.ref h0, .int i0] D vwCl cI cJ [(h0, .inr (4, [.ref aM, .ref aK, .ref aG, .ref aE, .int (nI n), .ref aRi, .ref aCh, .ref aWo, .ref aNu, .ref aAn, .int (nI rs), .int (nI ss), .int (nI att)])), (aM, .inr (2, [.int (nI P)])), (aG, .inr (0, [.int (nI gg)])), (aK, .inr (1, [.ref aM, .ref aR, .ref aC, .ref aV, .ref aS, .int (nI held), .int (nI prod)]))] (fun _ => pCount P n held gg att i0) (fun _ => [(h0, .inr (4, [.ref aM, .ref aK, .ref aG, .ref aE, .int (nI n), .ref aRi, .ref aCh, .ref aWo, .ref aNu, .ref aAn, .int (nI rs), .int (nI ss), .int (nI att)])), (aM, .inr (2, [.int (nI P)])), (aG, .inr (0, [.int (nI gg)])), (aK, .inr (1, [.ref aM, .ref aR, .ref aC, .ref aV, .ref aS, .int (nI held), .int (nI prod)]))]) 0 0 := by
  refine kd_enterI (cc := cX4_count) (maxL := 2) (by decide) rfl (Nat.le_of_ble_eq_true rfl) ?_
  intro p e s m args below meth c A ls Q hx hb hr hts hown hlk hnm hml hP hK hD hA hS hl ret
  have hl : lv_has ls 2 [(0, .ref h0), (1, .int i0)] := hl
  have hown : s.vm.findClass RX4 = some m.cls := hown
  have i_X4 : ∀ w ∈ wsX40, w ∈ wsX4_count := by decide +kernel
  have fl27 := hts (.fieldLink RX4 27 "KrylovDesk" "modulus" "LKrylovDesk$Modulus;") (by decide +kernel)
  have i_X2 : ∀ w ∈ wsX20, w ∈ wsX4_count := by decide +kernel
  have fl135 := hts (.fieldLink RX4 135 "KrylovDesk$Modulus" "prime" "I") (by decide +kernel)
  have fl13 := hts (.fieldLink RX4 13 "KrylovDesk" "size" "I") (by decide +kernel)
  have fl36 := hts (.fieldLink RX4 36 "KrylovDesk" "matrix" "LKrylovDesk$Matrix;") (by decide +kernel)
  have i_X1 : ∀ w ∈ wsX10, w ∈ wsX4_count := by decide +kernel
  have fl138 := hts (.fieldLink RX4 138 "KrylovDesk$Matrix" "held" "I") (by decide +kernel)
  have fl43 := hts (.fieldLink RX4 43 "KrylovDesk" "generator" "LKrylovDesk$Generator;") (by decide +kernel)
  have i_X0 : ∀ w ∈ wsX00, w ∈ wsX4_count := by decide +kernel
  have fl141 := hts (.fieldLink RX4 141 "KrylovDesk$Generator" "state" "I") (by decide +kernel)
  have fl93 := hts (.fieldLink RX4 93 "KrylovDesk" "attemptsMade" "I") (by decide +kernel)
  refine lv_iload_n hx hb dX4_count_0 rfl (lv_at hl 1 rfl) ?_
  by_cases s_0 : i0 = 0
  · subst s_0
    refine lv_tableIn (tgt := 36) hx hb dX4_count_1 (by decide) (by decide) rfl (by decide) ?_
    have hl := lv_sub hl [0] rfl
    refine lv_aload_n hx hb dX4_count_36 rfl (lv_at hl 0 rfl) ?_
    refine va_get (D := D) (ci := 4) (v := .ref aM) (C := RX4) (T := TX4) (N := 13) hx hb hts i_X4 hown hK hP 0 rfl rfl 0 (by decide) fl27 (fun _ h9 => h9) rfl dX4_count_37 ?_
    refine va_get (D := D) (ci := 2) (v := .int (nI P)) (C := RX2) (T := TX2) (N := 1) hx hb hts i_X2 hown hK hP 1 rfl rfl 0 (by decide) fl135 (fun _ h9 => h9) rfl dX4_count_40 ?_
    exact ret () _ _ _ _ _ dX4_count_43 rfl hS (hP.sub [0, 1, 2, 3] rfl) (hD.sub [0, 1, 2, 3] (by decide) rfl)
  by_cases s_1 : i0 = 1
  · subst s_1
    refine lv_tableIn (tgt := 44) hx hb dX4_count_1 (by decide) (by decide) rfl (by decide) ?_
    have hl := lv_sub hl [0] rfl
    refine lv_aload_n hx hb dX4_count_44 rfl (lv_at hl 0 rfl) ?_
    refine va_get (D := D) (ci := 4) (v := .int (nI n)) (C := RX4) (T := TX4) (N := 13) hx hb hts i_X4 hown hK hP 0 rfl rfl 4 (by decide) fl13 (fun _ h9 => h9) rfl dX4_count_45 ?_
    exact ret () _ _ _ _ _ dX4_count_48 rfl hS (hP.sub [0, 1, 2, 3] rfl) (hD.sub [0, 1, 2, 3] (by decide) rfl)
  by_cases s_2 : i0 = 2
  · subst s_2
    refine lv_tableIn (tgt := 49) hx hb dX4_count_1 (by decide) (by decide) rfl (by decide) ?_
    have hl := lv_sub hl [0] rfl
    refine lv_aload_n hx hb dX4_count_49 rfl (lv_at hl 0 rfl) ?_
    refine va_get (D := D) (ci := 4) (v := .ref aK) (C := RX4) (T := TX4) (N := 13) hx hb hts i_X4 hown hK hP 0 rfl rfl 1 (by decide) fl36 (fun _ h9 => h9) rfl dX4_count_50 ?_
    refine va_get (D := D) (ci := 1) (v := .int (nI held)) (C := RX1) (T := TX1) (N := 7) hx hb hts i_X1 hown hK hP 3 rfl rfl 5 (by decide) fl138 (fun _ h9 => h9) rfl dX4_count_53 ?_
    exact ret () _ _ _ _ _ dX4_count_56 rfl hS (hP.sub [0, 1, 2, 3] rfl) (hD.sub [0, 1, 2, 3] (by decide) rfl)
  by_cases s_3 : i0 = 3
  · subst s_3
    refine lv_tableIn (tgt := 57) hx hb dX4_count_1 (by decide) (by decide) rfl (by decide) ?_
    have hl := lv_sub hl [0] rfl
    refine lv_aload_n hx hb dX4_count_57 rfl (lv_at hl 0 rfl) ?_
    refine va_get (D := D) (ci := 4) (v := .ref aG) (C := RX4) (T := TX4) (N := 13) hx hb hts i_X4 hown hK hP 0 rfl rfl 2 (by decide) fl43 (fun _ h9 => h9) rfl dX4_count_58 ?_
    refine va_get (D := D) (ci := 0) (v := .int (nI gg)) (C := RX0) (T := TX0) (N := 1) hx hb hts i_X0 hown hK hP 2 rfl rfl 0 (by decide) fl141 (fun _ h9 => h9) rfl dX4_count_61 ?_
    exact ret () _ _ _ _ _ dX4_count_64 rfl hS (hP.sub [0, 1, 2, 3] rfl) (hD.sub [0, 1, 2, 3] (by decide) rfl)
  by_cases s_4 : i0 = 4
  · subst s_4
    refine lv_tableIn (tgt := 65) hx hb dX4_count_1 (by decide) (by decide) rfl (by decide) ?_
    have hl := lv_sub hl [0] rfl
    refine lv_aload_n hx hb dX4_count_65 rfl (lv_at hl 0 rfl) ?_
    refine va_get (D := D) (ci := 4) (v := .int (nI att)) (C := RX4) (T := TX4) (N := 13) hx hb hts i_X4 hown hK hP 0 rfl rfl 12 (by decide) fl93 (fun _ h9 => h9) rfl dX4_count_66 ?_
    exact ret () _ _ _ _ _ dX4_count_69 rfl hS (hP.sub [0, 1, 2, 3] rfl) (hD.sub [0, 1, 2, 3] (by decide) rfl)
  refine lv_tableOut (tgt := 70) hx hb dX4_count_1 (kd_out4 s_0 s_1 s_2 s_3 s_4) (by decide) ?_
  refine lv_iconst (v := (-1)) hx hb dX4_count_70 (by decide) ?_
  exact ret () _ _ _ _ _ dX4_count_71 (by unfold pCount; rw [if_neg s_0, if_neg s_1, if_neg s_2, if_neg s_3, if_neg s_4]) hS (hP.sub [0, 1, 2, 3] rfl) (hD.sub [0, 1, 2, 3] (by decide) rfl)
end
section
/-! the pure model: the least prime not below; numbers brought within. A contract with a word on a nest mate. -/
abbrev pPrime (k : Nat) : Prop := ∀ d, d < 216 → 2 ≤ d → d * d ≤ k → ¬ k % d = 0
def pLeast : Nat → Nat → Nat
  | 0, k => k
  | f + 1, k => if pPrime k then k else pLeast f (k + 1)
theorem pLeast_in : ∀ f k, k ≤ pLeast f k ∧ pLeast f k ≤ k + f
  | 0, k => ⟨Nat.le_refl _, Nat.le_refl _⟩
  | f + 1, k => by
    unfold pLeast
    split
    · exact ⟨Nat.le_refl _, by omega⟩
    · have h := pLeast_in f (k + 1)
      omega
def pCl (lo hi : Nat) (v : Int32) : Nat := if v.toInt < (lo : Int) then lo else if (hi : Int) < v.toInt then hi else v.toInt.toNat
theorem pCl_in {lo hi : Nat} (h : lo ≤ hi) (v : Int32) : lo ≤ pCl lo hi v ∧ pCl lo hi v ≤ hi := by
  unfold pCl
  split
  · omega
  · split <;> omega
theorem pCl_lo {lo hi : Nat} {v : Int32} (hl : lo < 2 ^ 31) (h : v < nI lo) : pCl lo hi v = lo := by
  have h1 := Int32.lt_iff_toInt_lt.mp h
  rw [nI_toInt hl] at h1
  exact if_pos h1
theorem pCl_hi {lo hi : Nat} {v : Int32} (hl : lo ≤ hi) (hh : hi < 2 ^ 31) (h : nI hi < v) : pCl lo hi v = hi := by
  have h1 := Int32.lt_iff_toInt_lt.mp h
  rw [nI_toInt hh] at h1
  unfold pCl
  rw [if_neg (by omega), if_pos h1]
theorem pCl_mid {lo hi : Nat} {v : Int32} (hl : lo ≤ hi) (hh : hi < 2 ^ 31) (h : ¬ v < nI lo) (h2 : ¬ nI hi < v) : v = nI (pCl lo hi v) := by
  have h1 : ¬ v.toInt < (nI lo).toInt := fun q => h (Int32.lt_iff_toInt_lt.mpr q)
  have h3 : ¬ (nI hi).toInt < v.toInt := fun q => h2 (Int32.lt_iff_toInt_lt.mpr q)
  rw [nI_toInt (by omega)] at h1 h3
  unfold pCl
  rw [if_neg h1, if_neg h3]
  apply Int32.toInt_inj.mp
  rw [nI_toInt (by omega)]
  omega
theorem pCl_eq {lo hi : Nat} {v : Int32} (hl : lo ≤ hi) (hh : hi < 2 ^ 31) : (if nI lo < (if v < nI hi then v else nI hi) then (if v < nI hi then v else nI hi) else nI lo) = nI (pCl lo hi v) := by
  have e1 : (nI lo).toInt = lo := nI_toInt (by omega)
  have e2 : (nI hi).toInt = hi := nI_toInt hh
  by_cases a : v < nI hi
  · rw [if_pos a]
    have a1 := Int32.lt_iff_toInt_lt.mp a
    rw [e2] at a1
    by_cases b : nI lo < v
    · rw [if_pos b]
      have b1 := Int32.lt_iff_toInt_lt.mp b
      rw [e1] at b1
      exact pCl_mid hl hh (fun q => by have := Int32.lt_iff_toInt_lt.mp q; rw [e1] at this; omega) (fun q => by have := Int32.lt_iff_toInt_lt.mp q; rw [e2] at this; omega)
    · rw [if_neg b]
      have b1 : ¬ (nI lo).toInt < v.toInt := fun q => b (Int32.lt_iff_toInt_lt.mpr q)
      rw [e1] at b1
      by_cases d : v.toInt < (lo : Int)
      · unfold pCl
        rw [if_pos d]
      · unfold pCl
        rw [if_neg d, if_neg (by omega)]
        congr 1
        omega
  · rw [if_neg a]
    have a1 : ¬ v.toInt < (nI hi).toInt := fun q => a (Int32.lt_iff_toInt_lt.mpr q)
    rw [e2] at a1
    have hc : pCl lo hi v = hi := by
      unfold pCl
      rw [if_neg (by omega)]
      split <;> omega
    rw [hc]
    by_cases b : nI lo < nI hi
    · rw [if_pos b]
    · rw [if_neg b]
      have b1 : ¬ (nI lo).toInt < (nI hi).toInt := fun q => b (Int32.lt_iff_toInt_lt.mpr q)
      rw [e1, e2] at b1
      congr 1
      omega
theorem max2 {P : Nat} (h : 2 ≤ P) (h2 : P < 2 ^ 31) : (if nI 2 < nI P then nI P else nI 2) = nI P := by
  by_cases a : nI 2 < nI P
  · rw [if_pos a]
  · rw [if_neg a]
    have h3 : ¬ 2 < P := fun q => a (nI_lt (a := 2) (b := P) q h2)
    congr 1
    omega
theorem max0 {x : Nat} (h2 : x < 2 ^ 31) : (if nI 0 < nI x then nI x else nI 0) = nI x := by
  by_cases a : nI 0 < nI x
  · rw [if_pos a]
  · rw [if_neg a]
    have h3 : ¬ 0 < x := fun q => a (nI_lt (a := 0) (b := x) q h2)
    congr 1
    omega
def pPr (v : Int32) : Nat := pLeast (46337 - pCl 2 46337 v) (pCl 2 46337 v)
theorem pPr_in (v : Int32) : 2 ≤ pPr v ∧ pPr v ≤ 46337 := by
  have h := pCl_in (lo := 2) (hi := 46337) (by omega) v
  have h2 := pLeast_in (46337 - pCl 2 46337 v) (pCl 2 46337 v)
  unfold pPr
  omega
theorem sq_lt {d k : Nat} (h : d ≤ 216) (h2 : d * d ≤ k) (h3 : k ≤ 46337) : d < 216 := by
  rcases Nat.lt_or_ge d 216 with q | q
  · exact q
  · have e : d = 216 := by omega
    subst e
    omega
theorem sq_b {d : Nat} (h : d ≤ 216) : d * d < 2 ^ 31 := by
  have h1 : d * d ≤ 216 * 216 := Nat.mul_le_mul h h
  omega
theorem pPrime_end {d k : Nat} (h : k < d * d) (h2 : ∀ x, x < d → 2 ≤ x → ¬ k % x = 0) : pPrime k := by
  intro x _ hx2 hx3
  apply h2 x _ hx2
  apply Decidable.byContradiction
  intro q
  have h4 : d * d ≤ x * x := Nat.mul_le_mul (by omega) (by omega)
  omega
set_option maxRecDepth 100000 in
theorem pPrime_last : pPrime 46337 := by decide +kernel
theorem pLeast_yes {c0 k : Nat} (h : pLeast (46337 - c0) c0 = pLeast (46337 - k) k) (hk : k < 46337) (hp : pPrime k) : pLeast (46337 - c0) c0 = k := by
  rw [h, show 46337 - k = (46337 - (k + 1)) + 1 by omega]
  exact if_pos hp
theorem pLeast_no {c0 k : Nat} (h : pLeast (46337 - c0) c0 = pLeast (46337 - k) k) (hk : k < 46337) (hp : ¬ pPrime k) : pLeast (46337 - c0) c0 = pLeast (46337 - (k + 1)) (k + 1) := by
  rw [h, show 46337 - k = (46337 - (k + 1)) + 1 by omega]
  exact if_neg hp
theorem pLeast_end {c0 k : Nat} (h : pLeast (46337 - c0) c0 = pLeast (46337 - k) k) (hk : k = 46337) : pLeast (46337 - c0) c0 = 46337 := by
  rw [h, hk]
  rfl
def kd_MVn {S : Type} (wN : Cond) (l : Launch) (y : MethodName) (ws : List Cond) (rm : Room) (av : List Value) (D : va_G) (cl : List vw_C) (cI cJ : ClassId) (W0 : va_W) (W1 : S → va_W) (mc ms : Nat) : Prop :=
  ∀ sz : Nat, Met l y ws rm (va_Pc av (fun U => kd_pre D cl cI cJ sz W0 U ∧ va_Nw wN U)) (kd_QV D cl cI cJ W1 (va_A W0 sz)) mc ms (va_A W0 sz)
theorem kd_enterVn {l : Launch} {y : MethodName} {ws ws' : List Cond} {rm : Room} {cc : ByteArray} {maxL : Nat} {av : List Value} {D : va_G} {cl : List vw_C} {cI cJ : ClassId} {W0 : va_W} {mc ms : Nat} {wN : Cond} {S : Type} {W1 : S → va_W} (hy : plainName y.cls = true) (hw : ws = Cond.code y cc maxL none :: ws') (hlen : (lg_sl av).length ≤ maxL)
    (k : ∀ (p : Program) (e : Env) (s : State) (m : MethodId) (args : Array Value) (below : List Frame) (meth : Method) (c : Code) (A : Nat → Prop) (ls : Array Slot) (Q : State → Prop), p.tables.exec = Jvm.exec → c.code = cc → meth.sig.returnType = none → (∀ w ∈ ws, w.before args s = true) → s.vm.findClass y.cls = some m.cls → meth.locks = false → meth.name = y.name → c.maxLocals = maxL →
      va_P D cl W0 s.heap → va_K D cl (kd_T cI cJ) s → va_D A W0 → (∀ q, s.heap.size ≤ q → A q) → va_S A s.heap s.heap [] → lv_has ls maxL (lv_args 0 av) → va_Nw wN s →
      (∀ (u : S) (H : Heap) (locs : List Loc) (pc : Nat) (ls : Array Slot), decode cc pc = .ok (.return_, 1) → va_S A s.heap H locs → va_P D cl (W1 u) H → va_D A (W1 u) → W p l e rm s m args below meth c H locs mc ms Q (F0 m pc ls [])) → W p l e rm s m args below meth c s.heap [] 0 0 Q (F0 m 0 ls [])) :
    kd_MVn wN l y ws rm av D cl cI cJ W0 W1 mc ms := by
  intro sz
  refine Met.ofW (cc := cc) (maxL := maxL) (ret := none) hy hw ?_
  intro p e s m args below meth c s₁ B hml hv
  obtain ⟨rfl, ⟨hsz, hP, hK, hD0⟩, hN⟩ := hv
  subst hsz
  have hl := lv_entry av (n := maxL) hlen
  rw [lg_entry_eq]
  refine k p e s m av.toArray below meth c (va_A W0 s.heap.size) _ _ B.exec B.bytes B.returns (atoms_spec (ws := ws) B.pre) (findClass_of_methodNamed B.named) B.notSynchronized (name_of_methodNamed B.named B.method).1 hml hP hK hD0.self (fun q h => Or.inr h) va_S.rf hl hN ?_
  intro u H locs pc ls hd hS hP hD
  exact W.vret B.exec B.bytes B.returns (fun t ht hW => ⟨⟨u, rfl, trivial, by rw [ht]; exact hP, va_K.moved hW.alike hK, hD⟩, hS.F ht⟩) hS.2.2 hd B.notSynchronized
theorem kd_blindN {av : List Value} {D : va_G} {cl : List vw_C} {cI cJ : ClassId} {sz : Nat} {W0 : va_W} {a : String} {i : Nat} {x : MethodName} {h : String} : FrameBlind (va_Pc av (fun U => kd_pre D cl cI cJ sz W0 U ∧ va_Nw (.methodLinkNest a i x h) U)) := by
  intro z U g mk q
  obtain ⟨q0, ⟨q1, qP, qK, qD⟩, qN⟩ := q
  exact ⟨q0, ⟨q1, qP, va_K.moved (u := U) (U := U.calling g mk z) (Vm.Alike.refl U.vm) qK, qD⟩, va_Nw.same (u := U) (U := U.calling g mk z) rfl rfl qN⟩
section KN
variable {p : Program} {l : Launch} {e : Env} {R : Room} {s : State} {m : MethodId} {args : Array Value} {below : List Frame} {meth : Method} {c : Code} {H : Heap} {locs : List Loc} {cells slots : Nat} {Q : State → Prop}
variable {cc : ByteArray} {pc : Nat} {ls : Array Slot} {rest st0 : List Value} {A : Nat → Prop} {D : va_G} {cl : List vw_C} {Wn Wc Wr : va_W} {b : Nat} {cI cJ : ClassId} {mc ms n nL index maxL : Nat}
variable {S : Type} {W1 : S → va_W} {y : MethodName} {ws : List Cond} {rm : Room} {As : List Value} {Ts : List Cond} {own host : String} {bytes : ByteArray}
/-- invokespecial of a nest mate's private <init> -/
theorem kd_NV (Sx : CallFix p m c cc nL s args Ts own) (hM : kd_MV l y ws rm (.ref b :: As) D cl cI cJ Wc W1 mc ms) (cw : va_CN R s args own index y host bytes maxL none ws rm mc ms n ∧ y.name = "<init>" ∧ (Cond.instanceMethod y).before args s = true) (hK : va_K D cl (kd_T cI cJ) s) (hP : va_P D cl Wn H) (hD : va_D A Wn) (hS : va_S A s.heap H locs) (hA : ∀ q, s.heap.size ≤ q → A q) (isC isR : List Nat) (hC : isC.map (fun i => Wn[i]?) = Wc.map some) (hR : isR.map (fun i => Wn[i]?) = Wr.map some) (hnd : (va_nd isC && va_nd isR) = true) (hdis : ∀ i ∈ isR, i ∉ isC)
    (hst : st0 = As.reverse ++ .ref b :: rest) (hAs : As.length = n) (hls : ls.size = nL) (hroom : (rest.map fun v => v.category).sum ≤ 8) (hdg : decode cc pc = .ok (.invokespecial index, 3)) (hf : cells + mc ≤ R.cells ∧ slots + ms ≤ R.slots)
    (kk : ∀ (u : S) (H1 : Heap) (locs1 : List Loc), va_P D cl (Wr ++ W1 u) H1 → va_D A (Wr ++ W1 u) → va_S A s.heap H1 locs1 → W p l e R s m args below meth c H1 locs1 (cells + mc) (slots + ms) Q (F0 m (pc + 3) ls rest)) : W p l e R s m args below meth c H locs cells slots Q (F0 m pc ls st0) := by
  obtain ⟨h1, h2⟩ := Bool.and_eq_true_iff.mp hnd
  exact kd_goV hM hP hD hS hA isC isR hC hR h2 hdis (va_runIN (As := As) (rest := rest) Sx (hM H.size) cw ⟨kd_blind, kd_preAt hK hP hD isC hC h1⟩ rfl hAs hls hst (lv_room (ls := ls) (m := m) (pc := pc) (rest := st0) hroom) hdg hf) kk
/-- invokespecial <init> of a contract that wants a word on a nest mate -/
theorem kd_ZV {ya : String} {yi : Nat} {yx : MethodName} {yh : String} (hN : va_Nw (.methodLinkNest ya yi yx yh) s) (Sx : CallFix p m c cc nL s args Ts own) (hM : kd_MVn (.methodLinkNest ya yi yx yh) l y ws rm (.ref b :: As) D cl cI cJ Wc W1 mc ms) (cw : CallB R s args own index y bytes maxL none ws rm mc ms n ∧ y.name = "<init>" ∧ (Cond.instanceMethod y).before args s = true) (hK : va_K D cl (kd_T cI cJ) s) (hP : va_P D cl Wn H) (hD : va_D A Wn) (hS : va_S A s.heap H locs) (hA : ∀ q, s.heap.size ≤ q → A q) (isC isR : List Nat) (hC : isC.map (fun i => Wn[i]?) = Wc.map some) (hR : isR.map (fun i => Wn[i]?) = Wr.map some) (hnd : (va_nd isC && va_nd isR) = true) (hdis : ∀ i ∈ isR, i ∉ isC)
    (hst : st0 = As.reverse ++ .ref b :: rest) (hAs : As.length = n) (hls : ls.size = nL) (hroom : (rest.map fun v => v.category).sum ≤ 8) (hdg : decode cc pc = .ok (.invokespecial index, 3)) (hf : cells + mc ≤ R.cells ∧ slots + ms ≤ R.slots)
    (kk : ∀ (u : S) (H1 : Heap) (locs1 : List Loc), va_P D cl (Wr ++ W1 u) H1 → va_D A (Wr ++ W1 u) → va_S A s.heap H1 locs1 → W p l e R s m args below meth c H1 locs1 (cells + mc) (slots + ms) Q (F0 m (pc + 3) ls rest)) : W p l e R s m args below meth c H locs cells slots Q (F0 m pc ls st0) := by
  obtain ⟨h1, h2⟩ := Bool.and_eq_true_iff.mp hnd
  have hFc := va_free (wc := Wc) hD hS hA isC hC
  have hr := va_runI (As := As) (rest := rest) Sx (hM H.size) cw ⟨kd_blindN, fun U hU hW => ⟨rfl, (kd_preAt (av := .ref b :: As) hK hP hD isC hC h1 U hU hW).2, va_Nw.warmM hW hN⟩⟩ rfl hAs hls hst (lv_room (ls := ls) (m := m) (pc := pc) (rest := st0) hroom) hdg hf (g := F0 m pc ls st0) (locs := locs) (below := below) (e := e) (meth := meth)
  refine va_callv hr hS (fun q _ h => hFc q h) hFc (fun u t H1 locs1 ht hvm hw hB hz1 hk1 hS1 => ?_)
  obtain ⟨hP1, hK1, hD1⟩ := hB
  rw [ht] at hP1
  obtain ⟨hP2, hD2⟩ := va_join hP hD isC isR hC hR h2 hdis hk1 hFc hP1 hD1
  exact kk u H1 locs1 hP2 hD2 hS1
end KN
end
section
set_option maxHeartbeats 4000000 in
set_option maxRecDepth 100000 in
/-- whether it is a prime -/
theorem c_X4_isPrime (l : Launch) (D : va_G) (cI cJ : ClassId) (k0 : Nat) (g1 : 2 ≤ k0) (g2 : k0 ≤ 46337) : kd_MI (S := Unit) l yX4_isPrime wsX4_isPrime { frames := 0, cells := 0, slots := 0, locals := 0 } [.int (nI k0)] D vwCl cI cJ [] (fun _ => nI (pB (pPrime k0))) (fun _ => []) 0 0 := by
  refine kd_enterZ (cc := cX4_isPrime) (maxL := 2) (by decide) rfl (Nat.le_of_ble_eq_true rfl) (fun _ => pB_01 _) ?_
  intro p e s m args below meth c A ls Q hx hb hr hts hown hlk hnm hml hP hK hD hA hS hl ret
  have hl : lv_has ls 2 [(0, .int (nI k0))] := hl
  have hown : s.vm.findClass RX4 = some m.cls := hown
  refine lv_iconst (v := (nI 2)) hx hb dX4_isPrime_0 (by decide) ?_
  refine lv_istore_n (lv' := [(1, .int (nI 2)), (0, .int (nI k0))]) hx hb dX4_isPrime_1 rfl hl (by decide) rfl (fun ls hl => ?_)
  have lp : ∀ (k_lp : Nat) (d : Nat) (H : Heap) (locs : List Loc) (ls : Array Slot), (216 - d < k_lp) → (d ≤ 216) → (2 ≤ d) → (∀ x, x < d → 2 ≤ x → ¬ k0 % x = 0) → va_P D vwCl [] H → va_D A [] → va_S A s.heap H locs → lv_has ls 2 [(1, .int (nI d)), (0, .int (nI k0))] → W p l e { frames := 0, cells := 0, slots := 0, locals := 0 } s m args below meth c H locs 0 0 Q (F0 m 2 ls []) := by
    intro k_lp
    induction k_lp with
    | zero => intro d H locs ls i1 i2 i3 i4 hP hD hS hl; omega
    | succ k_lp ih_lp =>
      intro d H locs ls i1 i2 i3 i4 hP hD hS hl
      refine lv_iload_n hx hb dX4_isPrime_2 rfl (lv_at hl 0 rfl) ?_
      refine lv_iload_n hx hb dX4_isPrime_3 rfl (lv_at hl 0 rfl) ?_
      refine kd_mul hx hb dX4_isPrime_4 ?_
      refine lv_iload_n hx hb dX4_isPrime_5 rfl (lv_at hl 1 rfl) ?_
      refine kd_gt (tgt := 23) hx hb dX4_isPrime_6 (by decide) (sq_b i2) (by omega) (fun c_6 => ?_) (fun c_6 => ?_)
      · skip
        refine lv_iload_n hx hb dX4_isPrime_23 rfl (lv_at hl 1 rfl) ?_
        refine lv_iconst (v := (nI 1)) hx hb dX4_isPrime_24 (by decide) ?_
        refine kd_le (tgt := 32) hx hb dX4_isPrime_25 (by decide) (by omega) (by omega) (fun c_25 => ?_) (fun c_25 => ?_)
        · skip
          exact absurd c_25 (by omega)
        · skip
          refine lv_iconst (v := (nI 1)) hx hb dX4_isPrime_28 (by decide) ?_
          refine lv_goto (tgt := 33) hx hb dX4_isPrime_29 (by decide) ?_
          exact ret () _ _ _ _ _ dX4_isPrime_33 (by rw [pB_t (pPrime_end c_6 i4)]) hS (hP.sub [] rfl) (hD.sub [] (by decide) rfl)
      · skip
        refine lv_iload_n hx hb dX4_isPrime_9 rfl (lv_at hl 1 rfl) ?_
        refine lv_iload_n hx hb dX4_isPrime_10 rfl (lv_at hl 0 rfl) ?_
        refine kd_rem hx hb (by omega) (by omega) (by omega) dX4_isPrime_11 ?_
        refine kd_ne0 (tgt := 17) hx hb dX4_isPrime_12 (by decide) (by have := Nat.mod_lt k0 (show 0 < d by omega); omega) (fun c_12 => ?_) (fun c_12 => ?_)
        · skip
          refine lv_iinc (v := (nI (d + 1))) (lv' := [(1, .int (nI (d + 1))), (0, .int (nI k0))]) hx hb dX4_isPrime_17 hl (k := 0) rfl (nI_1 _) (by decide) rfl (fun ls hl => ?_)
          refine lv_goto (tgt := 2) hx hb dX4_isPrime_20 (by decide) ?_
          exact ih_lp (d + 1) _ _ _ (by have := sq_lt i2 (Nat.not_lt.mp c_6) g2; omega) (by have := sq_lt i2 (Nat.not_lt.mp c_6) g2; omega) (by omega) (lt_s (p := fun x => 2 ≤ x → ¬ k0 % x = 0) i4 (fun _ => c_12)) (hP.sub [] rfl) (hD.sub [] (by decide) rfl) hS (lv_sub hl [0, 1] rfl)
        · skip
          refine lv_iconst (v := (nI 0)) hx hb dX4_isPrime_15 (by decide) ?_
          exact ret () _ _ _ _ _ dX4_isPrime_16 (by rw [pB_f (fun q => q d (sq_lt i2 (Nat.not_lt.mp c_6) g2) i3 (Nat.not_lt.mp c_6) c_12)]) hS (hP.sub [] rfl) (hD.sub [] (by decide) rfl)
  exact lp 216 2 _ _ _ (by omega) (by omega) (by omega) (fun x hx h2 => by omega) (hP.sub [] rfl) (hD.sub [] (by decide) rfl) hS (lv_sub hl [0, 1] rfl)

set_option maxHeartbeats 4000000 in
set_option maxRecDepth 100000 in
/-- the least prime from there -/
theorem c_X4_leastPrimeFrom (l : Launch) (D : va_G) (cI cJ : ClassId) (c0 : Nat) (g1 : 2 ≤ c0) (g2 : c0 ≤ 46337) : kd_MI (S := Unit) l yX4_leastPrimeFrom wsX4_leastPrimeFrom { frames := 1, cells := 0, slots := 0, locals := 21 } [.int (nI c0)] D vwCl cI cJ [] (fun _ => nI (pLeast (46337 - c0) c0)) (fun _ => []) 0 0 := by
  refine kd_enterI (cc := cX4_leastPrimeFrom) (maxL := 2) (by decide) rfl (Nat.le_of_ble_eq_true rfl) ?_
  intro p e s m args below meth c A ls Q hx hb hr hts hown hlk hnm hml hP hK hD hA hS hl ret
  have hl : lv_has ls 2 [(0, .int (nI c0))] := hl
  have hown : s.vm.findClass RX4 = some m.cls := hown
  have kc19 := hts (.constant RX4 19 (46337)) (by decide +kernel)
  refine lv_iload_n hx hb dX4_leastPrimeFrom_0 rfl (lv_at hl 0 rfl) ?_
  refine lv_istore_n (lv' := [(1, .int (nI c0)), (0, .int (nI c0))]) hx hb dX4_leastPrimeFrom_1 rfl hl (by decide) rfl (fun ls hl => ?_)
  have lp : ∀ (k_lp : Nat) (k : Nat) (H : Heap) (locs : List Loc) (ls : Array Slot), (46337 - k < k_lp) → (k ≤ 46337) → (2 ≤ k) → (pLeast (46337 - c0) c0 = pLeast (46337 - k) k) → va_P D vwCl [] H → va_D A [] → va_S A s.heap H locs → lv_has ls 2 [(1, .int (nI k)), (0, .int (nI c0))] → W p l e { frames := 1, cells := 0, slots := 0, locals := 21 } s m args below meth c H locs 0 0 Q (F0 m 2 ls []) := by
    intro k_lp
    induction k_lp with
    | zero => intro k H locs ls i1 i2 i3 i4 hP hD hS hl; omega
    | succ k_lp ih_lp =>
      intro k H locs ls i1 i2 i3 i4 hP hD hS hl
      refine lv_iload_n hx hb dX4_leastPrimeFrom_2 rfl (lv_at hl 0 rfl) ?_
      refine lv_ldc (v := (nI 46337)) hx hb hown kc19 dX4_leastPrimeFrom_3 ?_
      refine kd_ge (tgt := 23) hx hb dX4_leastPrimeFrom_5 (by decide) (by omega) (by omega) (fun c_5 => ?_) (fun c_5 => ?_)
      · skip
        refine lv_ldc (v := (nI 46337)) hx hb hown kc19 dX4_leastPrimeFrom_23 ?_
        exact ret () _ _ _ _ _ dX4_leastPrimeFrom_25 (by rw [pLeast_end i4 (by omega)]) hS (hP.sub [] rfl) (hD.sub [] (by decide) rfl)
      · skip
        refine lv_iload_n hx hb dX4_leastPrimeFrom_8 rfl (lv_at hl 0 rfl) ?_
        refine kd_SI (As := [.int (nI k)]) (rest := []) (Wr := []) ⟨hx, hb, hml, hown, hts⟩ (c_X4_isPrime l D cI cJ k (by omega) (by omega)) (va_cwS 1 hts gX4_leastPrimeFrom_X4_isPrime rfl rfl rfl (by decide +kernel) ⟨Nat.le_of_ble_eq_true rfl, Nat.le_of_ble_eq_true rfl⟩) hK hP hD hS hA [] [] rfl rfl (by decide) (by decide) rfl rfl hl.1 (Nat.le_of_ble_eq_true rfl) dX4_leastPrimeFrom_9 ⟨Nat.le_of_ble_eq_true rfl, Nat.le_of_ble_eq_true rfl⟩ (fun _ H locs hP hD hS => ?_)
        have hP : va_P D vwCl [] H := hP
        have hD : va_D A [] := hD
        refine kd_eq0 (tgt := 17) hx hb dX4_leastPrimeFrom_12 (by decide) (by have := pB_lt (pPrime k); omega) (fun c_12 => ?_) (fun c_12 => ?_)
        · skip
          refine lv_iinc (v := (nI (k + 1))) (lv' := [(1, .int (nI (k + 1))), (0, .int (nI c0))]) hx hb dX4_leastPrimeFrom_17 hl (k := 0) rfl (nI_1 _) (by decide) rfl (fun ls hl => ?_)
          refine lv_goto (tgt := 2) hx hb dX4_leastPrimeFrom_20 (by decide) ?_
          exact ih_lp (k + 1) _ _ _ (by omega) (by omega) (by omega) (pLeast_no i4 (by omega) (pB_e0 c_12)) (hP.sub [] rfl) (hD.sub [] (by decide) rfl) hS (lv_sub hl [0, 1] rfl)
        · skip
          refine lv_iload_n hx hb dX4_leastPrimeFrom_15 rfl (lv_at hl 0 rfl) ?_
          exact ret () _ _ _ _ _ dX4_leastPrimeFrom_16 (by rw [pLeast_yes i4 (by omega) (pB_e1 c_12)]) hS (hP.sub [] rfl) (hD.sub [] (by decide) rfl)
  exact lp 46337 c0 _ _ _ (by omega) (by omega) (by omega) rfl (hP.sub [] rfl) (hD.sub [] (by decide) rfl) hS (lv_sub hl [0, 1] rfl)

set_option maxHeartbeats 4000000 in
set_option maxRecDepth 100000 in
/-- brought within -/
theorem c_X4_broughtWithin (l : Launch) (D : va_G) (cI cJ : ClassId) (lo hi : Nat) (v0 : Int32) (g1 : lo ≤ hi) (g2 : hi < 2 ^ 31) : kd_MI (S := Unit) l yX4_broughtWithin wsX4_broughtWithin { frames := 1, cells := 0, slots := 0, locals := 40 } [.int v0, .int (nI lo), .int (nI hi)] D vwCl cI cJ [] (fun _ => nI (pCl lo hi v0)) (fun _ => []) 0 0 := by
  refine kd_enterI (cc := cX4_broughtWithin) (maxL := 3) (by decide) rfl (Nat.le_of_ble_eq_true rfl) ?_
  intro p e s m args below meth c A ls Q hx hb hr hts hown hlk hnm hml hP hK hD hA hS hl ret
  have hl : lv_has ls 3 [(0, .int v0), (1, .int (nI lo)), (2, .int (nI hi))] := hl
  have hown : s.vm.findClass RX4 = some m.cls := hown
  refine lv_iload_n hx hb dX4_broughtWithin_0 rfl (lv_at hl 1 rfl) ?_
  refine lv_iload_n hx hb dX4_broughtWithin_1 rfl (lv_at hl 2 rfl) ?_
  refine lv_iload_n hx hb dX4_broughtWithin_2 rfl (lv_at hl 0 rfl) ?_
  refine va_mmin hx hb (hml.trans hl.1.symm) hown (hts (.methodLink RX4 177 Lib.Math.min.name) (by decide +kernel)) (hts (.static Lib.Math.min.name) (by decide +kernel)) (hts (.initialized "java/lang/Math") (by decide +kernel)) (hts (.code Lib.Math.min.name Lib.Math.min.code 2 (some .int)) (by decide +kernel)) (Nat.le_of_ble_eq_true rfl) (Nat.le_of_ble_eq_true rfl) (show _ ≤ 0 from by omega) (show _ ≤ 0 from by omega) dX4_broughtWithin_3 ?_
  refine va_mmax hx hb (hml.trans hl.1.symm) hown (hts (.methodLink RX4 183 Lib.Math.max.name) (by decide +kernel)) (hts (.static Lib.Math.max.name) (by decide +kernel)) (hts (.initialized "java/lang/Math") (by decide +kernel)) (hts (.code Lib.Math.max.name Lib.Math.max.code 2 (some .int)) (by decide +kernel)) (Nat.le_of_ble_eq_true rfl) (Nat.le_of_ble_eq_true rfl) (show _ ≤ 0 from by omega) (show _ ≤ 0 from by omega) dX4_broughtWithin_6 ?_
  exact ret () _ _ _ _ _ dX4_broughtWithin_9 (pCl_eq g1 g2) hS (hP.sub [] rfl) (hD.sub [] (by decide) rfl)

set_option maxHeartbeats 4000000 in
set_option maxRecDepth 100000 in
/-- a modulus -/
theorem c_X2_init (l : Launch) (D : va_G) (cI cJ : ClassId) (h0 P : Nat) (g1 : 2 ≤ P) (g2 : P ≤ 46337) : kd_MV (S := Unit) l yX2_init wsX2_init { frames := 1, cells := 0, slots := 0, locals := 40 } [.ref h0, .int (nI P)] D vwCl cI cJ [(h0, .inr (2, [.int (nI 0)]))] (fun _ => [(h0, .inr (2, [.int (nI P)]))]) 0 0 := by
  refine kd_enterV (cc := cX2_init) (maxL := 2) (by decide) rfl (Nat.le_of_ble_eq_true rfl) ?_
  intro p e s m args below meth c A ls Q hx hb hr hts hown hlk hnm hml hP hK hD hA hS hl ret
  have hl : lv_has ls 2 [(0, .ref h0), (1, .int (nI P))] := hl
  have hown : s.vm.findClass RX2 = some m.cls := hown
  have i_X2 : ∀ w ∈ wsX20, w ∈ wsX2_init := by decide +kernel
  have fl15 := hts (.fieldLink RX2 15 "KrylovDesk$Modulus" "prime" "I") (by decide +kernel)
  refine lv_aload_n hx hb dX2_init_0 rfl (lv_at hl 0 rfl) ?_
  refine W.objInit hx hb hown (hts (.methodLink RX2 3 objectInit) (by decide +kernel)) (hts (.instanceMethod objectInit) (by decide +kernel)) (hts (.code objectInit ⟨#[0xb1]⟩ 1 none) (List.mem_of_getElem? (i := 3) rfl)) rfl (by rw [hml]; exact hl.1) rfl dX2_init_1 (Nat.le_of_ble_eq_true rfl) (Nat.le_of_ble_eq_true rfl) ?_
  refine W.eq (g2 := F0 m 4 ls []) rfl ?_
  refine lv_aload_n hx hb dX2_init_4 rfl (lv_at hl 0 rfl) ?_
  refine lv_iconst (v := (nI 2)) hx hb dX2_init_5 (by decide) ?_
  refine lv_iload_n hx hb dX2_init_6 rfl (lv_at hl 1 rfl) ?_
  refine va_mmax hx hb (hml.trans hl.1.symm) hown (hts (.methodLink RX2 9 Lib.Math.max.name) (by decide +kernel)) (hts (.static Lib.Math.max.name) (by decide +kernel)) (hts (.initialized "java/lang/Math") (by decide +kernel)) (hts (.code Lib.Math.max.name Lib.Math.max.code 2 (some .int)) (by decide +kernel)) (Nat.le_of_ble_eq_true rfl) (Nat.le_of_ble_eq_true rfl) (show _ ≤ 0 from by omega) (show _ ≤ 0 from by omega) dX2_init_7 ?_
  rw [max2 g1 (by omega)]
  refine va_putF (D := D) (ci := 2) (v := .int (nI P)) (ty := .int) (C := RX2) (T := TX2) (N := 1) hx hb hts i_X2 tyX2 tyX2_ok nmX2 hown hK hP hD hS 0 rfl rfl 0 (by decide) fl15 (fun _ h9 => h9) rfl hnm rfl (by decide +kernel) rfl rfl (Nat.le_of_ble_eq_true rfl) dX2_init_10 (fun H locs hP hD hS => ?_)
  have hP : va_P D vwCl [(h0, .inr (2, [.int (nI P)]))] H := hP
  have hD : va_D A [(h0, .inr (2, [.int (nI P)]))] := hD
  exact ret () _ _ _ _ dX2_init_13 hS (hP.sub [0] rfl) (hD.sub [0] (by decide) rfl)

set_option maxHeartbeats 4000000 in
set_option maxRecDepth 100000 in
/-- a matrix -/
theorem c_X1_init (l : Launch) (D : va_G) (cI cJ : ClassId) (h0 aM n room : Nat) (g4 : n ≤ 16) (g5 : room ≤ 100) : kd_MV (S := Nat × Nat × Nat × Nat) l yX1_init wsX1_init { frames := 1, cells := 4, slots := 316, locals := 12 } [.ref h0, .ref aM, .int (nI n), .int (nI room)] D vwCl cI cJ [(h0, .inr (1, [.null, .null, .null, .null, .null, .int (nI 0), .int (nI 0)]))] (fun u => [(h0, .inr (1, [.ref aM, .ref u.1, .ref u.2.1, .ref u.2.2.1, .ref u.2.2.2, .int (nI 0), .int (nI 0)])), (u.1, kd_ar cI room (fun _ => 0)), (u.2.1, kd_ar cI room (fun _ => 0)), (u.2.2.1, kd_ar cI room (fun _ => 0)), (u.2.2.2, kd_ar cI n (fun _ => 0))]) 4 316 := by
  refine kd_enterV (cc := cX1_init) (maxL := 4) (by decide) rfl (Nat.le_of_ble_eq_true rfl) ?_
  intro p e s m args below meth c A ls Q hx hb hr hts hown hlk hnm hml hP hK hD hA hS hl ret
  have hl : lv_has ls 4 [(0, .ref h0), (1, .ref aM), (2, .int (nI n)), (3, .int (nI room))] := hl
  have hown : s.vm.findClass RX1 = some m.cls := hown
  have i_X1 : ∀ w ∈ wsX10, w ∈ wsX1_init := by decide +kernel
  have fl7 := hts (.fieldLink RX1 7 "KrylovDesk$Matrix" "modulus" "LKrylovDesk$Modulus;") (by decide +kernel)
  have fl13 := hts (.fieldLink RX1 13 "KrylovDesk$Matrix" "rows" "[I") (by decide +kernel)
  have fl17 := hts (.fieldLink RX1 17 "KrylovDesk$Matrix" "columns" "[I") (by decide +kernel)
  have fl20 := hts (.fieldLink RX1 20 "KrylovDesk$Matrix" "values" "[I") (by decide +kernel)
  have fl23 := hts (.fieldLink RX1 23 "KrylovDesk$Matrix" "sums" "[I") (by decide +kernel)
  refine lv_aload_n hx hb dX1_init_0 rfl (lv_at hl 0 rfl) ?_
  refine W.objInit hx hb hown (hts (.methodLink RX1 1 objectInit) (by decide +kernel)) (hts (.instanceMethod objectInit) (by decide +kernel)) (hts (.code objectInit ⟨#[0xb1]⟩ 1 none) (List.mem_of_getElem? (i := 3) rfl)) rfl (by rw [hml]; exact hl.1) rfl dX1_init_1 (Nat.le_of_ble_eq_true rfl) (Nat.le_of_ble_eq_true rfl) ?_
  refine W.eq (g2 := F0 m 4 ls []) rfl ?_
  refine lv_aload_n hx hb dX1_init_4 rfl (lv_at hl 0 rfl) ?_
  refine lv_aload_n hx hb dX1_init_5 rfl (lv_at hl 1 rfl) ?_
  refine va_putF (D := D) (ci := 1) (v := .ref aM) (ty := .object "KrylovDesk$Modulus") (C := RX1) (T := TX1) (N := 7) hx hb hts i_X1 tyX1 tyX1_ok nmX1 hown hK hP hD hS 0 rfl rfl 0 (by decide) fl7 (fun _ h9 => h9) rfl hnm rfl (by decide +kernel) rfl rfl (Nat.le_of_ble_eq_true rfl) dX1_init_6 (fun H locs hP hD hS => ?_)
  have hP : va_P D vwCl [(h0, .inr (1, [.ref aM, .null, .null, .null, .null, .int (nI 0), .int (nI 0)]))] H := hP
  have hD : va_D A [(h0, .inr (1, [.ref aM, .null, .null, .null, .null, .int (nI 0), .int (nI 0)]))] := hD
  refine lv_aload_n hx hb dX1_init_9 rfl (lv_at hl 0 rfl) ?_
  refine lv_iload_n hx hb dX1_init_10 rfl (lv_at hl 3 rfl) ?_
  refine kd_newI hx hb (hts (.arrayClass .int) (by decide +kernel)) hK hP hD hS hA (by omega) (show _ ≤ 4 from by omega) (show _ ≤ 316 from by omega) dX1_init_11 (fun aR H hP hD hS => ?_)
  have hP : va_P D vwCl [(h0, .inr (1, [.ref aM, .null, .null, .null, .null, .int (nI 0), .int (nI 0)])), (aR, kd_ar cI room (fun _ => 0))] H := hP
  have hD : va_D A [(h0, .inr (1, [.ref aM, .null, .null, .null, .null, .int (nI 0), .int (nI 0)])), (aR, kd_ar cI room (fun _ => 0))] := hD
  refine va_putF (D := D) (ci := 1) (v := .ref aR) (ty := .array .int) (C := RX1) (T := TX1) (N := 7) hx hb hts i_X1 tyX1 tyX1_ok nmX1 hown hK hP hD hS 0 rfl rfl 1 (by decide) fl13 (fun _ h9 => h9) rfl hnm rfl (by decide +kernel) rfl rfl (Nat.le_of_ble_eq_true rfl) dX1_init_13 (fun H locs hP hD hS => ?_)
  have hP : va_P D vwCl [(h0, .inr (1, [.ref aM, .ref aR, .null, .null, .null, .int (nI 0), .int (nI 0)])), (aR, kd_ar cI room (fun _ => 0))] H := hP
  have hD : va_D A [(h0, .inr (1, [.ref aM, .ref aR, .null, .null, .null, .int (nI 0), .int (nI 0)])), (aR, kd_ar cI room (fun _ => 0))] := hD
  refine lv_aload_n hx hb dX1_init_16 rfl (lv_at hl 0 rfl) ?_
  refine lv_iload_n hx hb dX1_init_17 rfl (lv_at hl 3 rfl) ?_
  refine kd_newI hx hb (hts (.arrayClass .int) (by decide +kernel)) hK hP hD hS hA (by omega) (show _ ≤ 4 from by omega) (show _ ≤ 316 from by omega) dX1_init_18 (fun aC H hP hD hS => ?_)
  have hP : va_P D vwCl [(h0, .inr (1, [.ref aM, .ref aR, .null, .null, .null, .int (nI 0), .int (nI 0)])), (aR, kd_ar cI room (fun _ => 0)), (aC, kd_ar cI room (fun _ => 0))] H := hP
  have hD : va_D A [(h0, .inr (1, [.ref aM, .ref aR, .null, .null, .null, .int (nI 0), .int (nI 0)])), (aR, kd_ar cI room (fun _ => 0)), (aC, kd_ar cI room (fun _ => 0))] := hD
  refine va_putF (D := D) (ci := 1) (v := .ref aC) (ty := .array .int) (C := RX1) (T := TX1) (N := 7) hx hb hts i_X1 tyX1 tyX1_ok nmX1 hown hK hP hD hS 0 rfl rfl 2 (by decide) fl17 (fun _ h9 => h9) rfl hnm rfl (by decide +kernel) rfl rfl (Nat.le_of_ble_eq_true rfl) dX1_init_20 (fun H locs hP hD hS => ?_)
  have hP : va_P D vwCl [(h0, .inr (1, [.ref aM, .ref aR, .ref aC, .null, .null, .int (nI 0), .int (nI 0)])), (aR, kd_ar cI room (fun _ => 0)), (aC, kd_ar cI room (fun _ => 0))] H := hP
  have hD : va_D A [(h0, .inr (1, [.ref aM, .ref aR, .ref aC, .null, .null, .int (nI 0), .int (nI 0)])), (aR, kd_ar cI room (fun _ => 0)), (aC, kd_ar cI room (fun _ => 0))] := hD
  refine lv_aload_n hx hb dX1_init_23 rfl (lv_at hl 0 rfl) ?_
  refine lv_iload_n hx hb dX1_init_24 rfl (lv_at hl 3 rfl) ?_
  refine kd_newI hx hb (hts (.arrayClass .int) (by decide +kernel)) hK hP hD hS hA (by omega) (show _ ≤ 4 from by omega) (show _ ≤ 316 from by omega) dX1_init_25 (fun aV H hP hD hS => ?_)
  have hP : va_P D vwCl [(h0, .inr (1, [.ref aM, .ref aR, .ref aC, .null, .null, .int (nI 0), .int (nI 0)])), (aR, kd_ar cI room (fun _ => 0)), (aC, kd_ar cI room (fun _ => 0)), (aV, kd_ar cI room (fun _ => 0))] H := hP
  have hD : va_D A [(h0, .inr (1, [.ref aM, .ref aR, .ref aC, .null, .null, .int (nI 0), .int (nI 0)])), (aR, kd_ar cI room (fun _ => 0)), (aC, kd_ar cI room (fun _ => 0)), (aV, kd_ar cI room (fun _ => 0))] := hD
  refine va_putF (D := D) (ci := 1) (v := .ref aV) (ty := .array .int) (C := RX1) (T := TX1) (N := 7) hx hb hts i_X1 tyX1 tyX1_ok nmX1 hown hK hP hD hS 0 rfl rfl 3 (by decide) fl20 (fun _ h9 => h9) rfl hnm rfl (by decide +kernel) rfl rfl (Nat.le_of_ble_eq_true rfl) dX1_init_27 (fun H locs hP hD hS => ?_)
  have hP : va_P D vwCl [(h0, .inr (1, [.ref aM, .ref aR, .ref aC, .ref aV, .null, .int (nI 0), .int (nI 0)])), (aR, kd_ar cI room (fun _ => 0)), (aC, kd_ar cI room (fun _ => 0)), (aV, kd_ar cI room (fun _ => 0))] H := hP
  have hD : va_D A [(h0, .inr (1, [.ref aM, .ref aR, .ref aC, .ref aV, .null, .int (nI 0), .int (nI 0)])), (aR, kd_ar cI room (fun _ => 0)), (aC, kd_ar cI room (fun _ => 0)), (aV, kd_ar cI room (fun _ => 0))] := hD
  refine lv_aload_n hx hb dX1_init_30 rfl (lv_at hl 0 rfl) ?_
  refine lv_iload_n hx hb dX1_init_31 rfl (lv_at hl 2 rfl) ?_
  refine kd_newI hx hb (hts (.arrayClass .int) (by decide +kernel)) hK hP hD hS hA (by omega) (show _ ≤ 4 from by omega) (show _ ≤ 316 from by omega) dX1_init_32 (fun aS H hP hD hS => ?_)
  have hP : va_P D vwCl [(h0, .inr (1, [.ref aM, .ref aR, .ref aC, .ref aV, .null, .int (nI 0), .int (nI 0)])), (aR, kd_ar cI room (fun _ => 0)), (aC, kd_ar cI room (fun _ => 0)), (aV, kd_ar cI room (fun _ => 0)), (aS, kd_ar cI n (fun _ => 0))] H := hP
  have hD : va_D A [(h0, .inr (1, [.ref aM, .ref aR, .ref aC, .ref aV, .null, .int (nI 0), .int (nI 0)])), (aR, kd_ar cI room (fun _ => 0)), (aC, kd_ar cI room (fun _ => 0)), (aV, kd_ar cI room (fun _ => 0)), (aS, kd_ar cI n (fun _ => 0))] := hD
  refine va_putF (D := D) (ci := 1) (v := .ref aS) (ty := .array .int) (C := RX1) (T := TX1) (N := 7) hx hb hts i_X1 tyX1 tyX1_ok nmX1 hown hK hP hD hS 0 rfl rfl 4 (by decide) fl23 (fun _ h9 => h9) rfl hnm rfl (by decide +kernel) rfl rfl (Nat.le_of_ble_eq_true rfl) dX1_init_34 (fun H locs hP hD hS => ?_)
  have hP : va_P D vwCl [(h0, .inr (1, [.ref aM, .ref aR, .ref aC, .ref aV, .ref aS, .int (nI 0), .int (nI 0)])), (aR, kd_ar cI room (fun _ => 0)), (aC, kd_ar cI room (fun _ => 0)), (aV, kd_ar cI room (fun _ => 0)), (aS, kd_ar cI n (fun _ => 0))] H := hP
  have hD : va_D A [(h0, .inr (1, [.ref aM, .ref aR, .ref aC, .ref aV, .ref aS, .int (nI 0), .int (nI 0)])), (aR, kd_ar cI room (fun _ => 0)), (aC, kd_ar cI room (fun _ => 0)), (aV, kd_ar cI room (fun _ => 0)), (aS, kd_ar cI n (fun _ => 0))] := hD
  refine W.widen (k := 4) (n := 316) (by omega) (by omega) ?_
  exact ret (aR, aC, aV, aS) _ _ _ _ dX1_init_37 hS (hP.sub [0, 1, 2, 3, 4] rfl) (hD.sub [0, 1, 2, 3, 4] (by decide) rfl)

set_option maxHeartbeats 4000000 in
set_option maxRecDepth 100000 in
/-- a recurrence -/
theorem c_X3_init (l : Launch) (D : va_G) (cI cJ : ClassId) (h0 aM x0 : Nat) (g4 : x0 ≤ 32) : kd_MV (S := Nat × Nat × Nat) l yX3_init wsX3_init { frames := 1, cells := 3, slots := 99, locals := 40 } [.ref h0, .ref aM, .int (nI x0)] D vwCl cI cJ [(h0, .inr (3, [.null, .null, .null, .null, .int (nI 0), .int (nI 0), .int (nI 0)]))] (fun u => [(h0, .inr (3, [.ref aM, .ref u.1, .ref u.2.1, .ref u.2.2, .int (nI 0), .int (nI 0), .int (nI 0)])), (u.1, kd_ar cI (x0 + 1) (fun _ => 0)), (u.2.1, kd_ar cI (x0 + 1) (fun _ => 0)), (u.2.2, kd_ar cI (x0 + 1) (fun _ => 0))]) 3 99 := by
  refine kd_enterV (cc := cX3_init) (maxL := 4) (by decide) rfl (Nat.le_of_ble_eq_true rfl) ?_
  intro p e s m args below meth c A ls Q hx hb hr hts hown hlk hnm hml hP hK hD hA hS hl ret
  have hl : lv_has ls 4 [(0, .ref h0), (1, .ref aM), (2, .int (nI x0))] := hl
  have hown : s.vm.findClass RX3 = some m.cls := hown
  have i_X3 : ∀ w ∈ wsX30, w ∈ wsX3_init := by decide +kernel
  have fl7 := hts (.fieldLink RX3 7 "KrylovDesk$Recurrence" "modulus" "LKrylovDesk$Modulus;") (by decide +kernel)
  have fl19 := hts (.fieldLink RX3 19 "KrylovDesk$Recurrence" "terms" "[I") (by decide +kernel)
  have fl23 := hts (.fieldLink RX3 23 "KrylovDesk$Recurrence" "olderTerms" "[I") (by decide +kernel)
  have fl26 := hts (.fieldLink RX3 26 "KrylovDesk$Recurrence" "keptTerms" "[I") (by decide +kernel)
  refine lv_aload_n hx hb dX3_init_0 rfl (lv_at hl 0 rfl) ?_
  refine W.objInit hx hb hown (hts (.methodLink RX3 1 objectInit) (by decide +kernel)) (hts (.instanceMethod objectInit) (by decide +kernel)) (hts (.code objectInit ⟨#[0xb1]⟩ 1 none) (List.mem_of_getElem? (i := 3) rfl)) rfl (by rw [hml]; exact hl.1) rfl dX3_init_1 (Nat.le_of_ble_eq_true rfl) (Nat.le_of_ble_eq_true rfl) ?_
  refine W.eq (g2 := F0 m 4 ls []) rfl ?_
  refine lv_aload_n hx hb dX3_init_4 rfl (lv_at hl 0 rfl) ?_
  refine lv_aload_n hx hb dX3_init_5 rfl (lv_at hl 1 rfl) ?_
  refine va_putF (D := D) (ci := 3) (v := .ref aM) (ty := .object "KrylovDesk$Modulus") (C := RX3) (T := TX3) (N := 7) hx hb hts i_X3 tyX3 tyX3_ok nmX3 hown hK hP hD hS 0 rfl rfl 0 (by decide) fl7 (fun _ h9 => h9) rfl hnm rfl (by decide +kernel) rfl rfl (Nat.le_of_ble_eq_true rfl) dX3_init_6 (fun H locs hP hD hS => ?_)
  have hP : va_P D vwCl [(h0, .inr (3, [.ref aM, .null, .null, .null, .int (nI 0), .int (nI 0), .int (nI 0)]))] H := hP
  have hD : va_D A [(h0, .inr (3, [.ref aM, .null, .null, .null, .int (nI 0), .int (nI 0), .int (nI 0)]))] := hD
  refine lv_iconst (v := (nI 0)) hx hb dX3_init_9 (by decide) ?_
  refine lv_iload_n hx hb dX3_init_10 rfl (lv_at hl 2 rfl) ?_
  refine va_mmax hx hb (hml.trans hl.1.symm) hown (hts (.methodLink RX3 13 Lib.Math.max.name) (by decide +kernel)) (hts (.static Lib.Math.max.name) (by decide +kernel)) (hts (.initialized "java/lang/Math") (by decide +kernel)) (hts (.code Lib.Math.max.name Lib.Math.max.code 2 (some .int)) (by decide +kernel)) (Nat.le_of_ble_eq_true rfl) (Nat.le_of_ble_eq_true rfl) (show _ ≤ 3 from by omega) (show _ ≤ 99 from by omega) dX3_init_11 ?_
  rw [max0 (by omega)]
  refine lv_iconst (v := (nI 1)) hx hb dX3_init_14 (by decide) ?_
  refine kd_add hx hb dX3_init_15 ?_
  refine lv_istore_n (lv' := [(3, .int (nI (x0 + 1))), (0, .ref h0), (1, .ref aM), (2, .int (nI x0))]) hx hb dX3_init_16 rfl hl (by decide) rfl (fun ls hl => ?_)
  refine lv_aload_n hx hb dX3_init_17 rfl (lv_at hl 1 rfl) ?_
  refine lv_iload_n hx hb dX3_init_18 rfl (lv_at hl 0 rfl) ?_
  refine kd_newI hx hb (hts (.arrayClass .int) (by decide +kernel)) hK hP hD hS hA (by omega) (show _ ≤ 3 from by omega) (show _ ≤ 99 from by omega) dX3_init_19 (fun tC H hP hD hS => ?_)
  have hP : va_P D vwCl [(h0, .inr (3, [.ref aM, .null, .null, .null, .int (nI 0), .int (nI 0), .int (nI 0)])), (tC, kd_ar cI (x0 + 1) (fun _ => 0))] H := hP
  have hD : va_D A [(h0, .inr (3, [.ref aM, .null, .null, .null, .int (nI 0), .int (nI 0), .int (nI 0)])), (tC, kd_ar cI (x0 + 1) (fun _ => 0))] := hD
  refine va_putF (D := D) (ci := 3) (v := .ref tC) (ty := .array .int) (C := RX3) (T := TX3) (N := 7) hx hb hts i_X3 tyX3 tyX3_ok nmX3 hown hK hP hD hS 0 rfl rfl 1 (by decide) fl19 (fun _ h9 => h9) rfl hnm rfl (by decide +kernel) rfl rfl (Nat.le_of_ble_eq_true rfl) dX3_init_21 (fun H locs hP hD hS => ?_)
  have hP : va_P D vwCl [(h0, .inr (3, [.ref aM, .ref tC, .null, .null, .int (nI 0), .int (nI 0), .int (nI 0)])), (tC, kd_ar cI (x0 + 1) (fun _ => 0))] H := hP
  have hD : va_D A [(h0, .inr (3, [.ref aM, .ref tC, .null, .null, .int (nI 0), .int (nI 0), .int (nI 0)])), (tC, kd_ar cI (x0 + 1) (fun _ => 0))] := hD
  refine lv_aload_n hx hb dX3_init_24 rfl (lv_at hl 1 rfl) ?_
  refine lv_iload_n hx hb dX3_init_25 rfl (lv_at hl 0 rfl) ?_
  refine kd_newI hx hb (hts (.arrayClass .int) (by decide +kernel)) hK hP hD hS hA (by omega) (show _ ≤ 3 from by omega) (show _ ≤ 99 from by omega) dX3_init_26 (fun tB H hP hD hS => ?_)
  have hP : va_P D vwCl [(h0, .inr (3, [.ref aM, .ref tC, .null, .null, .int (nI 0), .int (nI 0), .int (nI 0)])), (tC, kd_ar cI (x0 + 1) (fun _ => 0)), (tB, kd_ar cI (x0 + 1) (fun _ => 0))] H := hP
  have hD : va_D A [(h0, .inr (3, [.ref aM, .ref tC, .null, .null, .int (nI 0), .int (nI 0), .int (nI 0)])), (tC, kd_ar cI (x0 + 1) (fun _ => 0)), (tB, kd_ar cI (x0 + 1) (fun _ => 0))] := hD
  refine va_putF (D := D) (ci := 3) (v := .ref tB) (ty := .array .int) (C := RX3) (T := TX3) (N := 7) hx hb hts i_X3 tyX3 tyX3_ok nmX3 hown hK hP hD hS 0 rfl rfl 2 (by decide) fl23 (fun _ h9 => h9) rfl hnm rfl (by decide +kernel) rfl rfl (Nat.le_of_ble_eq_true rfl) dX3_init_28 (fun H locs hP hD hS => ?_)
  have hP : va_P D vwCl [(h0, .inr (3, [.ref aM, .ref tC, .ref tB, .null, .int (nI 0), .int (nI 0), .int (nI 0)])), (tC, kd_ar cI (x0 + 1) (fun _ => 0)), (tB, kd_ar cI (x0 + 1) (fun _ => 0))] H := hP
  have hD : va_D A [(h0, .inr (3, [.ref aM, .ref tC, .ref tB, .null, .int (nI 0), .int (nI 0), .int (nI 0)])), (tC, kd_ar cI (x0 + 1) (fun _ => 0)), (tB, kd_ar cI (x0 + 1) (fun _ => 0))] := hD
  refine lv_aload_n hx hb dX3_init_31 rfl (lv_at hl 1 rfl) ?_
  refine lv_iload_n hx hb dX3_init_32 rfl (lv_at hl 0 rfl) ?_
  refine kd_newI hx hb (hts (.arrayClass .int) (by decide +kernel)) hK hP hD hS hA (by omega) (show _ ≤ 3 from by omega) (show _ ≤ 99 from by omega) dX3_init_33 (fun tT H hP hD hS => ?_)
  have hP : va_P D vwCl [(h0, .inr (3, [.ref aM, .ref tC, .ref tB, .null, .int (nI 0), .int (nI 0), .int (nI 0)])), (tC, kd_ar cI (x0 + 1) (fun _ => 0)), (tB, kd_ar cI (x0 + 1) (fun _ => 0)), (tT, kd_ar cI (x0 + 1) (fun _ => 0))] H := hP
  have hD : va_D A [(h0, .inr (3, [.ref aM, .ref tC, .ref tB, .null, .int (nI 0), .int (nI 0), .int (nI 0)])), (tC, kd_ar cI (x0 + 1) (fun _ => 0)), (tB, kd_ar cI (x0 + 1) (fun _ => 0)), (tT, kd_ar cI (x0 + 1) (fun _ => 0))] := hD
  refine va_putF (D := D) (ci := 3) (v := .ref tT) (ty := .array .int) (C := RX3) (T := TX3) (N := 7) hx hb hts i_X3 tyX3 tyX3_ok nmX3 hown hK hP hD hS 0 rfl rfl 3 (by decide) fl26 (fun _ h9 => h9) rfl hnm rfl (by decide +kernel) rfl rfl (Nat.le_of_ble_eq_true rfl) dX3_init_35 (fun H locs hP hD hS => ?_)
  have hP : va_P D vwCl [(h0, .inr (3, [.ref aM, .ref tC, .ref tB, .ref tT, .int (nI 0), .int (nI 0), .int (nI 0)])), (tC, kd_ar cI (x0 + 1) (fun _ => 0)), (tB, kd_ar cI (x0 + 1) (fun _ => 0)), (tT, kd_ar cI (x0 + 1) (fun _ => 0))] H := hP
  have hD : va_D A [(h0, .inr (3, [.ref aM, .ref tC, .ref tB, .ref tT, .int (nI 0), .int (nI 0), .int (nI 0)])), (tC, kd_ar cI (x0 + 1) (fun _ => 0)), (tB, kd_ar cI (x0 + 1) (fun _ => 0)), (tT, kd_ar cI (x0 + 1) (fun _ => 0))] := hD
  refine W.widen (k := 3) (n := 99) (by omega) (by omega) ?_
  exact ret (tC, tB, tT) _ _ _ _ dX3_init_38 hS (hP.sub [0, 1, 2, 3] rfl) (hD.sub [0, 1, 2, 3] (by decide) rfl)

set_option maxHeartbeats 4000000 in
set_option maxRecDepth 100000 in
/-- a desk -/
theorem c_X4_init (l : Launch) (D : va_G) (cI cJ : ClassId) (h0 : Nat) (p0 n0 e0 : Int32) : kd_MVn (S := Nat × Nat × Nat × Nat × Nat × Nat × Nat × Nat × Nat × Nat × Nat × Nat × Nat × Nat × Nat × Nat) (.methodLinkNest RX4 42 yX0_init RX4) l yX4_init wsX4_init { frames := 2, cells := 16, slots := 527, locals := 63 } [.ref h0, .int p0, .int n0, .int e0] D vwCl cI cJ [(h0, .inr (4, [.null, .null, .null, .null, .int (nI 0), .null, .null, .null, .null, .null, .int (nI 0), .int (nI 0), .int (nI 0)]))] (fun u => [(h0, .inr (4, [.ref u.1, .ref u.2.1, .ref u.2.2.1, .ref u.2.2.2.1, .int (nI (pCl 1 16 n0)), .ref u.2.2.2.2.1, .ref u.2.2.2.2.2.1, .ref u.2.2.2.2.2.2.1, .ref u.2.2.2.2.2.2.2.1, .ref u.2.2.2.2.2.2.2.2.1, .int (nI 0), .int (nI 0), .int (nI 0)])), (u.1, .inr (2, [.int (nI (pPr p0))])), (u.2.2.1, .inr (0, [.int (nI 1)])), (u.2.1, .inr (1, [.ref u.1, .ref u.2.2.2.2.2.2.2.2.2.1, .ref u.2.2.2.2.2.2.2.2.2.2.1, .ref u.2.2.2.2.2.2.2.2.2.2.2.1, .ref u.2.2.2.2.2.2.2.2.2.2.2.2.1, .int (nI 0), .int (nI 0)])), (u.2.2.2.2.2.2.2.2.2.1, kd_ar cI (pCl 1 100 e0) (fun _ => 0)), (u.2.2.2.2.2.2.2.2.2.2.1, kd_ar cI (pCl 1 100 e0) (fun _ => 0)), (u.2.2.2.2.2.2.2.2.2.2.2.1, kd_ar cI (pCl 1 100 e0) (fun _ => 0)), (u.2.2.2.2.2.2.2.2.2.2.2.2.1, kd_ar cI (pCl 1 16 n0) (fun _ => 0)), (u.2.2.2.1, .inr (3, [.ref u.1, .ref u.2.2.2.2.2.2.2.2.2.2.2.2.2.1, .ref u.2.2.2.2.2.2.2.2.2.2.2.2.2.2.1, .ref u.2.2.2.2.2.2.2.2.2.2.2.2.2.2.2, .int (nI 0), .int (nI 0), .int (nI 0)])), (u.2.2.2.2.2.2.2.2.2.2.2.2.2.1, kd_ar cI (2 * (pCl 1 16 n0) + 1) (fun _ => 0)), (u.2.2.2.2.2.2.2.2.2.2.2.2.2.2.1, kd_ar cI (2 * (pCl 1 16 n0) + 1) (fun _ => 0)), (u.2.2.2.2.2.2.2.2.2.2.2.2.2.2.2, kd_ar cI (2 * (pCl 1 16 n0) + 1) (fun _ => 0)), (u.2.2.2.2.1, kd_ar cI (pCl 1 16 n0) (fun _ => 0)), (u.2.2.2.2.2.1, kd_ar cI (pCl 1 16 n0) (fun _ => 0)), (u.2.2.2.2.2.2.1, kd_ar cI (pCl 1 16 n0) (fun _ => 0)), (u.2.2.2.2.2.2.2.1, kd_ar cI (2 * (pCl 1 16 n0)) (fun _ => 0)), (u.2.2.2.2.2.2.2.2.1, kd_ar cI (pCl 1 16 n0) (fun _ => 0))]) 16 527 := by
  refine kd_enterVn (cc := cX4_init) (maxL := 4) (by decide) rfl (Nat.le_of_ble_eq_true rfl) ?_
  intro p e s m args below meth c A ls Q hx hb hr hts hown hlk hnm hml hP hK hD hA hS hl hN ret
  have hl : lv_has ls 4 [(0, .ref h0), (1, .int p0), (2, .int n0), (3, .int e0)] := hl
  have hown : s.vm.findClass RX4 = some m.cls := hown
  have i_X4 : ∀ w ∈ wsX40, w ∈ wsX4_init := by decide +kernel
  have fl13 := hts (.fieldLink RX4 13 "KrylovDesk" "size" "I") (by decide +kernel)
  have i_X2 : ∀ w ∈ wsX20, w ∈ wsX4_init := by decide +kernel
  have kc19 := hts (.constant RX4 19 (46337)) (by decide +kernel)
  have fl27 := hts (.fieldLink RX4 27 "KrylovDesk" "modulus" "LKrylovDesk$Modulus;") (by decide +kernel)
  have i_X1 : ∀ w ∈ wsX10, w ∈ wsX4_init := by decide +kernel
  have fl36 := hts (.fieldLink RX4 36 "KrylovDesk" "matrix" "LKrylovDesk$Matrix;") (by decide +kernel)
  have i_X0 : ∀ w ∈ wsX00, w ∈ wsX4_init := by decide +kernel
  have fl43 := hts (.fieldLink RX4 43 "KrylovDesk" "generator" "LKrylovDesk$Generator;") (by decide +kernel)
  have i_X3 : ∀ w ∈ wsX30, w ∈ wsX4_init := by decide +kernel
  have fl52 := hts (.fieldLink RX4 52 "KrylovDesk" "recurrence" "LKrylovDesk$Recurrence;") (by decide +kernel)
  have fl56 := hts (.fieldLink RX4 56 "KrylovDesk" "right" "[I") (by decide +kernel)
  have fl60 := hts (.fieldLink RX4 60 "KrylovDesk" "chance" "[I") (by decide +kernel)
  have fl63 := hts (.fieldLink RX4 63 "KrylovDesk" "work" "[I") (by decide +kernel)
  have fl66 := hts (.fieldLink RX4 66 "KrylovDesk" "numbers" "[I") (by decide +kernel)
  have fl69 := hts (.fieldLink RX4 69 "KrylovDesk" "answer" "[I") (by decide +kernel)
  obtain ⟨hn1, hn2⟩ := pCl_in (lo := 1) (hi := 16) (by omega) n0
  obtain ⟨hr1, hr2⟩ := pCl_in (lo := 1) (hi := 100) (by omega) e0
  obtain ⟨hp1, hp2⟩ := pCl_in (lo := 2) (hi := 46337) (by omega) p0
  obtain ⟨hq1, hq2⟩ := pPr_in p0
  refine lv_aload_n hx hb dX4_init_0 rfl (lv_at hl 0 rfl) ?_
  refine W.objInit hx hb hown (hts (.methodLink RX4 1 objectInit) (by decide +kernel)) (hts (.instanceMethod objectInit) (by decide +kernel)) (hts (.code objectInit ⟨#[0xb1]⟩ 1 none) (List.mem_of_getElem? (i := 3) rfl)) rfl (by rw [hml]; exact hl.1) rfl dX4_init_1 (Nat.le_of_ble_eq_true rfl) (Nat.le_of_ble_eq_true rfl) ?_
  refine W.eq (g2 := F0 m 4 ls []) rfl ?_
  refine lv_aload_n hx hb dX4_init_4 rfl (lv_at hl 0 rfl) ?_
  refine lv_iload_n hx hb dX4_init_5 rfl (lv_at hl 2 rfl) ?_
  refine lv_iconst (v := (nI 1)) hx hb dX4_init_6 (by decide) ?_
  refine lv_bipush (v := (nI 16)) hx hb dX4_init_7 (by decide) ?_
  refine kd_SI (As := [.int n0, .int (nI 1), .int (nI 16)]) (rest := [.ref h0]) (Wr := [(h0, .inr (4, [.null, .null, .null, .null, .int (nI 0), .null, .null, .null, .null, .null, .int (nI 0), .int (nI 0), .int (nI 0)]))]) ⟨hx, hb, hml, hown, hts⟩ (c_X4_broughtWithin l D cI cJ 1 16 n0 (by omega) (by omega)) (va_cwS 3 hts gX4_init_X4_broughtWithin rfl rfl rfl (by decide +kernel) ⟨Nat.le_of_ble_eq_true rfl, Nat.le_of_ble_eq_true rfl⟩) hK hP hD hS hA [] [0] rfl rfl (by decide) (by decide) rfl rfl hl.1 (Nat.le_of_ble_eq_true rfl) dX4_init_9 ⟨show _ ≤ 16 from by omega, show _ ≤ 527 from by omega⟩ (fun _ H locs hP hD hS => ?_)
  have hP : va_P D vwCl [(h0, .inr (4, [.null, .null, .null, .null, .int (nI 0), .null, .null, .null, .null, .null, .int (nI 0), .int (nI 0), .int (nI 0)]))] H := hP
  have hD : va_D A [(h0, .inr (4, [.null, .null, .null, .null, .int (nI 0), .null, .null, .null, .null, .null, .int (nI 0), .int (nI 0), .int (nI 0)]))] := hD
  refine va_putF (D := D) (ci := 4) (v := .int (nI (pCl 1 16 n0))) (ty := .int) (C := RX4) (T := TX4) (N := 13) hx hb hts i_X4 tyX4 tyX4_ok nmX4 hown hK hP hD hS 0 rfl rfl 4 (by decide) fl13 (fun _ h9 => h9) rfl hnm rfl (by decide +kernel) rfl rfl (Nat.le_of_ble_eq_true rfl) dX4_init_12 (fun H locs hP hD hS => ?_)
  have hP : va_P D vwCl [(h0, .inr (4, [.null, .null, .null, .null, .int (nI (pCl 1 16 n0)), .null, .null, .null, .null, .null, .int (nI 0), .int (nI 0), .int (nI 0)]))] H := hP
  have hD : va_D A [(h0, .inr (4, [.null, .null, .null, .null, .int (nI (pCl 1 16 n0)), .null, .null, .null, .null, .null, .int (nI 0), .int (nI 0), .int (nI 0)]))] := hD
  refine lv_aload_n hx hb dX4_init_15 rfl (lv_at hl 0 rfl) ?_
  refine va_new (ci := 2) (fs := [.int (nI 0)]) (C := RX2) (T := TX2) (N := 1) hx hb hts i_X2 tyX2 tyX2_ok hown (hts (.classLink RX4 17 RX2) (by decide +kernel)) (hts (.instantiable RX2 1) (by decide +kernel)) (hts (.initialized RX2) (by decide +kernel)) hK hP hD hS hA rfl (by decide +kernel) (show _ ≤ 16 from by omega) (show _ ≤ 527 from by omega) dX4_init_16 (fun aM H hP hD hS => ?_)
  have hP : va_P D vwCl [(h0, .inr (4, [.null, .null, .null, .null, .int (nI (pCl 1 16 n0)), .null, .null, .null, .null, .null, .int (nI 0), .int (nI 0), .int (nI 0)])), (aM, .inr (2, [.int (nI 0)]))] H := hP
  have hD : va_D A [(h0, .inr (4, [.null, .null, .null, .null, .int (nI (pCl 1 16 n0)), .null, .null, .null, .null, .null, .int (nI 0), .int (nI 0), .int (nI 0)])), (aM, .inr (2, [.int (nI 0)]))] := hD
  refine lv_dup hx hb dX4_init_19 rfl ?_
  refine lv_iload_n hx hb dX4_init_20 rfl (lv_at hl 1 rfl) ?_
  refine lv_iconst (v := (nI 2)) hx hb dX4_init_21 (by decide) ?_
  refine lv_ldc (v := (nI 46337)) hx hb hown kc19 dX4_init_22 ?_
  refine kd_SI (As := [.int p0, .int (nI 2), .int (nI 46337)]) (rest := [.ref aM, .ref aM, .ref h0]) (Wr := [(h0, .inr (4, [.null, .null, .null, .null, .int (nI (pCl 1 16 n0)), .null, .null, .null, .null, .null, .int (nI 0), .int (nI 0), .int (nI 0)])), (aM, .inr (2, [.int (nI 0)]))]) ⟨hx, hb, hml, hown, hts⟩ (c_X4_broughtWithin l D cI cJ 2 46337 p0 (by omega) (by omega)) (va_cwS 3 hts gX4_init_X4_broughtWithin rfl rfl rfl (by decide +kernel) ⟨Nat.le_of_ble_eq_true rfl, Nat.le_of_ble_eq_true rfl⟩) hK hP hD hS hA [] [0, 1] rfl rfl (by decide) (by decide) rfl rfl hl.1 (Nat.le_of_ble_eq_true rfl) dX4_init_24 ⟨show _ ≤ 16 from by omega, show _ ≤ 527 from by omega⟩ (fun _ H locs hP hD hS => ?_)
  have hP : va_P D vwCl [(h0, .inr (4, [.null, .null, .null, .null, .int (nI (pCl 1 16 n0)), .null, .null, .null, .null, .null, .int (nI 0), .int (nI 0), .int (nI 0)])), (aM, .inr (2, [.int (nI 0)]))] H := hP
  have hD : va_D A [(h0, .inr (4, [.null, .null, .null, .null, .int (nI (pCl 1 16 n0)), .null, .null, .null, .null, .null, .int (nI 0), .int (nI 0), .int (nI 0)])), (aM, .inr (2, [.int (nI 0)]))] := hD
  refine kd_SI (As := [.int (nI (pCl 2 46337 p0))]) (rest := [.ref aM, .ref aM, .ref h0]) (Wr := [(h0, .inr (4, [.null, .null, .null, .null, .int (nI (pCl 1 16 n0)), .null, .null, .null, .null, .null, .int (nI 0), .int (nI 0), .int (nI 0)])), (aM, .inr (2, [.int (nI 0)]))]) ⟨hx, hb, hml, hown, hts⟩ (c_X4_leastPrimeFrom l D cI cJ (pCl 2 46337 p0) hp1 hp2) (va_cwS 1 hts gX4_init_X4_leastPrimeFrom rfl rfl rfl (by decide +kernel) ⟨Nat.le_of_ble_eq_true rfl, Nat.le_of_ble_eq_true rfl⟩) hK hP hD hS hA [] [0, 1] rfl rfl (by decide) (by decide) rfl rfl hl.1 (Nat.le_of_ble_eq_true rfl) dX4_init_27 ⟨show _ ≤ 16 from by omega, show _ ≤ 527 from by omega⟩ (fun _ H locs hP hD hS => ?_)
  have hP : va_P D vwCl [(h0, .inr (4, [.null, .null, .null, .null, .int (nI (pCl 1 16 n0)), .null, .null, .null, .null, .null, .int (nI 0), .int (nI 0), .int (nI 0)])), (aM, .inr (2, [.int (nI 0)]))] H := hP
  have hD : va_D A [(h0, .inr (4, [.null, .null, .null, .null, .int (nI (pCl 1 16 n0)), .null, .null, .null, .null, .null, .int (nI 0), .int (nI 0), .int (nI 0)])), (aM, .inr (2, [.int (nI 0)]))] := hD
  refine kd_IV (As := [.int (nI (pPr p0))]) (rest := [.ref aM, .ref h0]) (Wr := [(h0, .inr (4, [.null, .null, .null, .null, .int (nI (pCl 1 16 n0)), .null, .null, .null, .null, .null, .int (nI 0), .int (nI 0), .int (nI 0)]))]) ⟨hx, hb, hml, hown, hts⟩ (c_X2_init l D cI cJ aM (pPr p0) hq1 hq2) (cwI 1 hts gX4_init_X2_init rfl rfl rfl (hts (.initialized RX2) (by decide +kernel)) (hts (.methodLink RX4 24 yX2_init) (by decide +kernel)) (hts (.instanceMethod yX2_init) (by decide +kernel)) rfl (by decide +kernel) ⟨Nat.le_of_ble_eq_true rfl, Nat.le_of_ble_eq_true rfl⟩) hK hP hD hS hA [1] [0] rfl rfl (by decide) (by decide) rfl rfl hl.1 (Nat.le_of_ble_eq_true rfl) dX4_init_30 ⟨show _ ≤ 16 from by omega, show _ ≤ 527 from by omega⟩ (fun _ H locs hP hD hS => ?_)
  have hP : va_P D vwCl [(h0, .inr (4, [.null, .null, .null, .null, .int (nI (pCl 1 16 n0)), .null, .null, .null, .null, .null, .int (nI 0), .int (nI 0), .int (nI 0)])), (aM, .inr (2, [.int (nI (pPr p0))]))] H := hP
  have hD : va_D A [(h0, .inr (4, [.null, .null, .null, .null, .int (nI (pCl 1 16 n0)), .null, .null, .null, .null, .null, .int (nI 0), .int (nI 0), .int (nI 0)])), (aM, .inr (2, [.int (nI (pPr p0))]))] := hD
  refine va_putF (D := D) (ci := 4) (v := .ref aM) (ty := .object "KrylovDesk$Modulus") (C := RX4) (T := TX4) (N := 13) hx hb hts i_X4 tyX4 tyX4_ok nmX4 hown hK hP hD hS 0 rfl rfl 0 (by decide) fl27 (fun _ h9 => h9) rfl hnm rfl (by decide +kernel) rfl rfl (Nat.le_of_ble_eq_true rfl) dX4_init_33 (fun H locs hP hD hS => ?_)
  have hP : va_P D vwCl [(h0, .inr (4, [.ref aM, .null, .null, .null, .int (nI (pCl 1 16 n0)), .null, .null, .null, .null, .null, .int (nI 0), .int (nI 0), .int (nI 0)])), (aM, .inr (2, [.int (nI (pPr p0))]))] H := hP
  have hD : va_D A [(h0, .inr (4, [.ref aM, .null, .null, .null, .int (nI (pCl 1 16 n0)), .null, .null, .null, .null, .null, .int (nI 0), .int (nI 0), .int (nI 0)])), (aM, .inr (2, [.int (nI (pPr p0))]))] := hD
  refine lv_aload_n hx hb dX4_init_36 rfl (lv_at hl 0 rfl) ?_
  refine va_new (ci := 1) (fs := [.null, .null, .null, .null, .null, .int (nI 0), .int (nI 0)]) (C := RX1) (T := TX1) (N := 7) hx hb hts i_X1 tyX1 tyX1_ok hown (hts (.classLink RX4 31 RX1) (by decide +kernel)) (hts (.instantiable RX1 7) (by decide +kernel)) (hts (.initialized RX1) (by decide +kernel)) hK hP hD hS hA rfl (by decide +kernel) (show _ ≤ 16 from by omega) (show _ ≤ 527 from by omega) dX4_init_37 (fun aK H hP hD hS => ?_)
  have hP : va_P D vwCl [(h0, .inr (4, [.ref aM, .null, .null, .null, .int (nI (pCl 1 16 n0)), .null, .null, .null, .null, .null, .int (nI 0), .int (nI 0), .int (nI 0)])), (aM, .inr (2, [.int (nI (pPr p0))])), (aK, .inr (1, [.null, .null, .null, .null, .null, .int (nI 0), .int (nI 0)]))] H := hP
  have hD : va_D A [(h0, .inr (4, [.ref aM, .null, .null, .null, .int (nI (pCl 1 16 n0)), .null, .null, .null, .null, .null, .int (nI 0), .int (nI 0), .int (nI 0)])), (aM, .inr (2, [.int (nI (pPr p0))])), (aK, .inr (1, [.null, .null, .null, .null, .null, .int (nI 0), .int (nI 0)]))] := hD
  refine lv_dup hx hb dX4_init_40 rfl ?_
  refine lv_aload_n hx hb dX4_init_41 rfl (lv_at hl 0 rfl) ?_
  refine va_get (D := D) (ci := 4) (v := .ref aM) (C := RX4) (T := TX4) (N := 13) hx hb hts i_X4 hown hK hP 0 rfl rfl 0 (by decide) fl27 (fun _ h9 => h9) rfl dX4_init_42 ?_
  refine lv_aload_n hx hb dX4_init_45 rfl (lv_at hl 0 rfl) ?_
  refine va_get (D := D) (ci := 4) (v := .int (nI (pCl 1 16 n0))) (C := RX4) (T := TX4) (N := 13) hx hb hts i_X4 hown hK hP 0 rfl rfl 4 (by decide) fl13 (fun _ h9 => h9) rfl dX4_init_46 ?_
  refine lv_iload_n hx hb dX4_init_49 rfl (lv_at hl 3 rfl) ?_
  refine lv_iconst (v := (nI 1)) hx hb dX4_init_50 (by decide) ?_
  refine lv_bipush (v := (nI 100)) hx hb dX4_init_51 (by decide) ?_
  refine kd_SI (As := [.int e0, .int (nI 1), .int (nI 100)]) (rest := [.int (nI (pCl 1 16 n0)), .ref aM, .ref aK, .ref aK, .ref h0]) (Wr := [(h0, .inr (4, [.ref aM, .null, .null, .null, .int (nI (pCl 1 16 n0)), .null, .null, .null, .null, .null, .int (nI 0), .int (nI 0), .int (nI 0)])), (aM, .inr (2, [.int (nI (pPr p0))])), (aK, .inr (1, [.null, .null, .null, .null, .null, .int (nI 0), .int (nI 0)]))]) ⟨hx, hb, hml, hown, hts⟩ (c_X4_broughtWithin l D cI cJ 1 100 e0 (by omega) (by omega)) (va_cwS 3 hts gX4_init_X4_broughtWithin rfl rfl rfl (by decide +kernel) ⟨Nat.le_of_ble_eq_true rfl, Nat.le_of_ble_eq_true rfl⟩) hK hP hD hS hA [] [0, 1, 2] rfl rfl (by decide) (by decide) rfl rfl hl.1 (Nat.le_of_ble_eq_true rfl) dX4_init_53 ⟨show _ ≤ 16 from by omega, show _ ≤ 527 from by omega⟩ (fun _ H locs hP hD hS => ?_)
  have hP : va_P D vwCl [(h0, .inr (4, [.ref aM, .null, .null, .null, .int (nI (pCl 1 16 n0)), .null, .null, .null, .null, .null, .int (nI 0), .int (nI 0), .int (nI 0)])), (aM, .inr (2, [.int (nI (pPr p0))])), (aK, .inr (1, [.null, .null, .null, .null, .null, .int (nI 0), .int (nI 0)]))] H := hP
  have hD : va_D A [(h0, .inr (4, [.ref aM, .null, .null, .null, .int (nI (pCl 1 16 n0)), .null, .null, .null, .null, .null, .int (nI 0), .int (nI 0), .int (nI 0)])), (aM, .inr (2, [.int (nI (pPr p0))])), (aK, .inr (1, [.null, .null, .null, .null, .null, .int (nI 0), .int (nI 0)]))] := hD
  refine kd_IV (As := [.ref aM, .int (nI (pCl 1 16 n0)), .int (nI (pCl 1 100 e0))]) (rest := [.ref aK, .ref h0]) (Wr := [(h0, .inr (4, [.ref aM, .null, .null, .null, .int (nI (pCl 1 16 n0)), .null, .null, .null, .null, .null, .int (nI 0), .int (nI 0), .int (nI 0)])), (aM, .inr (2, [.int (nI (pPr p0))]))]) ⟨hx, hb, hml, hown, hts⟩ (c_X1_init l D cI cJ aK aM (pCl 1 16 n0) (pCl 1 100 e0) (by omega) (by omega)) (cwI 3 hts gX4_init_X1_init rfl rfl rfl (hts (.initialized RX1) (by decide +kernel)) (hts (.methodLink RX4 33 yX1_init) (by decide +kernel)) (hts (.instanceMethod yX1_init) (by decide +kernel)) rfl (by decide +kernel) ⟨Nat.le_of_ble_eq_true rfl, Nat.le_of_ble_eq_true rfl⟩) hK hP hD hS hA [2] [0, 1] rfl rfl (by decide) (by decide) rfl rfl hl.1 (Nat.le_of_ble_eq_true rfl) dX4_init_56 ⟨show _ ≤ 16 from by omega, show _ ≤ 527 from by omega⟩ (fun ⟨aR, aC, aV, aS⟩ H locs hP hD hS => ?_)
  have hP : va_P D vwCl [(h0, .inr (4, [.ref aM, .null, .null, .null, .int (nI (pCl 1 16 n0)), .null, .null, .null, .null, .null, .int (nI 0), .int (nI 0), .int (nI 0)])), (aM, .inr (2, [.int (nI (pPr p0))])), (aK, .inr (1, [.ref aM, .ref aR, .ref aC, .ref aV, .ref aS, .int (nI 0), .int (nI 0)])), (aR, kd_ar cI (pCl 1 100 e0) (fun _ => 0)), (aC, kd_ar cI (pCl 1 100 e0) (fun _ => 0)), (aV, kd_ar cI (pCl 1 100 e0) (fun _ => 0)), (aS, kd_ar cI (pCl 1 16 n0) (fun _ => 0))] H := hP
  have hD : va_D A [(h0, .inr (4, [.ref aM, .null, .null, .null, .int (nI (pCl 1 16 n0)), .null, .null, .null, .null, .null, .int (nI 0), .int (nI 0), .int (nI 0)])), (aM, .inr (2, [.int (nI (pPr p0))])), (aK, .inr (1, [.ref aM, .ref aR, .ref aC, .ref aV, .ref aS, .int (nI 0), .int (nI 0)])), (aR, kd_ar cI (pCl 1 100 e0) (fun _ => 0)), (aC, kd_ar cI (pCl 1 100 e0) (fun _ => 0)), (aV, kd_ar cI (pCl 1 100 e0) (fun _ => 0)), (aS, kd_ar cI (pCl 1 16 n0) (fun _ => 0))] := hD
  refine va_putF (D := D) (ci := 4) (v := .ref aK) (ty := .object "KrylovDesk$Matrix") (C := RX4) (T := TX4) (N := 13) hx hb hts i_X4 tyX4 tyX4_ok nmX4 hown hK hP hD hS 0 rfl rfl 1 (by decide) fl36 (fun _ h9 => h9) rfl hnm rfl (by decide +kernel) rfl rfl (Nat.le_of_ble_eq_true rfl) dX4_init_59 (fun H locs hP hD hS => ?_)
  have hP : va_P D vwCl [(h0, .inr (4, [.ref aM, .ref aK, .null, .null, .int (nI (pCl 1 16 n0)), .null, .null, .null, .null, .null, .int (nI 0), .int (nI 0), .int (nI 0)])), (aM, .inr (2, [.int (nI (pPr p0))])), (aK, .inr (1, [.ref aM, .ref aR, .ref aC, .ref aV, .ref aS, .int (nI 0), .int (nI 0)])), (aR, kd_ar cI (pCl 1 100 e0) (fun _ => 0)), (aC, kd_ar cI (pCl 1 100 e0) (fun _ => 0)), (aV, kd_ar cI (pCl 1 100 e0) (fun _ => 0)), (aS, kd_ar cI (pCl 1 16 n0) (fun _ => 0))] H := hP
  have hD : va_D A [(h0, .inr (4, [.ref aM, .ref aK, .null, .null, .int (nI (pCl 1 16 n0)), .null, .null, .null, .null, .null, .int (nI 0), .int (nI 0), .int (nI 0)])), (aM, .inr (2, [.int (nI (pPr p0))])), (aK, .inr (1, [.ref aM, .ref aR, .ref aC, .ref aV, .ref aS, .int (nI 0), .int (nI 0)])), (aR, kd_ar cI (pCl 1 100 e0) (fun _ => 0)), (aC, kd_ar cI (pCl 1 100 e0) (fun _ => 0)), (aV, kd_ar cI (pCl 1 100 e0) (fun _ => 0)), (aS, kd_ar cI (pCl 1 16 n0) (fun _ => 0))] := hD
  refine lv_aload_n hx hb dX4_init_62 rfl (lv_at hl 0 rfl) ?_
  refine va_new (ci := 0) (fs := [.int (nI 0)]) (C := RX0) (T := TX0) (N := 1) hx hb hts i_X0 tyX0 tyX0_ok hown (hts (.classLink RX4 40 RX0) (by decide +kernel)) (hts (.instantiable RX0 1) (by decide +kernel)) (hts (.initialized RX0) (by decide +kernel)) hK hP hD hS hA rfl (by decide +kernel) (show _ ≤ 16 from by omega) (show _ ≤ 527 from by omega) dX4_init_63 (fun aG H hP hD hS => ?_)
  have hP : va_P D vwCl [(h0, .inr (4, [.ref aM, .ref aK, .null, .null, .int (nI (pCl 1 16 n0)), .null, .null, .null, .null, .null, .int (nI 0), .int (nI 0), .int (nI 0)])), (aM, .inr (2, [.int (nI (pPr p0))])), (aK, .inr (1, [.ref aM, .ref aR, .ref aC, .ref aV, .ref aS, .int (nI 0), .int (nI 0)])), (aR, kd_ar cI (pCl 1 100 e0) (fun _ => 0)), (aC, kd_ar cI (pCl 1 100 e0) (fun _ => 0)), (aV, kd_ar cI (pCl 1 100 e0) (fun _ => 0)), (aS, kd_ar cI (pCl 1 16 n0) (fun _ => 0)), (aG, .inr (0, [.int (nI 0)]))] H := hP
  have hD : va_D A [(h0, .inr (4, [.ref aM, .ref aK, .null, .null, .int (nI (pCl 1 16 n0)), .null, .null, .null, .null, .null, .int (nI 0), .int (nI 0), .int (nI 0)])), (aM, .inr (2, [.int (nI (pPr p0))])), (aK, .inr (1, [.ref aM, .ref aR, .ref aC, .ref aV, .ref aS, .int (nI 0), .int (nI 0)])), (aR, kd_ar cI (pCl 1 100 e0) (fun _ => 0)), (aC, kd_ar cI (pCl 1 100 e0) (fun _ => 0)), (aV, kd_ar cI (pCl 1 100 e0) (fun _ => 0)), (aS, kd_ar cI (pCl 1 16 n0) (fun _ => 0)), (aG, .inr (0, [.int (nI 0)]))] := hD
  refine lv_dup hx hb dX4_init_66 rfl ?_
  refine kd_NV (As := []) (rest := [.ref aG, .ref h0]) (Wr := [(h0, .inr (4, [.ref aM, .ref aK, .null, .null, .int (nI (pCl 1 16 n0)), .null, .null, .null, .null, .null, .int (nI 0), .int (nI 0), .int (nI 0)])), (aM, .inr (2, [.int (nI (pPr p0))])), (aK, .inr (1, [.ref aM, .ref aR, .ref aC, .ref aV, .ref aS, .int (nI 0), .int (nI 0)])), (aR, kd_ar cI (pCl 1 100 e0) (fun _ => 0)), (aC, kd_ar cI (pCl 1 100 e0) (fun _ => 0)), (aV, kd_ar cI (pCl 1 100 e0) (fun _ => 0)), (aS, kd_ar cI (pCl 1 16 n0) (fun _ => 0))]) ⟨hx, hb, hml, hown, hts⟩ (c_X0_init l D cI cJ aG 0) ⟨va_cnB 0 hts gX4_init_X0_init_n42 rfl rfl rfl hN (hts (.initialized RX0) (by decide +kernel)) (by decide +kernel) ⟨Nat.le_of_ble_eq_true rfl, Nat.le_of_ble_eq_true rfl⟩, rfl, hts (.instanceMethod yX0_init) (by decide +kernel)⟩ hK hP hD hS hA [7] [0, 1, 2, 3, 4, 5, 6] rfl rfl (by decide) (by decide) rfl rfl hl.1 (Nat.le_of_ble_eq_true rfl) dX4_init_67 ⟨show _ ≤ 16 from by omega, show _ ≤ 527 from by omega⟩ (fun _ H locs hP hD hS => ?_)
  have hP : va_P D vwCl [(h0, .inr (4, [.ref aM, .ref aK, .null, .null, .int (nI (pCl 1 16 n0)), .null, .null, .null, .null, .null, .int (nI 0), .int (nI 0), .int (nI 0)])), (aM, .inr (2, [.int (nI (pPr p0))])), (aK, .inr (1, [.ref aM, .ref aR, .ref aC, .ref aV, .ref aS, .int (nI 0), .int (nI 0)])), (aR, kd_ar cI (pCl 1 100 e0) (fun _ => 0)), (aC, kd_ar cI (pCl 1 100 e0) (fun _ => 0)), (aV, kd_ar cI (pCl 1 100 e0) (fun _ => 0)), (aS, kd_ar cI (pCl 1 16 n0) (fun _ => 0)), (aG, .inr (0, [.int (nI 1)]))] H := hP
  have hD : va_D A [(h0, .inr (4, [.ref aM, .ref aK, .null, .null, .int (nI (pCl 1 16 n0)), .null, .null, .null, .null, .null, .int (nI 0), .int (nI 0), .int (nI 0)])), (aM, .inr (2, [.int (nI (pPr p0))])), (aK, .inr (1, [.ref aM, .ref aR, .ref aC, .ref aV, .ref aS, .int (nI 0), .int (nI 0)])), (aR, kd_ar cI (pCl 1 100 e0) (fun _ => 0)), (aC, kd_ar cI (pCl 1 100 e0) (fun _ => 0)), (aV, kd_ar cI (pCl 1 100 e0) (fun _ => 0)), (aS, kd_ar cI (pCl 1 16 n0) (fun _ => 0)), (aG, .inr (0, [.int (nI 1)]))] := hD
  refine va_putF (D := D) (ci := 4) (v := .ref aG) (ty := .object "KrylovDesk$Generator") (C := RX4) (T := TX4) (N := 13) hx hb hts i_X4 tyX4 tyX4_ok nmX4 hown hK hP hD hS 0 rfl rfl 2 (by decide) fl43 (fun _ h9 => h9) rfl hnm rfl (by decide +kernel) rfl rfl (Nat.le_of_ble_eq_true rfl) dX4_init_70 (fun H locs hP hD hS => ?_)
  have hP : va_P D vwCl [(h0, .inr (4, [.ref aM, .ref aK, .ref aG, .null, .int (nI (pCl 1 16 n0)), .null, .null, .null, .null, .null, .int (nI 0), .int (nI 0), .int (nI 0)])), (aM, .inr (2, [.int (nI (pPr p0))])), (aK, .inr (1, [.ref aM, .ref aR, .ref aC, .ref aV, .ref aS, .int (nI 0), .int (nI 0)])), (aR, kd_ar cI (pCl 1 100 e0) (fun _ => 0)), (aC, kd_ar cI (pCl 1 100 e0) (fun _ => 0)), (aV, kd_ar cI (pCl 1 100 e0) (fun _ => 0)), (aS, kd_ar cI (pCl 1 16 n0) (fun _ => 0)), (aG, .inr (0, [.int (nI 1)]))] H := hP
  have hD : va_D A [(h0, .inr (4, [.ref aM, .ref aK, .ref aG, .null, .int (nI (pCl 1 16 n0)), .null, .null, .null, .null, .null, .int (nI 0), .int (nI 0), .int (nI 0)])), (aM, .inr (2, [.int (nI (pPr p0))])), (aK, .inr (1, [.ref aM, .ref aR, .ref aC, .ref aV, .ref aS, .int (nI 0), .int (nI 0)])), (aR, kd_ar cI (pCl 1 100 e0) (fun _ => 0)), (aC, kd_ar cI (pCl 1 100 e0) (fun _ => 0)), (aV, kd_ar cI (pCl 1 100 e0) (fun _ => 0)), (aS, kd_ar cI (pCl 1 16 n0) (fun _ => 0)), (aG, .inr (0, [.int (nI 1)]))] := hD
  refine lv_aload_n hx hb dX4_init_73 rfl (lv_at hl 0 rfl) ?_
  refine va_new (ci := 3) (fs := [.null, .null, .null, .null, .int (nI 0), .int (nI 0), .int (nI 0)]) (C := RX3) (T := TX3) (N := 7) hx hb hts i_X3 tyX3 tyX3_ok hown (hts (.classLink RX4 47 RX3) (by decide +kernel)) (hts (.instantiable RX3 7) (by decide +kernel)) (hts (.initialized RX3) (by decide +kernel)) hK hP hD hS hA rfl (by decide +kernel) (show _ ≤ 16 from by omega) (show _ ≤ 527 from by omega) dX4_init_74 (fun aE H hP hD hS => ?_)
  have hP : va_P D vwCl [(h0, .inr (4, [.ref aM, .ref aK, .ref aG, .null, .int (nI (pCl 1 16 n0)), .null, .null, .null, .null, .null, .int (nI 0), .int (nI 0), .int (nI 0)])), (aM, .inr (2, [.int (nI (pPr p0))])), (aK, .inr (1, [.ref aM, .ref aR, .ref aC, .ref aV, .ref aS, .int (nI 0), .int (nI 0)])), (aR, kd_ar cI (pCl 1 100 e0) (fun _ => 0)), (aC, kd_ar cI (pCl 1 100 e0) (fun _ => 0)), (aV, kd_ar cI (pCl 1 100 e0) (fun _ => 0)), (aS, kd_ar cI (pCl 1 16 n0) (fun _ => 0)), (aG, .inr (0, [.int (nI 1)])), (aE, .inr (3, [.null, .null, .null, .null, .int (nI 0), .int (nI 0), .int (nI 0)]))] H := hP
  have hD : va_D A [(h0, .inr (4, [.ref aM, .ref aK, .ref aG, .null, .int (nI (pCl 1 16 n0)), .null, .null, .null, .null, .null, .int (nI 0), .int (nI 0), .int (nI 0)])), (aM, .inr (2, [.int (nI (pPr p0))])), (aK, .inr (1, [.ref aM, .ref aR, .ref aC, .ref aV, .ref aS, .int (nI 0), .int (nI 0)])), (aR, kd_ar cI (pCl 1 100 e0) (fun _ => 0)), (aC, kd_ar cI (pCl 1 100 e0) (fun _ => 0)), (aV, kd_ar cI (pCl 1 100 e0) (fun _ => 0)), (aS, kd_ar cI (pCl 1 16 n0) (fun _ => 0)), (aG, .inr (0, [.int (nI 1)])), (aE, .inr (3, [.null, .null, .null, .null, .int (nI 0), .int (nI 0), .int (nI 0)]))] := hD
  refine lv_dup hx hb dX4_init_77 rfl ?_
  refine lv_aload_n hx hb dX4_init_78 rfl (lv_at hl 0 rfl) ?_
  refine va_get (D := D) (ci := 4) (v := .ref aM) (C := RX4) (T := TX4) (N := 13) hx hb hts i_X4 hown hK hP 0 rfl rfl 0 (by decide) fl27 (fun _ h9 => h9) rfl dX4_init_79 ?_
  refine lv_iconst (v := (nI 2)) hx hb dX4_init_82 (by decide) ?_
  refine lv_aload_n hx hb dX4_init_83 rfl (lv_at hl 0 rfl) ?_
  refine va_get (D := D) (ci := 4) (v := .int (nI (pCl 1 16 n0))) (C := RX4) (T := TX4) (N := 13) hx hb hts i_X4 hown hK hP 0 rfl rfl 4 (by decide) fl13 (fun _ h9 => h9) rfl dX4_init_84 ?_
  refine kd_mul hx hb dX4_init_87 ?_
  refine kd_IV (As := [.ref aM, .int (nI (2 * (pCl 1 16 n0)))]) (rest := [.ref aE, .ref h0]) (Wr := [(h0, .inr (4, [.ref aM, .ref aK, .ref aG, .null, .int (nI (pCl 1 16 n0)), .null, .null, .null, .null, .null, .int (nI 0), .int (nI 0), .int (nI 0)])), (aM, .inr (2, [.int (nI (pPr p0))])), (aK, .inr (1, [.ref aM, .ref aR, .ref aC, .ref aV, .ref aS, .int (nI 0), .int (nI 0)])), (aR, kd_ar cI (pCl 1 100 e0) (fun _ => 0)), (aC, kd_ar cI (pCl 1 100 e0) (fun _ => 0)), (aV, kd_ar cI (pCl 1 100 e0) (fun _ => 0)), (aS, kd_ar cI (pCl 1 16 n0) (fun _ => 0)), (aG, .inr (0, [.int (nI 1)]))]) ⟨hx, hb, hml, hown, hts⟩ (c_X3_init l D cI cJ aE aM (2 * (pCl 1 16 n0)) (by omega)) (cwI 2 hts gX4_init_X3_init rfl rfl rfl (hts (.initialized RX3) (by decide +kernel)) (hts (.methodLink RX4 49 yX3_init) (by decide +kernel)) (hts (.instanceMethod yX3_init) (by decide +kernel)) rfl (by decide +kernel) ⟨Nat.le_of_ble_eq_true rfl, Nat.le_of_ble_eq_true rfl⟩) hK hP hD hS hA [8] [0, 1, 2, 3, 4, 5, 6, 7] rfl rfl (by decide) (by decide) rfl rfl hl.1 (Nat.le_of_ble_eq_true rfl) dX4_init_88 ⟨show _ ≤ 16 from by omega, show _ ≤ 527 from by omega⟩ (fun ⟨tC, tB, tT⟩ H locs hP hD hS => ?_)
  have hP : va_P D vwCl [(h0, .inr (4, [.ref aM, .ref aK, .ref aG, .null, .int (nI (pCl 1 16 n0)), .null, .null, .null, .null, .null, .int (nI 0), .int (nI 0), .int (nI 0)])), (aM, .inr (2, [.int (nI (pPr p0))])), (aK, .inr (1, [.ref aM, .ref aR, .ref aC, .ref aV, .ref aS, .int (nI 0), .int (nI 0)])), (aR, kd_ar cI (pCl 1 100 e0) (fun _ => 0)), (aC, kd_ar cI (pCl 1 100 e0) (fun _ => 0)), (aV, kd_ar cI (pCl 1 100 e0) (fun _ => 0)), (aS, kd_ar cI (pCl 1 16 n0) (fun _ => 0)), (aG, .inr (0, [.int (nI 1)])), (aE, .inr (3, [.ref aM, .ref tC, .ref tB, .ref tT, .int (nI 0), .int (nI 0), .int (nI 0)])), (tC, kd_ar cI (2 * (pCl 1 16 n0) + 1) (fun _ => 0)), (tB, kd_ar cI (2 * (pCl 1 16 n0) + 1) (fun _ => 0)), (tT, kd_ar cI (2 * (pCl 1 16 n0) + 1) (fun _ => 0))] H := hP
  have hD : va_D A [(h0, .inr (4, [.ref aM, .ref aK, .ref aG, .null, .int (nI (pCl 1 16 n0)), .null, .null, .null, .null, .null, .int (nI 0), .int (nI 0), .int (nI 0)])), (aM, .inr (2, [.int (nI (pPr p0))])), (aK, .inr (1, [.ref aM, .ref aR, .ref aC, .ref aV, .ref aS, .int (nI 0), .int (nI 0)])), (aR, kd_ar cI (pCl 1 100 e0) (fun _ => 0)), (aC, kd_ar cI (pCl 1 100 e0) (fun _ => 0)), (aV, kd_ar cI (pCl 1 100 e0) (fun _ => 0)), (aS, kd_ar cI (pCl 1 16 n0) (fun _ => 0)), (aG, .inr (0, [.int (nI 1)])), (aE, .inr (3, [.ref aM, .ref tC, .ref tB, .ref tT, .int (nI 0), .int (nI 0), .int (nI 0)])), (tC, kd_ar cI (2 * (pCl 1 16 n0) + 1) (fun _ => 0)), (tB, kd_ar cI (2 * (pCl 1 16 n0) + 1) (fun _ => 0)), (tT, kd_ar cI (2 * (pCl 1 16 n0) + 1) (fun _ => 0))] := hD
  refine va_putF (D := D) (ci := 4) (v := .ref aE) (ty := .object "KrylovDesk$Recurrence") (C := RX4) (T := TX4) (N := 13) hx hb hts i_X4 tyX4 tyX4_ok nmX4 hown hK hP hD hS 0 rfl rfl 3 (by decide) fl52 (fun _ h9 => h9) rfl hnm rfl (by decide +kernel) rfl rfl (Nat.le_of_ble_eq_true rfl) dX4_init_91 (fun H locs hP hD hS => ?_)
  have hP : va_P D vwCl [(h0, .inr (4, [.ref aM, .ref aK, .ref aG, .ref aE, .int (nI (pCl 1 16 n0)), .null, .null, .null, .null, .null, .int (nI 0), .int (nI 0), .int (nI 0)])), (aM, .inr (2, [.int (nI (pPr p0))])), (aK, .inr (1, [.ref aM, .ref aR, .ref aC, .ref aV, .ref aS, .int (nI 0), .int (nI 0)])), (aR, kd_ar cI (pCl 1 100 e0) (fun _ => 0)), (aC, kd_ar cI (pCl 1 100 e0) (fun _ => 0)), (aV, kd_ar cI (pCl 1 100 e0) (fun _ => 0)), (aS, kd_ar cI (pCl 1 16 n0) (fun _ => 0)), (aG, .inr (0, [.int (nI 1)])), (aE, .inr (3, [.ref aM, .ref tC, .ref tB, .ref tT, .int (nI 0), .int (nI 0), .int (nI 0)])), (tC, kd_ar cI (2 * (pCl 1 16 n0) + 1) (fun _ => 0)), (tB, kd_ar cI (2 * (pCl 1 16 n0) + 1) (fun _ => 0)), (tT, kd_ar cI (2 * (pCl 1 16 n0) + 1) (fun _ => 0))] H := hP
  have hD : va_D A [(h0, .inr (4, [.ref aM, .ref aK, .ref aG, .ref aE, .int (nI (pCl 1 16 n0)), .null, .null, .null, .null, .null, .int (nI 0), .int (nI 0), .int (nI 0)])), (aM, .inr (2, [.int (nI (pPr p0))])), (aK, .inr (1, [.ref aM, .ref aR, .ref aC, .ref aV, .ref aS, .int (nI 0), .int (nI 0)])), (aR, kd_ar cI (pCl 1 100 e0) (fun _ => 0)), (aC, kd_ar cI (pCl 1 100 e0) (fun _ => 0)), (aV, kd_ar cI (pCl 1 100 e0) (fun _ => 0)), (aS, kd_ar cI (pCl 1 16 n0) (fun _ => 0)), (aG, .inr (0, [.int (nI 1)])), (aE, .inr (3, [.ref aM, .ref tC, .ref tB, .ref tT, .int (nI 0), .int (nI 0), .int (nI 0)])), (tC, kd_ar cI (2 * (pCl 1 16 n0) + 1) (fun _ => 0)), (tB, kd_ar cI (2 * (pCl 1 16 n0) + 1) (fun _ => 0)), (tT, kd_ar cI (2 * (pCl 1 16 n0) + 1) (fun _ => 0))] := hD
  refine lv_aload_n hx hb dX4_init_94 rfl (lv_at hl 0 rfl) ?_
  refine lv_aload_n hx hb dX4_init_95 rfl (lv_at hl 0 rfl) ?_
  refine va_get (D := D) (ci := 4) (v := .int (nI (pCl 1 16 n0))) (C := RX4) (T := TX4) (N := 13) hx hb hts i_X4 hown hK hP 0 rfl rfl 4 (by decide) fl13 (fun _ h9 => h9) rfl dX4_init_96 ?_
  refine kd_newI hx hb (hts (.arrayClass .int) (by decide +kernel)) hK hP hD hS hA (by omega) (show _ ≤ 16 from by omega) (show _ ≤ 527 from by omega) dX4_init_99 (fun aRi H hP hD hS => ?_)
  have hP : va_P D vwCl [(h0, .inr (4, [.ref aM, .ref aK, .ref aG, .ref aE, .int (nI (pCl 1 16 n0)), .null, .null, .null, .null, .null, .int (nI 0), .int (nI 0), .int (nI 0)])), (aM, .inr (2, [.int (nI (pPr p0))])), (aK, .inr (1, [.ref aM, .ref aR, .ref aC, .ref aV, .ref aS, .int (nI 0), .int (nI 0)])), (aR, kd_ar cI (pCl 1 100 e0) (fun _ => 0)), (aC, kd_ar cI (pCl 1 100 e0) (fun _ => 0)), (aV, kd_ar cI (pCl 1 100 e0) (fun _ => 0)), (aS, kd_ar cI (pCl 1 16 n0) (fun _ => 0)), (aG, .inr (0, [.int (nI 1)])), (aE, .inr (3, [.ref aM, .ref tC, .ref tB, .ref tT, .int (nI 0), .int (nI 0), .int (nI 0)])), (tC, kd_ar cI (2 * (pCl 1 16 n0) + 1) (fun _ => 0)), (tB, kd_ar cI (2 * (pCl 1 16 n0) + 1) (fun _ => 0)), (tT, kd_ar cI (2 * (pCl 1 16 n0) + 1) (fun _ => 0)), (aRi, kd_ar cI (pCl 1 16 n0) (fun _ => 0))] H := hP
  have hD : va_D A [(h0, .inr (4, [.ref aM, .ref aK, .ref aG, .ref aE, .int (nI (pCl 1 16 n0)), .null, .null, .null, .null, .null, .int (nI 0), .int (nI 0), .int (nI 0)])), (aM, .inr (2, [.int (nI (pPr p0))])), (aK, .inr (1, [.ref aM, .ref aR, .ref aC, .ref aV, .ref aS, .int (nI 0), .int (nI 0)])), (aR, kd_ar cI (pCl 1 100 e0) (fun _ => 0)), (aC, kd_ar cI (pCl 1 100 e0) (fun _ => 0)), (aV, kd_ar cI (pCl 1 100 e0) (fun _ => 0)), (aS, kd_ar cI (pCl 1 16 n0) (fun _ => 0)), (aG, .inr (0, [.int (nI 1)])), (aE, .inr (3, [.ref aM, .ref tC, .ref tB, .ref tT, .int (nI 0), .int (nI 0), .int (nI 0)])), (tC, kd_ar cI (2 * (pCl 1 16 n0) + 1) (fun _ => 0)), (tB, kd_ar cI (2 * (pCl 1 16 n0) + 1) (fun _ => 0)), (tT, kd_ar cI (2 * (pCl 1 16 n0) + 1) (fun _ => 0)), (aRi, kd_ar cI (pCl 1 16 n0) (fun _ => 0))] := hD
  refine va_putF (D := D) (ci := 4) (v := .ref aRi) (ty := .array .int) (C := RX4) (T := TX4) (N := 13) hx hb hts i_X4 tyX4 tyX4_ok nmX4 hown hK hP hD hS 0 rfl rfl 5 (by decide) fl56 (fun _ h9 => h9) rfl hnm rfl (by decide +kernel) rfl rfl (Nat.le_of_ble_eq_true rfl) dX4_init_101 (fun H locs hP hD hS => ?_)
  have hP : va_P D vwCl [(h0, .inr (4, [.ref aM, .ref aK, .ref aG, .ref aE, .int (nI (pCl 1 16 n0)), .ref aRi, .null, .null, .null, .null, .int (nI 0), .int (nI 0), .int (nI 0)])), (aM, .inr (2, [.int (nI (pPr p0))])), (aK, .inr (1, [.ref aM, .ref aR, .ref aC, .ref aV, .ref aS, .int (nI 0), .int (nI 0)])), (aR, kd_ar cI (pCl 1 100 e0) (fun _ => 0)), (aC, kd_ar cI (pCl 1 100 e0) (fun _ => 0)), (aV, kd_ar cI (pCl 1 100 e0) (fun _ => 0)), (aS, kd_ar cI (pCl 1 16 n0) (fun _ => 0)), (aG, .inr (0, [.int (nI 1)])), (aE, .inr (3, [.ref aM, .ref tC, .ref tB, .ref tT, .int (nI 0), .int (nI 0), .int (nI 0)])), (tC, kd_ar cI (2 * (pCl 1 16 n0) + 1) (fun _ => 0)), (tB, kd_ar cI (2 * (pCl 1 16 n0) + 1) (fun _ => 0)), (tT, kd_ar cI (2 * (pCl 1 16 n0) + 1) (fun _ => 0)), (aRi, kd_ar cI (pCl 1 16 n0) (fun _ => 0))] H := hP
  have hD : va_D A [(h0, .inr (4, [.ref aM, .ref aK, .ref aG, .ref aE, .int (nI (pCl 1 16 n0)), .ref aRi, .null, .null, .null, .null, .int (nI 0), .int (nI 0), .int (nI 0)])), (aM, .inr (2, [.int (nI (pPr p0))])), (aK, .inr (1, [.ref aM, .ref aR, .ref aC, .ref aV, .ref aS, .int (nI 0), .int (nI 0)])), (aR, kd_ar cI (pCl 1 100 e0) (fun _ => 0)), (aC, kd_ar cI (pCl 1 100 e0) (fun _ => 0)), (aV, kd_ar cI (pCl 1 100 e0) (fun _ => 0)), (aS, kd_ar cI (pCl 1 16 n0) (fun _ => 0)), (aG, .inr (0, [.int (nI 1)])), (aE, .inr (3, [.ref aM, .ref tC, .ref tB, .ref tT, .int (nI 0), .int (nI 0), .int (nI 0)])), (tC, kd_ar cI (2 * (pCl 1 16 n0) + 1) (fun _ => 0)), (tB, kd_ar cI (2 * (pCl 1 16 n0) + 1) (fun _ => 0)), (tT, kd_ar cI (2 * (pCl 1 16 n0) + 1) (fun _ => 0)), (aRi, kd_ar cI (pCl 1 16 n0) (fun _ => 0))] := hD
  refine lv_aload_n hx hb dX4_init_104 rfl (lv_at hl 0 rfl) ?_
  refine lv_aload_n hx hb dX4_init_105 rfl (lv_at hl 0 rfl) ?_
  refine va_get (D := D) (ci := 4) (v := .int (nI (pCl 1 16 n0))) (C := RX4) (T := TX4) (N := 13) hx hb hts i_X4 hown hK hP 0 rfl rfl 4 (by decide) fl13 (fun _ h9 => h9) rfl dX4_init_106 ?_
  refine kd_newI hx hb (hts (.arrayClass .int) (by decide +kernel)) hK hP hD hS hA (by omega) (show _ ≤ 16 from by omega) (show _ ≤ 527 from by omega) dX4_init_109 (fun aCh H hP hD hS => ?_)
  have hP : va_P D vwCl [(h0, .inr (4, [.ref aM, .ref aK, .ref aG, .ref aE, .int (nI (pCl 1 16 n0)), .ref aRi, .null, .null, .null, .null, .int (nI 0), .int (nI 0), .int (nI 0)])), (aM, .inr (2, [.int (nI (pPr p0))])), (aK, .inr (1, [.ref aM, .ref aR, .ref aC, .ref aV, .ref aS, .int (nI 0), .int (nI 0)])), (aR, kd_ar cI (pCl 1 100 e0) (fun _ => 0)), (aC, kd_ar cI (pCl 1 100 e0) (fun _ => 0)), (aV, kd_ar cI (pCl 1 100 e0) (fun _ => 0)), (aS, kd_ar cI (pCl 1 16 n0) (fun _ => 0)), (aG, .inr (0, [.int (nI 1)])), (aE, .inr (3, [.ref aM, .ref tC, .ref tB, .ref tT, .int (nI 0), .int (nI 0), .int (nI 0)])), (tC, kd_ar cI (2 * (pCl 1 16 n0) + 1) (fun _ => 0)), (tB, kd_ar cI (2 * (pCl 1 16 n0) + 1) (fun _ => 0)), (tT, kd_ar cI (2 * (pCl 1 16 n0) + 1) (fun _ => 0)), (aRi, kd_ar cI (pCl 1 16 n0) (fun _ => 0)), (aCh, kd_ar cI (pCl 1 16 n0) (fun _ => 0))] H := hP
  have hD : va_D A [(h0, .inr (4, [.ref aM, .ref aK, .ref aG, .ref aE, .int (nI (pCl 1 16 n0)), .ref aRi, .null, .null, .null, .null, .int (nI 0), .int (nI 0), .int (nI 0)])), (aM, .inr (2, [.int (nI (pPr p0))])), (aK, .inr (1, [.ref aM, .ref aR, .ref aC, .ref aV, .ref aS, .int (nI 0), .int (nI 0)])), (aR, kd_ar cI (pCl 1 100 e0) (fun _ => 0)), (aC, kd_ar cI (pCl 1 100 e0) (fun _ => 0)), (aV, kd_ar cI (pCl 1 100 e0) (fun _ => 0)), (aS, kd_ar cI (pCl 1 16 n0) (fun _ => 0)), (aG, .inr (0, [.int (nI 1)])), (aE, .inr (3, [.ref aM, .ref tC, .ref tB, .ref tT, .int (nI 0), .int (nI 0), .int (nI 0)])), (tC, kd_ar cI (2 * (pCl 1 16 n0) + 1) (fun _ => 0)), (tB, kd_ar cI (2 * (pCl 1 16 n0) + 1) (fun _ => 0)), (tT, kd_ar cI (2 * (pCl 1 16 n0) + 1) (fun _ => 0)), (aRi, kd_ar cI (pCl 1 16 n0) (fun _ => 0)), (aCh, kd_ar cI (pCl 1 16 n0) (fun _ => 0))] := hD
  refine va_putF (D := D) (ci := 4) (v := .ref aCh) (ty := .array .int) (C := RX4) (T := TX4) (N := 13) hx hb hts i_X4 tyX4 tyX4_ok nmX4 hown hK hP hD hS 0 rfl rfl 6 (by decide) fl60 (fun _ h9 => h9) rfl hnm rfl (by decide +kernel) rfl rfl (Nat.le_of_ble_eq_true rfl) dX4_init_111 (fun H locs hP hD hS => ?_)
  have hP : va_P D vwCl [(h0, .inr (4, [.ref aM, .ref aK, .ref aG, .ref aE, .int (nI (pCl 1 16 n0)), .ref aRi, .ref aCh, .null, .null, .null, .int (nI 0), .int (nI 0), .int (nI 0)])), (aM, .inr (2, [.int (nI (pPr p0))])), (aK, .inr (1, [.ref aM, .ref aR, .ref aC, .ref aV, .ref aS, .int (nI 0), .int (nI 0)])), (aR, kd_ar cI (pCl 1 100 e0) (fun _ => 0)), (aC, kd_ar cI (pCl 1 100 e0) (fun _ => 0)), (aV, kd_ar cI (pCl 1 100 e0) (fun _ => 0)), (aS, kd_ar cI (pCl 1 16 n0) (fun _ => 0)), (aG, .inr (0, [.int (nI 1)])), (aE, .inr (3, [.ref aM, .ref tC, .ref tB, .ref tT, .int (nI 0), .int (nI 0), .int (nI 0)])), (tC, kd_ar cI (2 * (pCl 1 16 n0) + 1) (fun _ => 0)), (tB, kd_ar cI (2 * (pCl 1 16 n0) + 1) (fun _ => 0)), (tT, kd_ar cI (2 * (pCl 1 16 n0) + 1) (fun _ => 0)), (aRi, kd_ar cI (pCl 1 16 n0) (fun _ => 0)), (aCh, kd_ar cI (pCl 1 16 n0) (fun _ => 0))] H := hP
  have hD : va_D A [(h0, .inr (4, [.ref aM, .ref aK, .ref aG, .ref aE, .int (nI (pCl 1 16 n0)), .ref aRi, .ref aCh, .null, .null, .null, .int (nI 0), .int (nI 0), .int (nI 0)])), (aM, .inr (2, [.int (nI (pPr p0))])), (aK, .inr (1, [.ref aM, .ref aR, .ref aC, .ref aV, .ref aS, .int (nI 0), .int (nI 0)])), (aR, kd_ar cI (pCl 1 100 e0) (fun _ => 0)), (aC, kd_ar cI (pCl 1 100 e0) (fun _ => 0)), (aV, kd_ar cI (pCl 1 100 e0) (fun _ => 0)), (aS, kd_ar cI (pCl 1 16 n0) (fun _ => 0)), (aG, .inr (0, [.int (nI 1)])), (aE, .inr (3, [.ref aM, .ref tC, .ref tB, .ref tT, .int (nI 0), .int (nI 0), .int (nI 0)])), (tC, kd_ar cI (2 * (pCl 1 16 n0) + 1) (fun _ => 0)), (tB, kd_ar cI (2 * (pCl 1 16 n0) + 1) (fun _ => 0)), (tT, kd_ar cI (2 * (pCl 1 16 n0) + 1) (fun _ => 0)), (aRi, kd_ar cI (pCl 1 16 n0) (fun _ => 0)), (aCh, kd_ar cI (pCl 1 16 n0) (fun _ => 0))] := hD
  refine lv_aload_n hx hb dX4_init_114 rfl (lv_at hl 0 rfl) ?_
  refine lv_aload_n hx hb dX4_init_115 rfl (lv_at hl 0 rfl) ?_
  refine va_get (D := D) (ci := 4) (v := .int (nI (pCl 1 16 n0))) (C := RX4) (T := TX4) (N := 13) hx hb hts i_X4 hown hK hP 0 rfl rfl 4 (by decide) fl13 (fun _ h9 => h9) rfl dX4_init_116 ?_
  refine kd_newI hx hb (hts (.arrayClass .int) (by decide +kernel)) hK hP hD hS hA (by omega) (show _ ≤ 16 from by omega) (show _ ≤ 527 from by omega) dX4_init_119 (fun aWo H hP hD hS => ?_)
  have hP : va_P D vwCl [(h0, .inr (4, [.ref aM, .ref aK, .ref aG, .ref aE, .int (nI (pCl 1 16 n0)), .ref aRi, .ref aCh, .null, .null, .null, .int (nI 0), .int (nI 0), .int (nI 0)])), (aM, .inr (2, [.int (nI (pPr p0))])), (aK, .inr (1, [.ref aM, .ref aR, .ref aC, .ref aV, .ref aS, .int (nI 0), .int (nI 0)])), (aR, kd_ar cI (pCl 1 100 e0) (fun _ => 0)), (aC, kd_ar cI (pCl 1 100 e0) (fun _ => 0)), (aV, kd_ar cI (pCl 1 100 e0) (fun _ => 0)), (aS, kd_ar cI (pCl 1 16 n0) (fun _ => 0)), (aG, .inr (0, [.int (nI 1)])), (aE, .inr (3, [.ref aM, .ref tC, .ref tB, .ref tT, .int (nI 0), .int (nI 0), .int (nI 0)])), (tC, kd_ar cI (2 * (pCl 1 16 n0) + 1) (fun _ => 0)), (tB, kd_ar cI (2 * (pCl 1 16 n0) + 1) (fun _ => 0)), (tT, kd_ar cI (2 * (pCl 1 16 n0) + 1) (fun _ => 0)), (aRi, kd_ar cI (pCl 1 16 n0) (fun _ => 0)), (aCh, kd_ar cI (pCl 1 16 n0) (fun _ => 0)), (aWo, kd_ar cI (pCl 1 16 n0) (fun _ => 0))] H := hP
  have hD : va_D A [(h0, .inr (4, [.ref aM, .ref aK, .ref aG, .ref aE, .int (nI (pCl 1 16 n0)), .ref aRi, .ref aCh, .null, .null, .null, .int (nI 0), .int (nI 0), .int (nI 0)])), (aM, .inr (2, [.int (nI (pPr p0))])), (aK, .inr (1, [.ref aM, .ref aR, .ref aC, .ref aV, .ref aS, .int (nI 0), .int (nI 0)])), (aR, kd_ar cI (pCl 1 100 e0) (fun _ => 0)), (aC, kd_ar cI (pCl 1 100 e0) (fun _ => 0)), (aV, kd_ar cI (pCl 1 100 e0) (fun _ => 0)), (aS, kd_ar cI (pCl 1 16 n0) (fun _ => 0)), (aG, .inr (0, [.int (nI 1)])), (aE, .inr (3, [.ref aM, .ref tC, .ref tB, .ref tT, .int (nI 0), .int (nI 0), .int (nI 0)])), (tC, kd_ar cI (2 * (pCl 1 16 n0) + 1) (fun _ => 0)), (tB, kd_ar cI (2 * (pCl 1 16 n0) + 1) (fun _ => 0)), (tT, kd_ar cI (2 * (pCl 1 16 n0) + 1) (fun _ => 0)), (aRi, kd_ar cI (pCl 1 16 n0) (fun _ => 0)), (aCh, kd_ar cI (pCl 1 16 n0) (fun _ => 0)), (aWo, kd_ar cI (pCl 1 16 n0) (fun _ => 0))] := hD
  refine va_putF (D := D) (ci := 4) (v := .ref aWo) (ty := .array .int) (C := RX4) (T := TX4) (N := 13) hx hb hts i_X4 tyX4 tyX4_ok nmX4 hown hK hP hD hS 0 rfl rfl 7 (by decide) fl63 (fun _ h9 => h9) rfl hnm rfl (by decide +kernel) rfl rfl (Nat.le_of_ble_eq_true rfl) dX4_init_121 (fun H locs hP hD hS => ?_)
  have hP : va_P D vwCl [(h0, .inr (4, [.ref aM, .ref aK, .ref aG, .ref aE, .int (nI (pCl 1 16 n0)), .ref aRi, .ref aCh, .ref aWo, .null, .null, .int (nI 0), .int (nI 0), .int (nI 0)])), (aM, .inr (2, [.int (nI (pPr p0))])), (aK, .inr (1, [.ref aM, .ref aR, .ref aC, .ref aV, .ref aS, .int (nI 0), .int (nI 0)])), (aR, kd_ar cI (pCl 1 100 e0) (fun _ => 0)), (aC, kd_ar cI (pCl 1 100 e0) (fun _ => 0)), (aV, kd_ar cI (pCl 1 100 e0) (fun _ => 0)), (aS, kd_ar cI (pCl 1 16 n0) (fun _ => 0)), (aG, .inr (0, [.int (nI 1)])), (aE, .inr (3, [.ref aM, .ref tC, .ref tB, .ref tT, .int (nI 0), .int (nI 0), .int (nI 0)])), (tC, kd_ar cI (2 * (pCl 1 16 n0) + 1) (fun _ => 0)), (tB, kd_ar cI (2 * (pCl 1 16 n0) + 1) (fun _ => 0)), (tT, kd_ar cI (2 * (pCl 1 16 n0) + 1) (fun _ => 0)), (aRi, kd_ar cI (pCl 1 16 n0) (fun _ => 0)), (aCh, kd_ar cI (pCl 1 16 n0) (fun _ => 0)), (aWo, kd_ar cI (pCl 1 16 n0) (fun _ => 0))] H := hP
  have hD : va_D A [(h0, .inr (4, [.ref aM, .ref aK, .ref aG, .ref aE, .int (nI (pCl 1 16 n0)), .ref aRi, .ref aCh, .ref aWo, .null, .null, .int (nI 0), .int (nI 0), .int (nI 0)])), (aM, .inr (2, [.int (nI (pPr p0))])), (aK, .inr (1, [.ref aM, .ref aR, .ref aC, .ref aV, .ref aS, .int (nI 0), .int (nI 0)])), (aR, kd_ar cI (pCl 1 100 e0) (fun _ => 0)), (aC, kd_ar cI (pCl 1 100 e0) (fun _ => 0)), (aV, kd_ar cI (pCl 1 100 e0) (fun _ => 0)), (aS, kd_ar cI (pCl 1 16 n0) (fun _ => 0)), (aG, .inr (0, [.int (nI 1)])), (aE, .inr (3, [.ref aM, .ref tC, .ref tB, .ref tT, .int (nI 0), .int (nI 0), .int (nI 0)])), (tC, kd_ar cI (2 * (pCl 1 16 n0) + 1) (fun _ => 0)), (tB, kd_ar cI (2 * (pCl 1 16 n0) + 1) (fun _ => 0)), (tT, kd_ar cI (2 * (pCl 1 16 n0) + 1) (fun _ => 0)), (aRi, kd_ar cI (pCl 1 16 n0) (fun _ => 0)), (aCh, kd_ar cI (pCl 1 16 n0) (fun _ => 0)), (aWo, kd_ar cI (pCl 1 16 n0) (fun _ => 0))] := hD
  refine lv_aload_n hx hb dX4_init_124 rfl (lv_at hl 0 rfl) ?_
  refine lv_iconst (v := (nI 2)) hx hb dX4_init_125 (by decide) ?_
  refine lv_aload_n hx hb dX4_init_126 rfl (lv_at hl 0 rfl) ?_
  refine va_get (D := D) (ci := 4) (v := .int (nI (pCl 1 16 n0))) (C := RX4) (T := TX4) (N := 13) hx hb hts i_X4 hown hK hP 0 rfl rfl 4 (by decide) fl13 (fun _ h9 => h9) rfl dX4_init_127 ?_
  refine kd_mul hx hb dX4_init_130 ?_
  refine kd_newI hx hb (hts (.arrayClass .int) (by decide +kernel)) hK hP hD hS hA (by omega) (show _ ≤ 16 from by omega) (show _ ≤ 527 from by omega) dX4_init_131 (fun aNu H hP hD hS => ?_)
  have hP : va_P D vwCl [(h0, .inr (4, [.ref aM, .ref aK, .ref aG, .ref aE, .int (nI (pCl 1 16 n0)), .ref aRi, .ref aCh, .ref aWo, .null, .null, .int (nI 0), .int (nI 0), .int (nI 0)])), (aM, .inr (2, [.int (nI (pPr p0))])), (aK, .inr (1, [.ref aM, .ref aR, .ref aC, .ref aV, .ref aS, .int (nI 0), .int (nI 0)])), (aR, kd_ar cI (pCl 1 100 e0) (fun _ => 0)), (aC, kd_ar cI (pCl 1 100 e0) (fun _ => 0)), (aV, kd_ar cI (pCl 1 100 e0) (fun _ => 0)), (aS, kd_ar cI (pCl 1 16 n0) (fun _ => 0)), (aG, .inr (0, [.int (nI 1)])), (aE, .inr (3, [.ref aM, .ref tC, .ref tB, .ref tT, .int (nI 0), .int (nI 0), .int (nI 0)])), (tC, kd_ar cI (2 * (pCl 1 16 n0) + 1) (fun _ => 0)), (tB, kd_ar cI (2 * (pCl 1 16 n0) + 1) (fun _ => 0)), (tT, kd_ar cI (2 * (pCl 1 16 n0) + 1) (fun _ => 0)), (aRi, kd_ar cI (pCl 1 16 n0) (fun _ => 0)), (aCh, kd_ar cI (pCl 1 16 n0) (fun _ => 0)), (aWo, kd_ar cI (pCl 1 16 n0) (fun _ => 0)), (aNu, kd_ar cI (2 * (pCl 1 16 n0)) (fun _ => 0))] H := hP
  have hD : va_D A [(h0, .inr (4, [.ref aM, .ref aK, .ref aG, .ref aE, .int (nI (pCl 1 16 n0)), .ref aRi, .ref aCh, .ref aWo, .null, .null, .int (nI 0), .int (nI 0), .int (nI 0)])), (aM, .inr (2, [.int (nI (pPr p0))])), (aK, .inr (1, [.ref aM, .ref aR, .ref aC, .ref aV, .ref aS, .int (nI 0), .int (nI 0)])), (aR, kd_ar cI (pCl 1 100 e0) (fun _ => 0)), (aC, kd_ar cI (pCl 1 100 e0) (fun _ => 0)), (aV, kd_ar cI (pCl 1 100 e0) (fun _ => 0)), (aS, kd_ar cI (pCl 1 16 n0) (fun _ => 0)), (aG, .inr (0, [.int (nI 1)])), (aE, .inr (3, [.ref aM, .ref tC, .ref tB, .ref tT, .int (nI 0), .int (nI 0), .int (nI 0)])), (tC, kd_ar cI (2 * (pCl 1 16 n0) + 1) (fun _ => 0)), (tB, kd_ar cI (2 * (pCl 1 16 n0) + 1) (fun _ => 0)), (tT, kd_ar cI (2 * (pCl 1 16 n0) + 1) (fun _ => 0)), (aRi, kd_ar cI (pCl 1 16 n0) (fun _ => 0)), (aCh, kd_ar cI (pCl 1 16 n0) (fun _ => 0)), (aWo, kd_ar cI (pCl 1 16 n0) (fun _ => 0)), (aNu, kd_ar cI (2 * (pCl 1 16 n0)) (fun _ => 0))] := hD
  refine va_putF (D := D) (ci := 4) (v := .ref aNu) (ty := .array .int) (C := RX4) (T := TX4) (N := 13) hx hb hts i_X4 tyX4 tyX4_ok nmX4 hown hK hP hD hS 0 rfl rfl 8 (by decide) fl66 (fun _ h9 => h9) rfl hnm rfl (by decide +kernel) rfl rfl (Nat.le_of_ble_eq_true rfl) dX4_init_133 (fun H locs hP hD hS => ?_)
  have hP : va_P D vwCl [(h0, .inr (4, [.ref aM, .ref aK, .ref aG, .ref aE, .int (nI (pCl 1 16 n0)), .ref aRi, .ref aCh, .ref aWo, .ref aNu, .null, .int (nI 0), .int (nI 0), .int (nI 0)])), (aM, .inr (2, [.int (nI (pPr p0))])), (aK, .inr (1, [.ref aM, .ref aR, .ref aC, .ref aV, .ref aS, .int (nI 0), .int (nI 0)])), (aR, kd_ar cI (pCl 1 100 e0) (fun _ => 0)), (aC, kd_ar cI (pCl 1 100 e0) (fun _ => 0)), (aV, kd_ar cI (pCl 1 100 e0) (fun _ => 0)), (aS, kd_ar cI (pCl 1 16 n0) (fun _ => 0)), (aG, .inr (0, [.int (nI 1)])), (aE, .inr (3, [.ref aM, .ref tC, .ref tB, .ref tT, .int (nI 0), .int (nI 0), .int (nI 0)])), (tC, kd_ar cI (2 * (pCl 1 16 n0) + 1) (fun _ => 0)), (tB, kd_ar cI (2 * (pCl 1 16 n0) + 1) (fun _ => 0)), (tT, kd_ar cI (2 * (pCl 1 16 n0) + 1) (fun _ => 0)), (aRi, kd_ar cI (pCl 1 16 n0) (fun _ => 0)), (aCh, kd_ar cI (pCl 1 16 n0) (fun _ => 0)), (aWo, kd_ar cI (pCl 1 16 n0) (fun _ => 0)), (aNu, kd_ar cI (2 * (pCl 1 16 n0)) (fun _ => 0))] H := hP
  have hD : va_D A [(h0, .inr (4, [.ref aM, .ref aK, .ref aG, .ref aE, .int (nI (pCl 1 16 n0)), .ref aRi, .ref aCh, .ref aWo, .ref aNu, .null, .int (nI 0), .int (nI 0), .int (nI 0)])), (aM, .inr (2, [.int (nI (pPr p0))])), (aK, .inr (1, [.ref aM, .ref aR, .ref aC, .ref aV, .ref aS, .int (nI 0), .int (nI 0)])), (aR, kd_ar cI (pCl 1 100 e0) (fun _ => 0)), (aC, kd_ar cI (pCl 1 100 e0) (fun _ => 0)), (aV, kd_ar cI (pCl 1 100 e0) (fun _ => 0)), (aS, kd_ar cI (pCl 1 16 n0) (fun _ => 0)), (aG, .inr (0, [.int (nI 1)])), (aE, .inr (3, [.ref aM, .ref tC, .ref tB, .ref tT, .int (nI 0), .int (nI 0), .int (nI 0)])), (tC, kd_ar cI (2 * (pCl 1 16 n0) + 1) (fun _ => 0)), (tB, kd_ar cI (2 * (pCl 1 16 n0) + 1) (fun _ => 0)), (tT, kd_ar cI (2 * (pCl 1 16 n0) + 1) (fun _ => 0)), (aRi, kd_ar cI (pCl 1 16 n0) (fun _ => 0)), (aCh, kd_ar cI (pCl 1 16 n0) (fun _ => 0)), (aWo, kd_ar cI (pCl 1 16 n0) (fun _ => 0)), (aNu, kd_ar cI (2 * (pCl 1 16 n0)) (fun _ => 0))] := hD
  refine lv_aload_n hx hb dX4_init_136 rfl (lv_at hl 0 rfl) ?_
  refine lv_aload_n hx hb dX4_init_137 rfl (lv_at hl 0 rfl) ?_
  refine va_get (D := D) (ci := 4) (v := .int (nI (pCl 1 16 n0))) (C := RX4) (T := TX4) (N := 13) hx hb hts i_X4 hown hK hP 0 rfl rfl 4 (by decide) fl13 (fun _ h9 => h9) rfl dX4_init_138 ?_
  refine kd_newI hx hb (hts (.arrayClass .int) (by decide +kernel)) hK hP hD hS hA (by omega) (show _ ≤ 16 from by omega) (show _ ≤ 527 from by omega) dX4_init_141 (fun aAn H hP hD hS => ?_)
  have hP : va_P D vwCl [(h0, .inr (4, [.ref aM, .ref aK, .ref aG, .ref aE, .int (nI (pCl 1 16 n0)), .ref aRi, .ref aCh, .ref aWo, .ref aNu, .null, .int (nI 0), .int (nI 0), .int (nI 0)])), (aM, .inr (2, [.int (nI (pPr p0))])), (aK, .inr (1, [.ref aM, .ref aR, .ref aC, .ref aV, .ref aS, .int (nI 0), .int (nI 0)])), (aR, kd_ar cI (pCl 1 100 e0) (fun _ => 0)), (aC, kd_ar cI (pCl 1 100 e0) (fun _ => 0)), (aV, kd_ar cI (pCl 1 100 e0) (fun _ => 0)), (aS, kd_ar cI (pCl 1 16 n0) (fun _ => 0)), (aG, .inr (0, [.int (nI 1)])), (aE, .inr (3, [.ref aM, .ref tC, .ref tB, .ref tT, .int (nI 0), .int (nI 0), .int (nI 0)])), (tC, kd_ar cI (2 * (pCl 1 16 n0) + 1) (fun _ => 0)), (tB, kd_ar cI (2 * (pCl 1 16 n0) + 1) (fun _ => 0)), (tT, kd_ar cI (2 * (pCl 1 16 n0) + 1) (fun _ => 0)), (aRi, kd_ar cI (pCl 1 16 n0) (fun _ => 0)), (aCh, kd_ar cI (pCl 1 16 n0) (fun _ => 0)), (aWo, kd_ar cI (pCl 1 16 n0) (fun _ => 0)), (aNu, kd_ar cI (2 * (pCl 1 16 n0)) (fun _ => 0)), (aAn, kd_ar cI (pCl 1 16 n0) (fun _ => 0))] H := hP
  have hD : va_D A [(h0, .inr (4, [.ref aM, .ref aK, .ref aG, .ref aE, .int (nI (pCl 1 16 n0)), .ref aRi, .ref aCh, .ref aWo, .ref aNu, .null, .int (nI 0), .int (nI 0), .int (nI 0)])), (aM, .inr (2, [.int (nI (pPr p0))])), (aK, .inr (1, [.ref aM, .ref aR, .ref aC, .ref aV, .ref aS, .int (nI 0), .int (nI 0)])), (aR, kd_ar cI (pCl 1 100 e0) (fun _ => 0)), (aC, kd_ar cI (pCl 1 100 e0) (fun _ => 0)), (aV, kd_ar cI (pCl 1 100 e0) (fun _ => 0)), (aS, kd_ar cI (pCl 1 16 n0) (fun _ => 0)), (aG, .inr (0, [.int (nI 1)])), (aE, .inr (3, [.ref aM, .ref tC, .ref tB, .ref tT, .int (nI 0), .int (nI 0), .int (nI 0)])), (tC, kd_ar cI (2 * (pCl 1 16 n0) + 1) (fun _ => 0)), (tB, kd_ar cI (2 * (pCl 1 16 n0) + 1) (fun _ => 0)), (tT, kd_ar cI (2 * (pCl 1 16 n0) + 1) (fun _ => 0)), (aRi, kd_ar cI (pCl 1 16 n0) (fun _ => 0)), (aCh, kd_ar cI (pCl 1 16 n0) (fun _ => 0)), (aWo, kd_ar cI (pCl 1 16 n0) (fun _ => 0)), (aNu, kd_ar cI (2 * (pCl 1 16 n0)) (fun _ => 0)), (aAn, kd_ar cI (pCl 1 16 n0) (fun _ => 0))] := hD
  refine va_putF (D := D) (ci := 4) (v := .ref aAn) (ty := .array .int) (C := RX4) (T := TX4) (N := 13) hx hb hts i_X4 tyX4 tyX4_ok nmX4 hown hK hP hD hS 0 rfl rfl 9 (by decide) fl69 (fun _ h9 => h9) rfl hnm rfl (by decide +kernel) rfl rfl (Nat.le_of_ble_eq_true rfl) dX4_init_143 (fun H locs hP hD hS => ?_)
  have hP : va_P D vwCl [(h0, .inr (4, [.ref aM, .ref aK, .ref aG, .ref aE, .int (nI (pCl 1 16 n0)), .ref aRi, .ref aCh, .ref aWo, .ref aNu, .ref aAn, .int (nI 0), .int (nI 0), .int (nI 0)])), (aM, .inr (2, [.int (nI (pPr p0))])), (aK, .inr (1, [.ref aM, .ref aR, .ref aC, .ref aV, .ref aS, .int (nI 0), .int (nI 0)])), (aR, kd_ar cI (pCl 1 100 e0) (fun _ => 0)), (aC, kd_ar cI (pCl 1 100 e0) (fun _ => 0)), (aV, kd_ar cI (pCl 1 100 e0) (fun _ => 0)), (aS, kd_ar cI (pCl 1 16 n0) (fun _ => 0)), (aG, .inr (0, [.int (nI 1)])), (aE, .inr (3, [.ref aM, .ref tC, .ref tB, .ref tT, .int (nI 0), .int (nI 0), .int (nI 0)])), (tC, kd_ar cI (2 * (pCl 1 16 n0) + 1) (fun _ => 0)), (tB, kd_ar cI (2 * (pCl 1 16 n0) + 1) (fun _ => 0)), (tT, kd_ar cI (2 * (pCl 1 16 n0) + 1) (fun _ => 0)), (aRi, kd_ar cI (pCl 1 16 n0) (fun _ => 0)), (aCh, kd_ar cI (pCl 1 16 n0) (fun _ => 0)), (aWo, kd_ar cI (pCl 1 16 n0) (fun _ => 0)), (aNu, kd_ar cI (2 * (pCl 1 16 n0)) (fun _ => 0)), (aAn, kd_ar cI (pCl 1 16 n0) (fun _ => 0))] H := hP
  have hD : va_D A [(h0, .inr (4, [.ref aM, .ref aK, .ref aG, .ref aE, .int (nI (pCl 1 16 n0)), .ref aRi, .ref aCh, .ref aWo, .ref aNu, .ref aAn, .int (nI 0), .int (nI 0), .int (nI 0)])), (aM, .inr (2, [.int (nI (pPr p0))])), (aK, .inr (1, [.ref aM, .ref aR, .ref aC, .ref aV, .ref aS, .int (nI 0), .int (nI 0)])), (aR, kd_ar cI (pCl 1 100 e0) (fun _ => 0)), (aC, kd_ar cI (pCl 1 100 e0) (fun _ => 0)), (aV, kd_ar cI (pCl 1 100 e0) (fun _ => 0)), (aS, kd_ar cI (pCl 1 16 n0) (fun _ => 0)), (aG, .inr (0, [.int (nI 1)])), (aE, .inr (3, [.ref aM, .ref tC, .ref tB, .ref tT, .int (nI 0), .int (nI 0), .int (nI 0)])), (tC, kd_ar cI (2 * (pCl 1 16 n0) + 1) (fun _ => 0)), (tB, kd_ar cI (2 * (pCl 1 16 n0) + 1) (fun _ => 0)), (tT, kd_ar cI (2 * (pCl 1 16 n0) + 1) (fun _ => 0)), (aRi, kd_ar cI (pCl 1 16 n0) (fun _ => 0)), (aCh, kd_ar cI (pCl 1 16 n0) (fun _ => 0)), (aWo, kd_ar cI (pCl 1 16 n0) (fun _ => 0)), (aNu, kd_ar cI (2 * (pCl 1 16 n0)) (fun _ => 0)), (aAn, kd_ar cI (pCl 1 16 n0) (fun _ => 0))] := hD
  refine W.widen (k := 16) (n := 527) (by omega) (by omega) ?_
  exact ret (aM, aK, aG, aE, aRi, aCh, aWo, aNu, aAn, aR, aC, aV, aS, tC, tB, tT) _ _ _ _ dX4_init_146 hS (hP.sub [0, 1, 7, 2, 3, 4, 5, 6, 8, 9, 10, 11, 12, 13, 14, 15, 16] rfl) (hD.sub [0, 1, 7, 2, 3, 4, 5, 6, 8, 9, 10, 11, 12, 13, 14, 15, 16] (by decide) rfl)
end
section
/-! for the reference: longs, rows that are longer than what is used of them, powers from the highest bit on -/
def pRedL (P : Nat) (v : Int64) : Nat := (v.toInt % (P : Int)).toNat
theorem pRedL_lt {P : Nat} (h : 0 < P) (v : Int64) : pRedL P v < P := by
  have h1 := Int.emod_nonneg v.toInt (b := (P : Int)) (by omega)
  have h2 := Int.emod_lt_of_pos v.toInt (b := (P : Int)) (by omega)
  unfold pRedL
  omega
theorem lrem_i {P : Nat} (h0 : 0 < P) (h1 : P ≤ 46337) {v : Int64} (hv : -2 ^ 40 ≤ v.toInt) (hw : v.toInt < 2 ^ 40) : (v - v / lN P * lN P).toInt = v.toInt.tmod P := by
  have hp : (lN P).toInt = (P : Int) := pk_lT (by omega)
  have hb := tmod_bounds (a := v.toInt) (M := (P : Int)) (by omega)
  have hq := Int.tmod_add_mul_tdiv v.toInt (P : Int)
  have hd : (v / lN P).toInt = v.toInt.tdiv P := by rw [Jvm.Kit.i64_div (by rw [hp]; omega), hp]
  have hc := Int.mul_comm (P : Int) (v.toInt.tdiv P)
  have hm : (v / lN P * lN P).toInt = v.toInt.tdiv P * P := by rw [Jvm.Kit.i64_mul (by rw [hd, hp]; omega) (by rw [hd, hp]; omega), hd, hp]
  rw [Jvm.Kit.i64_sub (by rw [hm]; omega) (by rw [hm]; omega), hm]
  omega
theorem redL_pos {P : Nat} (h0 : 0 < P) (h1 : P ≤ 46337) {v : Int64} (hv : -2 ^ 40 ≤ v.toInt) (hw : v.toInt < 2 ^ 40) (h : lN 0 ≤ v - v / lN P * lN P) : v - v / lN P * lN P = lN (pRedL P v) := by
  have hm := lrem_i h0 h1 hv hw
  have hb := tmod_bounds (a := v.toInt) (M := (P : Int)) (by omega)
  have hn : 0 ≤ v.toInt.tmod P := by
    have := Int64.le_iff_toInt_le.mp h
    rw [hm, pk_lT (by omega)] at this
    exact this
  have hv2 := Int.tmod_add_mul_tdiv v.toInt (P : Int)
  have e := em_char (v := v.toInt) (x := v.toInt.tmod P) (q := v.toInt.tdiv P) (P := P) hv2.symm hn hb.2
  apply Int64.toInt_inj.mp
  have hlt := pRedL_lt h0 v
  rw [hm, pk_lT (by omega)]
  unfold pRedL
  rw [e]
  omega
theorem redL_neg {P : Nat} (h0 : 0 < P) (h1 : P ≤ 46337) {v : Int64} (hv : -2 ^ 40 ≤ v.toInt) (hw : v.toInt < 2 ^ 40) (h : ¬ lN 0 ≤ v - v / lN P * lN P) : v - v / lN P * lN P + lN P = lN (pRedL P v) := by
  have hm := lrem_i h0 h1 hv hw
  have hp : (lN P).toInt = (P : Int) := pk_lT (by omega)
  have hb := tmod_bounds (a := v.toInt) (M := (P : Int)) (by omega)
  have hn : ¬ 0 ≤ v.toInt.tmod P := by
    intro z
    apply h
    apply Int64.le_iff_toInt_le.mpr
    rw [hm, pk_lT (by omega)]
    exact z
  have hv2 := Int.tmod_add_mul_tdiv v.toInt (P : Int)
  have hq : v.toInt = (v.toInt.tmod P + P) + P * (v.toInt.tdiv P - 1) := by rw [Int.mul_sub, Int.mul_one]; omega
  have e := em_char hq (by omega) (by omega)
  apply Int64.toInt_inj.mp
  have hlt := pRedL_lt h0 v
  rw [Jvm.Kit.i64_add (by rw [hm, hp]; omega) (by rw [hm, hp]; omega), hm, hp, pk_lT (by omega)]
  unfold pRedL
  rw [e]
  omega
theorem pRedL_int (P : Nat) (v : Int32) : pRedL P v.toInt64 = pRed P v := by
  unfold pRedL pRed
  rw [Jvm.Kit.i64_of_i32]
theorem pNeg_eq {P f : Nat} (hf : f < P) : ((pNeg P f : Nat) : Int) = (if f = 0 then 0 else (P : Int) - f) := by
  unfold pNeg
  by_cases h : f = 0
  · rw [if_pos h, if_pos h]; rfl
  · rw [if_neg h, if_neg h]; omega
theorem pRedL_sub {P a f b : Nat} (h2 : P ≤ 46337) (ha : a < P) (hf : f < P) (hb : b < P) : pRedL P (lN a - lN (f * b)) = (a + pNeg P f * b) % P := by
  have hs := mul_small h2 hf hb
  have e1 : (lN a).toInt = (a : Int) := pk_lT (by omega)
  have e2 : (lN (f * b)).toInt = ((f * b : Nat) : Int) := pk_lT (by omega)
  unfold pRedL
  rw [Jvm.Kit.i64_sub (by rw [e1, e2]; omega) (by rw [e1, e2]; omega), e1, e2]
  have e3 : ((a : Int) - ((f * b : Nat) : Int)) % (P : Int) = (((a + pNeg P f * b : Nat) : Int)) % (P : Int) := by
    by_cases h : f = 0
    · subst h
      unfold pNeg
      rw [if_pos rfl, Nat.zero_mul]
      congr 1
    · unfold pNeg
      rw [if_neg h]
      have hx : ((a + (P - f) * b : Nat) : Int) = ((a : Int) - ((f * b : Nat) : Int)) + (P : Int) * (b : Int) := by
        have : ((P - f : Nat) : Int) = (P : Int) - f := by omega
        rw [Int.natCast_add, Int.natCast_mul, this, Int.sub_mul, Int.natCast_mul]
        omega
      rw [hx, Int.add_mul_emod_self_left]
  rw [e3]
  exact Int.toNat_natCast _
theorem pRedL_neg {P a : Nat} (h2 : P ≤ 46337) (ha : a < P) : pRedL P (-lN a) = pNeg P a := by
  have e1 : (lN a).toInt = (a : Int) := pk_lT (by omega)
  unfold pRedL pNeg
  rw [Jvm.Kit.i64_neg (by rw [e1]; omega), e1]
  by_cases h : a = 0
  · subst h
    rw [if_pos rfl]
    simp
  · rw [if_neg h, em_char (v := -(a : Int)) (x := (P : Int) - a) (q := -1) (P := P) (by omega) (by omega) (by omega)]
    omega
theorem sub_rng {P a f b : Nat} (h2 : P ≤ 46337) (ha : a < P) (hf : f < P) (hb : b < P) : -2 ^ 40 ≤ (lN a - lN (f * b)).toInt ∧ (lN a - lN (f * b)).toInt < 2 ^ 40 := by
  have hs := mul_small h2 hf hb
  have e1 : (lN a).toInt = (a : Int) := pk_lT (by omega)
  have e2 : (lN (f * b)).toInt = ((f * b : Nat) : Int) := pk_lT (by omega)
  rw [Jvm.Kit.i64_sub (by rw [e1, e2]; omega) (by rw [e1, e2]; omega), e1, e2]
  omega
theorem neg_rng {P a : Nat} (h2 : P ≤ 46337) (ha : a < P) : -2 ^ 40 ≤ (-lN a).toInt ∧ (-lN a).toInt < 2 ^ 40 := by
  have e1 : (lN a).toInt = (a : Int) := pk_lT (by omega)
  rw [Jvm.Kit.i64_neg (by rw [e1]; omega), e1]
  omega
theorem int_rng (v : Int32) : -2 ^ 40 ≤ v.toInt64.toInt ∧ v.toInt64.toInt < 2 ^ 40 := by
  rw [Jvm.Kit.i64_of_i32]
  have h1 := Int32.toInt_lt v
  have h2 := Int32.le_toInt v
  omega
/-- a row whose first m places are f -/
def pMix (m : Nat) (f x : Nat → Nat) : Nat → Nat := fun j => if j < m then f j else x j
theorem pMix_lt {m : Nat} {f x : Nat → Nat} {j : Nat} (h : j < m) : pMix m f x j = f j := if_pos h
theorem pMix_up {m : Nat} {f x : Nat → Nat} {k v : Nat} (h : k < m) (j : Nat) : va_up (pMix m f x) k v j = pMix m (va_up f k v) x j := by
  unfold pMix va_up
  by_cases e : j = k
  · rw [if_pos e, if_pos (by omega), if_pos e]
  · rw [if_neg e, if_neg e]
theorem pMix_of {m : Nat} {f x : Nat → Nat} (h : ∀ j, j < m → x j = f j) (j : Nat) : x j = pMix m f x j := by
  unfold pMix
  by_cases e : j < m
  · rw [if_pos e]; exact h j e
  · rw [if_neg e]
theorem pMix_eq {m : Nat} {f g x : Nat → Nat} (h : ∀ j, j < m → f j = g j) (j : Nat) : pMix m f x j = pMix m g x j := by
  unfold pMix
  by_cases e : j < m
  · rw [if_pos e, if_pos e]; exact h j e
  · rw [if_neg e, if_neg e]
/-- the bit that is next: one below b -/
def pBit (b : Nat) : Int32 := nI b - 1
theorem pBit_s (b : Nat) : pBit (b + 1) = nI b := nI_pred b
theorem pBit_30 : nI 30 = pBit 31 := (pBit_s 30).symm
theorem pBit_m (b : Nat) : nI b + Int32.ofInt (-1) = pBit b := by
  unfold pBit
  rw [Int32.sub_eq_add_neg]
  rfl
theorem pBit_0 {b : Nat} (h : b < 2 ^ 31) (h2 : pBit b < 0) : b = 0 := by
  rcases b with _ | b
  · rfl
  · rw [pBit_s] at h2
    exact absurd h2 (nI_pos (by omega))
theorem pBit_1 {b : Nat} (h2 : ¬ pBit b < 0) : ∃ x, b = x + 1 := by
  rcases b with _ | b
  · exact absurd (by decide) h2
  · exact ⟨b, rfl⟩
theorem sl_32 : ∀ n, n < 32 → ((nI n &&& 31).toBitVec.smod 32).toNat = n := by decide
theorem shr_eq {e0 b : Nat} (h : e0 < 2 ^ 31) (hb : b < 31) : nI e0 >>> (nI b &&& 31) = nI (e0 / 2 ^ b) := pk_shrN h _ b (sl_32 b (by omega))
theorem and1_eq {x : Nat} (h : x < 2 ^ 31) : nI x &&& nI 1 = nI (x % 2) := pk_andN (by omega) 1 (by decide)
theorem div_2 (e0 b : Nat) : e0 / 2 ^ (b + 1) = e0 / 2 ^ b / 2 := by rw [Nat.pow_succ, Nat.div_div_eq_div_mul]
theorem pow_0 {P a0 e0 b p0 : Nat} (h : p0 = a0 ^ (e0 / 2 ^ (b + 1)) % P) (hb : ¬ e0 / 2 ^ b % 2 = 1) : p0 * p0 % P = a0 ^ (e0 / 2 ^ b) % P := by
  rw [h, ← Nat.mul_mod, ← Nat.pow_add, div_2]
  congr 2
  omega
theorem pow_1 {P a0 e0 b p0 : Nat} (h : p0 = a0 ^ (e0 / 2 ^ (b + 1)) % P) (hb : e0 / 2 ^ b % 2 = 1) : p0 * p0 % P * a0 % P = a0 ^ (e0 / 2 ^ b) % P := by
  rw [h, ← Nat.mul_mod, ← Nat.pow_add, div_2, Nat.mod_mul_mod, ← Nat.pow_succ]
  congr 2
  omega
theorem pAcc_mix {P : Nat} {rows cols vals f x : Nat → Nat} {n : Nat} : ∀ i, (∀ k, k < i → cols k < n) → pAcc P rows cols vals (pMix n f x) i = pAcc P rows cols vals f i
  | 0, _ => rfl
  | i + 1, h => by
    unfold pAcc
    rw [pAcc_mix i (fun k hk => h k (by omega)), pMix_lt (h i (by omega))]
theorem pB_iff {c d : Prop} [Decidable c] [Decidable d] (h : c ↔ d) : pB c = pB d := by
  by_cases a : c
  · rw [pB_t a, pB_t (h.mp a)]
  · rw [pB_f a, pB_f (fun q => a (h.mpr q))]
theorem mix_end {f g x v : Nat → Nat} {n i j : Nat} (h : ∀ j, v j = if j < i then f j else pMix n g x j) (hi : i = n) : v j = pMix n f x j := by
  rw [h j, hi]
  unfold pMix
  by_cases e : j < n
  · rw [if_pos e, if_pos e]
  · rw [if_neg e, if_neg e, if_neg e]
end
section
set_option maxHeartbeats 4000000 in
set_option maxRecDepth 100000 in
/-- whether it is a prime -/
theorem c_X5_isPrime (l : Launch) (D : va_G) (cI cJ : ClassId) (k0 : Nat) (g1 : 2 ≤ k0) (g2 : k0 ≤ 46337) : kd_MI (S := Unit) l yX5_isPrime wsX5_isPrime { frames := 0, cells := 0, slots := 0, locals := 0 } [.int (nI k0)] D vwCl cI cJ [] (fun _ => nI (pB (pPrime k0))) (fun _ => []) 0 0 := by
  refine kd_enterZ (cc := cX5_isPrime) (maxL := 3) (by decide) rfl (Nat.le_of_ble_eq_true rfl) (fun _ => pB_01 _) ?_
  intro p e s m args below meth c A ls Q hx hb hr hts hown hlk hnm hml hP hK hD hA hS hl ret
  have hl : lv_has ls 3 [(0, .int (nI k0))] := hl
  have hown : s.vm.findClass RX5 = some m.cls := hown
  refine lv_iconst (v := (nI 1)) hx hb dX5_isPrime_0 (by decide) ?_
  refine lv_istore_n (lv' := [(1, .int (nI 1)), (0, .int (nI k0))]) hx hb dX5_isPrime_1 rfl hl (by decide) rfl (fun ls hl => ?_)
  refine lv_iconst (v := (nI 2)) hx hb dX5_isPrime_2 (by decide) ?_
  refine lv_istore_n (lv' := [(2, .int (nI 2)), (1, .int (nI 1)), (0, .int (nI k0))]) hx hb dX5_isPrime_3 rfl hl (by decide) rfl (fun ls hl => ?_)
  have lp : ∀ (k_lp : Nat) (d : Nat) (is : Nat) (H : Heap) (locs : List Loc) (ls : Array Slot), (216 - d < k_lp) → (d ≤ 216) → (2 ≤ d) → (is = pB (∀ x, x < d → 2 ≤ x → ¬ k0 % x = 0)) → (∀ x, x < d → 2 ≤ x → x * x ≤ k0) → va_P D vwCl [] H → va_D A [] → va_S A s.heap H locs → lv_has ls 3 [(2, .int (nI d)), (1, .int (nI is)), (0, .int (nI k0))] → W p l e { frames := 0, cells := 0, slots := 0, locals := 0 } s m args below meth c H locs 0 0 Q (F0 m 4 ls []) := by
    intro k_lp
    induction k_lp with
    | zero => intro d is H locs ls i1 i2 i3 i4 i5 hP hD hS hl; omega
    | succ k_lp ih_lp =>
      intro d is H locs ls i1 i2 i3 i4 i5 hP hD hS hl
      refine lv_iload_n hx hb dX5_isPrime_4 rfl (lv_at hl 0 rfl) ?_
      refine lv_iload_n hx hb dX5_isPrime_5 rfl (lv_at hl 0 rfl) ?_
      refine kd_mul hx hb dX5_isPrime_6 ?_
      refine lv_iload_n hx hb dX5_isPrime_7 rfl (lv_at hl 2 rfl) ?_
      refine kd_gt (tgt := 33) hx hb dX5_isPrime_8 (by decide) (sq_b i2) (by omega) (fun c_8 => ?_) (fun c_8 => ?_)
      · skip
        refine lv_iload_n hx hb dX5_isPrime_33 rfl (lv_at hl 1 rfl) ?_
        exact ret () _ _ _ _ _ dX5_isPrime_34 (by rw [i4]; exact congrArg nI (pB_iff ⟨fun q => pPrime_end c_8 q, fun q x hx h2 => q x (by omega) h2 (i5 x hx h2)⟩)) hS (hP.sub [] rfl) (hD.sub [] (by decide) rfl)
      · skip
        refine lv_iload_n hx hb dX5_isPrime_11 rfl (lv_at hl 1 rfl) ?_
        refine kd_eq0 (tgt := 33) hx hb dX5_isPrime_12 (by decide) (by rw [i4]; have := pB_lt (∀ x, x < d → 2 ≤ x → ¬ k0 % x = 0); omega) (fun c_12 => ?_) (fun c_12 => ?_)
        · skip
          refine lv_iload_n hx hb dX5_isPrime_33 rfl (lv_at hl 1 rfl) ?_
          exact ret () _ _ _ _ _ dX5_isPrime_34 (by rw [c_12, pB_f (fun q => pB_e0 (i4.symm.trans c_12) (fun x hx h2 => q x (by omega) h2 (i5 x hx h2)))]) hS (hP.sub [] rfl) (hD.sub [] (by decide) rfl)
        · skip
          refine lv_iload_n hx hb dX5_isPrime_15 rfl (lv_at hl 2 rfl) ?_
          refine lv_iload_n hx hb dX5_isPrime_16 rfl (lv_at hl 0 rfl) ?_
          refine kd_rem hx hb (by omega) (by omega) (by omega) dX5_isPrime_17 ?_
          refine kd_eq0 (tgt := 25) hx hb dX5_isPrime_18 (by decide) (by have := Nat.mod_lt k0 (show 0 < d by omega); omega) (fun c_18 => ?_) (fun c_18 => ?_)
          · skip
            refine lv_iconst (v := (nI 0)) hx hb dX5_isPrime_25 (by decide) ?_
            refine lv_istore_n (lv' := [(1, .int (nI 0)), (2, .int (nI d)), (0, .int (nI k0))]) hx hb dX5_isPrime_26 rfl hl (by decide) rfl (fun ls hl => ?_)
            refine lv_iinc (v := (nI (d + 1))) (lv' := [(2, .int (nI (d + 1))), (1, .int (nI 0)), (0, .int (nI k0))]) hx hb dX5_isPrime_27 hl (k := 1) rfl (nI_1 _) (by decide) rfl (fun ls hl => ?_)
            refine lv_goto (tgt := 4) hx hb dX5_isPrime_30 (by decide) ?_
            exact ih_lp (d + 1) 0 _ _ _ (by have := sq_lt i2 (Nat.not_lt.mp c_8) g2; omega) (by have := sq_lt i2 (Nat.not_lt.mp c_8) g2; omega) (by omega) (by rw [pB_f (fun q => q d (by omega) i3 c_18)]) (lt_s (p := fun x => 2 ≤ x → x * x ≤ k0) i5 (fun _ => Nat.not_lt.mp c_8)) (hP.sub [] rfl) (hD.sub [] (by decide) rfl) hS (lv_sub hl [0, 1, 2] rfl)
          · skip
            refine lv_iconst (v := (nI 1)) hx hb dX5_isPrime_21 (by decide) ?_
            refine lv_goto (tgt := 26) hx hb dX5_isPrime_22 (by decide) ?_
            refine lv_istore_n (lv' := [(1, .int (nI 1)), (2, .int (nI d)), (0, .int (nI k0))]) hx hb dX5_isPrime_26 rfl hl (by decide) rfl (fun ls hl => ?_)
            refine lv_iinc (v := (nI (d + 1))) (lv' := [(2, .int (nI (d + 1))), (1, .int (nI 1)), (0, .int (nI k0))]) hx hb dX5_isPrime_27 hl (k := 1) rfl (nI_1 _) (by decide) rfl (fun ls hl => ?_)
            refine lv_goto (tgt := 4) hx hb dX5_isPrime_30 (by decide) ?_
            exact ih_lp (d + 1) 1 _ _ _ (by have := sq_lt i2 (Nat.not_lt.mp c_8) g2; omega) (by have := sq_lt i2 (Nat.not_lt.mp c_8) g2; omega) (by omega) (by rw [pB_t (lt_s (p := fun x => 2 ≤ x → ¬ k0 % x = 0) (pB_e1 (fun z => c_12 (i4.trans z))) (fun _ => c_18))]) (lt_s (p := fun x => 2 ≤ x → x * x ≤ k0) i5 (fun _ => Nat.not_lt.mp c_8)) (hP.sub [] rfl) (hD.sub [] (by decide) rfl) hS (lv_sub hl [0, 1, 2] rfl)
  exact lp 216 2 1 _ _ _ (by omega) (by omega) (by omega) (by rw [pB_t (fun x hx h2 => by omega)]) (fun x hx h2 => by omega) (hP.sub [] rfl) (hD.sub [] (by decide) rfl) hS (lv_sub hl [0, 1, 2] rfl)

set_option maxHeartbeats 4000000 in
set_option maxRecDepth 100000 in
/-- modulo P -/
theorem c_X5_within (l : Launch) (D : va_G) (cI cJ : ClassId) (h0 rR rC rV rRi rDr rVe rMa rRo rc rb rt rSo : Nat) (P n room held gg att prod rs ss : Nat) (dg : Int32) (v0 : Int64) (g1 : 2 ≤ P) (g2 : P ≤ 46337) (g3 : -2 ^ 40 ≤ v0.toInt ∧ v0.toInt < 2 ^ 40) : kd_ML (S := Unit) l yX5_within wsX5_within { frames := 0, cells := 0, slots := 0, locals := 0 } [.ref h0, .long v0] D vwCl cI cJ [(h0, .inr (5, [.int (nI P), .int (nI n), .int (nI room), .ref rR, .ref rC, .ref rV, .int (nI held), .ref rRi, .long (lN gg), .int (nI att), .int (nI prod), .ref rDr, .ref rVe, .ref rMa, .ref rRo, .int (nI rs), .ref rc, .ref rb, .ref rt, .int dg, .ref rSo, .int (nI ss)]))] (fun _ => lN (pRedL P v0)) (fun _ => [(h0, .inr (5, [.int (nI P), .int (nI n), .int (nI room), .ref rR, .ref rC, .ref rV, .int (nI held), .ref rRi, .long (lN gg), .int (nI att), .int (nI prod), .ref rDr, .ref rVe, .ref rMa, .ref rRo, .int (nI rs), .ref rc, .ref rb, .ref rt, .int dg, .ref rSo, .int (nI ss)]))]) 0 0 := by
  refine kd_enterL (cc := cX5_within) (maxL := 5) (by decide) rfl (Nat.le_of_ble_eq_true rfl) ?_
  intro p e s m args below meth c A ls Q hx hb hr hts hown hlk hnm hml hP hK hD hA hS hl ret
  have hl : lv_has ls 5 [(0, .ref h0), (1, .long v0)] := hl
  have hown : s.vm.findClass RX5 = some m.cls := hown
  have i_X5 : ∀ w ∈ wsX50, w ∈ wsX5_within := by decide +kernel
  have fl60 := hts (.fieldLink RX5 60 "KrylovDeskModel" "prime" "I") (by decide +kernel)
  refine lv_lload_n hx hb dX5_within_0 rfl (lv_at hl 1 rfl) ?_
  refine lv_aload_n hx hb dX5_within_1 rfl (lv_at hl 0 rfl) ?_
  refine va_get (D := D) (ci := 5) (v := .int (nI P)) (C := RX5) (T := TX5) (N := 22) hx hb hts i_X5 hown hK hP 0 rfl rfl 0 (by decide) fl60 (fun _ h9 => h9) rfl dX5_within_2 ?_
  refine kd_i2l hx hb (by omega) dX5_within_5 ?_
  refine lv_lrem hx hb dX5_within_6 (kd_lne (by omega) (by omega)) ?_
  refine lv_lstore_n (lv' := [(3, .long (v0 - v0 / (lN P) * (lN P))), (0, .ref h0), (1, .long v0)]) hx hb dX5_within_7 rfl hl (by decide) rfl (fun ls hl => ?_)
  refine lv_lload_n hx hb dX5_within_8 rfl (lv_at hl 0 rfl) ?_
  refine lv_lconst (v := lN 0) hx hb dX5_within_9 (by decide) ?_
  refine W.lcmp hx hb dX5_within_10 ?_
  refine lv_if_ge (tgt := 24) hx hb dX5_within_11 (by decide) (fun c_11 => ?_) (fun c_11 => ?_)
  · skip
    have c_11 := (lg_cmp_ge _ _).mp c_11
    refine lv_lload_n hx hb dX5_within_24 rfl (lv_at hl 0 rfl) ?_
    exact ret () _ _ _ _ _ dX5_within_25 (by first | exact redL_pos (by omega) g2 g3.1 g3.2 c_11 | exact redL_neg (by omega) g2 g3.1 g3.2 c_11) hS (hP.sub [0] rfl) (hD.sub [0] (by decide) rfl)
  · skip
    have c_11 := fun q => c_11 ((lg_cmp_ge _ _).mpr q)
    refine lv_lload_n hx hb dX5_within_14 rfl (lv_at hl 0 rfl) ?_
    refine lv_aload_n hx hb dX5_within_15 rfl (lv_at hl 1 rfl) ?_
    refine va_get (D := D) (ci := 5) (v := .int (nI P)) (C := RX5) (T := TX5) (N := 22) hx hb hts i_X5 hown hK hP 0 rfl rfl 0 (by decide) fl60 (fun _ h9 => h9) rfl dX5_within_16 ?_
    refine kd_i2l hx hb (by omega) dX5_within_19 ?_
    refine lv_ladd hx hb dX5_within_20 ?_
    refine lv_goto (tgt := 25) hx hb dX5_within_21 (by decide) ?_
    exact ret () _ _ _ _ _ dX5_within_25 (by first | exact redL_pos (by omega) g2 g3.1 g3.2 c_11 | exact redL_neg (by omega) g2 g3.1 g3.2 c_11) hS (hP.sub [0] rfl) (hD.sub [0] (by decide) rfl)

set_option maxHeartbeats 4000000 in
set_option maxRecDepth 100000 in
/-- nothing stands -/
theorem c_X5_forget (l : Launch) (D : va_G) (cI cJ : ClassId) (h0 rR rC rV rRi rDr rVe rMa rRo rc rb rt rSo : Nat) (P n room held gg att prod rs ss : Nat) (dg : Int32) : kd_MV (S := Unit) l yX5_forget wsX5_forget { frames := 0, cells := 0, slots := 0, locals := 0 } [.ref h0] D vwCl cI cJ [(h0, .inr (5, [.int (nI P), .int (nI n), .int (nI room), .ref rR, .ref rC, .ref rV, .int (nI held), .ref rRi, .long (lN gg), .int (nI att), .int (nI prod), .ref rDr, .ref rVe, .ref rMa, .ref rRo, .int (nI rs), .ref rc, .ref rb, .ref rt, .int dg, .ref rSo, .int (nI ss)]))] (fun _ => [(h0, .inr (5, [.int (nI P), .int (nI n), .int (nI room), .ref rR, .ref rC, .ref rV, .int (nI held), .ref rRi, .long (lN gg), .int (nI att), .int (nI prod), .ref rDr, .ref rVe, .ref rMa, .ref rRo, .int (nI 0), .ref rc, .ref rb, .ref rt, .int (-1), .ref rSo, .int (nI 0)]))]) 0 0 := by
  refine kd_enterV (cc := cX5_forget) (maxL := 1) (by decide) rfl (Nat.le_of_ble_eq_true rfl) ?_
  intro p e s m args below meth c A ls Q hx hb hr hts hown hlk hnm hml hP hK hD hA hS hl ret
  have hl : lv_has ls 1 [(0, .ref h0)] := hl
  have hown : s.vm.findClass RX5 = some m.cls := hown
  have i_X5 : ∀ w ∈ wsX50, w ∈ wsX5_forget := by decide +kernel
  have fl69 := hts (.fieldLink RX5 69 "KrylovDeskModel" "solved" "Z") (by decide +kernel)
  have fl73 := hts (.fieldLink RX5 73 "KrylovDeskModel" "hasRow" "Z") (by decide +kernel)
  have fl48 := hts (.fieldLink RX5 48 "KrylovDeskModel" "degree" "I") (by decide +kernel)
  refine lv_aload_n hx hb dX5_forget_0 rfl (lv_at hl 0 rfl) ?_
  refine lv_iconst (v := (nI 0)) hx hb dX5_forget_1 (by decide) ?_
  refine va_put (D := D) (ci := 5) (v := .int (nI 0)) (ty := .boolean) (C := RX5) (T := TX5) (N := 22) hx hb hts i_X5 tyX5 tyX5_ok nmX5 hown hK hP hD hS 0 rfl rfl 21 (by decide) fl69 (fun _ h9 => h9) rfl (by decide +kernel) rfl rfl (Nat.le_of_ble_eq_true rfl) dX5_forget_2 (fun H locs hP hD hS => ?_)
  have hP : va_P D vwCl [(h0, .inr (5, [.int (nI P), .int (nI n), .int (nI room), .ref rR, .ref rC, .ref rV, .int (nI held), .ref rRi, .long (lN gg), .int (nI att), .int (nI prod), .ref rDr, .ref rVe, .ref rMa, .ref rRo, .int (nI rs), .ref rc, .ref rb, .ref rt, .int dg, .ref rSo, .int (nI 0)]))] H := hP
  have hD : va_D A [(h0, .inr (5, [.int (nI P), .int (nI n), .int (nI room), .ref rR, .ref rC, .ref rV, .int (nI held), .ref rRi, .long (lN gg), .int (nI att), .int (nI prod), .ref rDr, .ref rVe, .ref rMa, .ref rRo, .int (nI rs), .ref rc, .ref rb, .ref rt, .int dg, .ref rSo, .int (nI 0)]))] := hD
  refine lv_aload_n hx hb dX5_forget_5 rfl (lv_at hl 0 rfl) ?_
  refine lv_iconst (v := (nI 0)) hx hb dX5_forget_6 (by decide) ?_
  refine va_put (D := D) (ci := 5) (v := .int (nI 0)) (ty := .boolean) (C := RX5) (T := TX5) (N := 22) hx hb hts i_X5 tyX5 tyX5_ok nmX5 hown hK hP hD hS 0 rfl rfl 15 (by decide) fl73 (fun _ h9 => h9) rfl (by decide +kernel) rfl rfl (Nat.le_of_ble_eq_true rfl) dX5_forget_7 (fun H locs hP hD hS => ?_)
  have hP : va_P D vwCl [(h0, .inr (5, [.int (nI P), .int (nI n), .int (nI room), .ref rR, .ref rC, .ref rV, .int (nI held), .ref rRi, .long (lN gg), .int (nI att), .int (nI prod), .ref rDr, .ref rVe, .ref rMa, .ref rRo, .int (nI 0), .ref rc, .ref rb, .ref rt, .int dg, .ref rSo, .int (nI 0)]))] H := hP
  have hD : va_D A [(h0, .inr (5, [.int (nI P), .int (nI n), .int (nI room), .ref rR, .ref rC, .ref rV, .int (nI held), .ref rRi, .long (lN gg), .int (nI att), .int (nI prod), .ref rDr, .ref rVe, .ref rMa, .ref rRo, .int (nI 0), .ref rc, .ref rb, .ref rt, .int dg, .ref rSo, .int (nI 0)]))] := hD
  refine lv_aload_n hx hb dX5_forget_10 rfl (lv_at hl 0 rfl) ?_
  refine lv_iconst (v := (-1)) hx hb dX5_forget_11 (by decide) ?_
  refine va_put (D := D) (ci := 5) (v := .int (-1)) (ty := .int) (C := RX5) (T := TX5) (N := 22) hx hb hts i_X5 tyX5 tyX5_ok nmX5 hown hK hP hD hS 0 rfl rfl 19 (by decide) fl48 (fun _ h9 => h9) rfl (by decide +kernel) rfl rfl (Nat.le_of_ble_eq_true rfl) dX5_forget_12 (fun H locs hP hD hS => ?_)
  have hP : va_P D vwCl [(h0, .inr (5, [.int (nI P), .int (nI n), .int (nI room), .ref rR, .ref rC, .ref rV, .int (nI held), .ref rRi, .long (lN gg), .int (nI att), .int (nI prod), .ref rDr, .ref rVe, .ref rMa, .ref rRo, .int (nI 0), .ref rc, .ref rb, .ref rt, .int (-1), .ref rSo, .int (nI 0)]))] H := hP
  have hD : va_D A [(h0, .inr (5, [.int (nI P), .int (nI n), .int (nI room), .ref rR, .ref rC, .ref rV, .int (nI held), .ref rRi, .long (lN gg), .int (nI att), .int (nI prod), .ref rDr, .ref rVe, .ref rMa, .ref rRo, .int (nI 0), .ref rc, .ref rb, .ref rt, .int (-1), .ref rSo, .int (nI 0)]))] := hD
  exact ret () _ _ _ _ dX5_forget_15 hS (hP.sub [0] rfl) (hD.sub [0] (by decide) rfl)

set_option maxHeartbeats 4000000 in
set_option maxRecDepth 100000 in
/-- a draw -/
theorem c_X5_draw (l : Launch) (D : va_G) (cI cJ : ClassId) (h0 rR rC rV rRi rDr rVe rMa rRo rc rb rt rSo : Nat) (P n room held gg att prod rs ss : Nat) (dg : Int32) (g1 : 2 ≤ P) (g2 : P ≤ 46337) (g3 : gg < 2 ^ 31) : kd_ML (S := Unit) l yX5_draw wsX5_draw { frames := 0, cells := 0, slots := 0, locals := 0 } [.ref h0] D vwCl cI cJ [(h0, .inr (5, [.int (nI P), .int (nI n), .int (nI room), .ref rR, .ref rC, .ref rV, .int (nI held), .ref rRi, .long (lN gg), .int (nI att), .int (nI prod), .ref rDr, .ref rVe, .ref rMa, .ref rRo, .int (nI rs), .ref rc, .ref rb, .ref rt, .int dg, .ref rSo, .int (nI ss)]))] (fun _ => lN (pGen gg / 65536 % P)) (fun _ => [(h0, .inr (5, [.int (nI P), .int (nI n), .int (nI room), .ref rR, .ref rC, .ref rV, .int (nI held), .ref rRi, .long (lN (pGen gg)), .int (nI att), .int (nI prod), .ref rDr, .ref rVe, .ref rMa, .ref rRo, .int (nI rs), .ref rc, .ref rb, .ref rt, .int dg, .ref rSo, .int (nI ss)]))]) 0 0 := by
  refine kd_enterL (cc := cX5_draw) (maxL := 1) (by decide) rfl (Nat.le_of_ble_eq_true rfl) ?_
  intro p e s m args below meth c A ls Q hx hb hr hts hown hlk hnm hml hP hK hD hA hS hl ret
  have hl : lv_has ls 1 [(0, .ref h0)] := hl
  have hown : s.vm.findClass RX5 = some m.cls := hown
  have kl87 := hts (.constantLong RX5 87 (1103515245)) (by decide +kernel)
  have i_X5 : ∀ w ∈ wsX50, w ∈ wsX5_draw := by decide +kernel
  have fl23 := hts (.fieldLink RX5 23 "KrylovDeskModel" "generator" "J") (by decide +kernel)
  have kl89 := hts (.constantLong RX5 89 (12345)) (by decide +kernel)
  have kl91 := hts (.constantLong RX5 91 (2147483648)) (by decide +kernel)
  have kl93 := hts (.constantLong RX5 93 (65536)) (by decide +kernel)
  have fl60 := hts (.fieldLink RX5 60 "KrylovDeskModel" "prime" "I") (by decide +kernel)
  refine lv_aload_n hx hb dX5_draw_0 rfl (lv_at hl 0 rfl) ?_
  refine lv_ldc2 (v := lN 1103515245) hx hb hown kl87 dX5_draw_1 ?_
  refine lv_aload_n hx hb dX5_draw_4 rfl (lv_at hl 0 rfl) ?_
  refine va_get (D := D) (ci := 5) (v := .long (lN gg)) (C := RX5) (T := TX5) (N := 22) hx hb hts i_X5 hown hK hP 0 rfl rfl 8 (by decide) fl23 (fun _ h9 => h9) rfl dX5_draw_5 ?_
  refine kd_lmul hx hb dX5_draw_8 ?_
  refine lv_ldc2 (v := lN 12345) hx hb hown kl89 dX5_draw_9 ?_
  refine kd_ladd hx hb dX5_draw_12 ?_
  refine lv_ldc2 (v := lN 2147483648) hx hb hown kl91 dX5_draw_13 ?_
  refine kd_lrem hx hb (by omega) (by omega) (by omega) dX5_draw_16 ?_
  rw [show (1103515245 * gg + 12345) % 2147483648 = pGen gg from rfl]
  refine va_put (D := D) (ci := 5) (v := .long (lN (pGen gg))) (ty := .long) (C := RX5) (T := TX5) (N := 22) hx hb hts i_X5 tyX5 tyX5_ok nmX5 hown hK hP hD hS 0 rfl rfl 8 (by decide) fl23 (fun _ h9 => h9) rfl (by decide +kernel) rfl rfl (Nat.le_of_ble_eq_true rfl) dX5_draw_17 (fun H locs hP hD hS => ?_)
  have hP : va_P D vwCl [(h0, .inr (5, [.int (nI P), .int (nI n), .int (nI room), .ref rR, .ref rC, .ref rV, .int (nI held), .ref rRi, .long (lN (pGen gg)), .int (nI att), .int (nI prod), .ref rDr, .ref rVe, .ref rMa, .ref rRo, .int (nI rs), .ref rc, .ref rb, .ref rt, .int dg, .ref rSo, .int (nI ss)]))] H := hP
  have hD : va_D A [(h0, .inr (5, [.int (nI P), .int (nI n), .int (nI room), .ref rR, .ref rC, .ref rV, .int (nI held), .ref rRi, .long (lN (pGen gg)), .int (nI att), .int (nI prod), .ref rDr, .ref rVe, .ref rMa, .ref rRo, .int (nI rs), .ref rc, .ref rb, .ref rt, .int dg, .ref rSo, .int (nI ss)]))] := hD
  refine lv_aload_n hx hb dX5_draw_20 rfl (lv_at hl 0 rfl) ?_
  refine va_get (D := D) (ci := 5) (v := .long (lN (pGen gg))) (C := RX5) (T := TX5) (N := 22) hx hb hts i_X5 hown hK hP 0 rfl rfl 8 (by decide) fl23 (fun _ h9 => h9) rfl dX5_draw_21 ?_
  refine lv_ldc2 (v := lN 65536) hx hb hown kl93 dX5_draw_24 ?_
  refine kd_ldiv hx hb (by have := pGen_lt gg; omega) (kd_lne (by omega) (by omega)) (by omega) (by omega) dX5_draw_27 ?_
  refine lv_aload_n hx hb dX5_draw_28 rfl (lv_at hl 0 rfl) ?_
  refine va_get (D := D) (ci := 5) (v := .int (nI P)) (C := RX5) (T := TX5) (N := 22) hx hb hts i_X5 hown hK hP 0 rfl rfl 0 (by decide) fl60 (fun _ h9 => h9) rfl dX5_draw_29 ?_
  refine kd_i2l hx hb (by omega) dX5_draw_32 ?_
  refine kd_lrem hx hb (by have := pGen_lt gg; omega) (by omega) (by omega) dX5_draw_33 ?_
  exact ret () _ _ _ _ _ dX5_draw_34 rfl hS (hP.sub [0] rfl) (hD.sub [0] (by decide) rfl)

set_option maxHeartbeats 4000000 in
set_option maxRecDepth 100000 in
/-- a power -/
theorem c_X5_power (l : Launch) (D : va_G) (cI cJ : ClassId) (h0 rR rC rV rRi rDr rVe rMa rRo rc rb rt rSo : Nat) (P n room held gg att prod rs ss : Nat) (dg : Int32) (a0 e0 : Nat) (g1 : 2 ≤ P) (g2 : P ≤ 46337) (g3 : a0 < P) (g4 : e0 < 2 ^ 31) : kd_ML (S := Unit) l yX5_power wsX5_power { frames := 0, cells := 0, slots := 0, locals := 0 } [.ref h0, .long (lN a0), .int (nI e0)] D vwCl cI cJ [(h0, .inr (5, [.int (nI P), .int (nI n), .int (nI room), .ref rR, .ref rC, .ref rV, .int (nI held), .ref rRi, .long (lN gg), .int (nI att), .int (nI prod), .ref rDr, .ref rVe, .ref rMa, .ref rRo, .int (nI rs), .ref rc, .ref rb, .ref rt, .int dg, .ref rSo, .int (nI ss)]))] (fun _ => lN (a0 ^ e0 % P)) (fun _ => [(h0, .inr (5, [.int (nI P), .int (nI n), .int (nI room), .ref rR, .ref rC, .ref rV, .int (nI held), .ref rRi, .long (lN gg), .int (nI att), .int (nI prod), .ref rDr, .ref rVe, .ref rMa, .ref rRo, .int (nI rs), .ref rc, .ref rb, .ref rt, .int dg, .ref rSo, .int (nI ss)]))]) 0 0 := by
  refine kd_enterL (cc := cX5_power) (maxL := 7) (by decide) rfl (Nat.le_of_ble_eq_true rfl) ?_
  intro p e s m args below meth c A ls Q hx hb hr hts hown hlk hnm hml hP hK hD hA hS hl ret
  have hl : lv_has ls 7 [(0, .ref h0), (1, .long (lN a0)), (3, .int (nI e0))] := hl
  have hown : s.vm.findClass RX5 = some m.cls := hown
  have i_X5 : ∀ w ∈ wsX50, w ∈ wsX5_power := by decide +kernel
  have fl60 := hts (.fieldLink RX5 60 "KrylovDeskModel" "prime" "I") (by decide +kernel)
  refine lv_lconst (v := lN 1) hx hb dX5_power_0 (by decide) ?_
  refine lv_lstore (lv' := [(4, .long (lN 1)), (0, .ref h0), (1, .long (lN a0)), (3, .int (nI e0))]) hx hb dX5_power_1 hl (by decide) rfl (fun ls hl => ?_)
  refine lv_bipush (v := (nI 30)) hx hb dX5_power_3 (by decide) ?_
  refine lv_istore (lv' := [(6, .int (nI 30)), (4, .long (lN 1)), (0, .ref h0), (1, .long (lN a0)), (3, .int (nI e0))]) hx hb dX5_power_5 hl (by decide) rfl (fun ls hl => ?_)
  rw [pBit_30] at hl
  have lp : ∀ (k_lp : Nat) (b : Nat) (p0 : Nat) (H : Heap) (locs : List Loc) (ls : Array Slot), (b < k_lp) → (b ≤ 31) → (p0 < P) → (p0 = a0 ^ (e0 / 2 ^ b) % P) → va_P D vwCl [(h0, .inr (5, [.int (nI P), .int (nI n), .int (nI room), .ref rR, .ref rC, .ref rV, .int (nI held), .ref rRi, .long (lN gg), .int (nI att), .int (nI prod), .ref rDr, .ref rVe, .ref rMa, .ref rRo, .int (nI rs), .ref rc, .ref rb, .ref rt, .int dg, .ref rSo, .int (nI ss)]))] H → va_D A [(h0, .inr (5, [.int (nI P), .int (nI n), .int (nI room), .ref rR, .ref rC, .ref rV, .int (nI held), .ref rRi, .long (lN gg), .int (nI att), .int (nI prod), .ref rDr, .ref rVe, .ref rMa, .ref rRo, .int (nI rs), .ref rc, .ref rb, .ref rt, .int dg, .ref rSo, .int (nI ss)]))] → va_S A s.heap H locs → lv_has ls 7 [(6, .int (pBit b)), (4, .long (lN p0)), (0, .ref h0), (1, .long (lN a0)), (3, .int (nI e0))] → W p l e { frames := 0, cells := 0, slots := 0, locals := 0 } s m args below meth c H locs 0 0 Q (F0 m 7 ls []) := by
    intro k_lp
    induction k_lp with
    | zero => intro b p0 H locs ls i1 i2 i3 i4 hP hD hS hl; omega
    | succ k_lp ih_lp =>
      intro b p0 H locs ls i1 i2 i3 i4 hP hD hS hl
      refine lv_iload hx hb dX5_power_7 (lv_at hl 0 rfl) ?_
      refine lv_if_lt (tgt := 53) hx hb dX5_power_9 (by decide) (fun c_9 => ?_) (fun c_9 => ?_)
      · skip
        refine lv_lload hx hb dX5_power_53 (lv_at hl 1 rfl) ?_
        exact ret () _ _ _ _ _ dX5_power_55 (by rw [i4, pBit_0 (by omega) c_9, Nat.pow_zero, Nat.div_one]) hS (hP.sub [0] rfl) (hD.sub [0] (by decide) rfl)
      · skip
        obtain ⟨b1, rfl⟩ := pBit_1 c_9
        rw [pBit_s] at hl
        refine lv_lload hx hb dX5_power_12 (lv_at hl 1 rfl) ?_
        refine lv_lload hx hb dX5_power_14 (lv_at hl 1 rfl) ?_
        refine kd_lmul hx hb dX5_power_16 ?_
        refine lv_aload_n hx hb dX5_power_17 rfl (lv_at hl 2 rfl) ?_
        refine va_get (D := D) (ci := 5) (v := .int (nI P)) (C := RX5) (T := TX5) (N := 22) hx hb hts i_X5 hown hK hP 0 rfl rfl 0 (by decide) fl60 (fun _ h9 => h9) rfl dX5_power_18 ?_
        refine kd_i2l hx hb (by omega) dX5_power_21 ?_
        refine kd_lrem hx hb (by have := mul_small g2 i3 i3; omega) (by omega) (by omega) dX5_power_22 ?_
        refine lv_lstore (lv' := [(4, .long (lN ((p0 * p0) % P))), (6, .int (nI b1)), (0, .ref h0), (1, .long (lN a0)), (3, .int (nI e0))]) hx hb dX5_power_23 hl (by decide) rfl (fun ls hl => ?_)
        refine lv_iload_n hx hb dX5_power_25 rfl (lv_at hl 4 rfl) ?_
        refine lv_iload hx hb dX5_power_26 (lv_at hl 1 rfl) ?_
        refine lv_ishr hx hb dX5_power_28 ?_
        rw [shr_eq g4 (by omega)]
        refine lv_iconst (v := (nI 1)) hx hb dX5_power_29 (by decide) ?_
        refine lv_iand hx hb dX5_power_30 ?_
        rw [and1_eq (Nat.lt_of_le_of_lt (Nat.div_le_self _ _) g4)]
        refine lv_iconst (v := (nI 1)) hx hb dX5_power_31 (by decide) ?_
        refine kd_ne (tgt := 47) hx hb dX5_power_32 (by decide) (by omega) (by omega) (fun c_32 => ?_) (fun c_32 => ?_)
        · skip
          refine lv_iinc (v := (pBit b1)) (lv' := [(6, .int (pBit b1)), (4, .long (lN ((p0 * p0) % P))), (0, .ref h0), (1, .long (lN a0)), (3, .int (nI e0))]) hx hb dX5_power_47 hl (k := 1) rfl (pBit_m b1) (by decide) rfl (fun ls hl => ?_)
          refine lv_goto (tgt := 7) hx hb dX5_power_50 (by decide) ?_
          exact ih_lp b1 ((p0 * p0) % P) _ _ _ (by omega) (by omega) (Nat.mod_lt _ (by omega)) (pow_0 i4 c_32) (hP.sub [0] rfl) (hD.sub [0] (by decide) rfl) hS (lv_sub hl [0, 1, 2, 3, 4] rfl)
        · skip
          refine lv_lload hx hb dX5_power_35 (lv_at hl 0 rfl) ?_
          refine lv_lload_n hx hb dX5_power_37 rfl (lv_at hl 3 rfl) ?_
          refine kd_lmul hx hb dX5_power_38 ?_
          refine lv_aload_n hx hb dX5_power_39 rfl (lv_at hl 2 rfl) ?_
          refine va_get (D := D) (ci := 5) (v := .int (nI P)) (C := RX5) (T := TX5) (N := 22) hx hb hts i_X5 hown hK hP 0 rfl rfl 0 (by decide) fl60 (fun _ h9 => h9) rfl dX5_power_40 ?_
          refine kd_i2l hx hb (by omega) dX5_power_43 ?_
          refine kd_lrem hx hb (by have := mul_small g2 (Nat.mod_lt (p0 * p0) (show 0 < P by omega)) g3; omega) (by omega) (by omega) dX5_power_44 ?_
          refine lv_lstore (lv' := [(4, .long (lN ((((p0 * p0) % P) * a0) % P))), (6, .int (nI b1)), (0, .ref h0), (1, .long (lN a0)), (3, .int (nI e0))]) hx hb dX5_power_45 hl (by decide) rfl (fun ls hl => ?_)
          refine lv_iinc (v := (pBit b1)) (lv' := [(6, .int (pBit b1)), (4, .long (lN ((((p0 * p0) % P) * a0) % P))), (0, .ref h0), (1, .long (lN a0)), (3, .int (nI e0))]) hx hb dX5_power_47 hl (k := 1) rfl (pBit_m b1) (by decide) rfl (fun ls hl => ?_)
          refine lv_goto (tgt := 7) hx hb dX5_power_50 (by decide) ?_
          exact ih_lp b1 ((((p0 * p0) % P) * a0) % P) _ _ _ (by omega) (by omega) (Nat.mod_lt _ (by omega)) (pow_1 i4 c_32) (hP.sub [0] rfl) (hD.sub [0] (by decide) rfl) hS (lv_sub hl [0, 1, 2, 3, 4] rfl)
  exact lp 32 31 1 _ _ _ (by omega) (by omega) (by omega) (by rw [Nat.div_eq_of_lt (by omega), Nat.pow_zero, Nat.mod_eq_of_lt (by omega)]) (hP.sub [0] rfl) (hD.sub [0] (by decide) rfl) hS (lv_sub hl [0, 1, 2, 3, 4] rfl)

set_option maxHeartbeats 4000000 in
set_option maxRecDepth 100000 in
/-- to the power P - 2 -/
theorem c_X5_inverse (l : Launch) (D : va_G) (cI cJ : ClassId) (h0 rR rC rV rRi rDr rVe rMa rRo rc rb rt rSo : Nat) (P n room held gg att prod rs ss : Nat) (dg : Int32) (a0 : Nat) (g1 : 2 ≤ P) (g2 : P ≤ 46337) (g3 : a0 < P) : kd_ML (S := Unit) l yX5_inverse wsX5_inverse { frames := 1, cells := 0, slots := 0, locals := 26 } [.ref h0, .long (lN a0)] D vwCl cI cJ [(h0, .inr (5, [.int (nI P), .int (nI n), .int (nI room), .ref rR, .ref rC, .ref rV, .int (nI held), .ref rRi, .long (lN gg), .int (nI att), .int (nI prod), .ref rDr, .ref rVe, .ref rMa, .ref rRo, .int (nI rs), .ref rc, .ref rb, .ref rt, .int dg, .ref rSo, .int (nI ss)]))] (fun _ => lN (pInv P a0)) (fun _ => [(h0, .inr (5, [.int (nI P), .int (nI n), .int (nI room), .ref rR, .ref rC, .ref rV, .int (nI held), .ref rRi, .long (lN gg), .int (nI att), .int (nI prod), .ref rDr, .ref rVe, .ref rMa, .ref rRo, .int (nI rs), .ref rc, .ref rb, .ref rt, .int dg, .ref rSo, .int (nI ss)]))]) 0 0 := by
  refine kd_enterL (cc := cX5_inverse) (maxL := 3) (by decide) rfl (Nat.le_of_ble_eq_true rfl) ?_
  intro p e s m args below meth c A ls Q hx hb hr hts hown hlk hnm hml hP hK hD hA hS hl ret
  have hl : lv_has ls 3 [(0, .ref h0), (1, .long (lN a0))] := hl
  have hown : s.vm.findClass RX5 = some m.cls := hown
  have i_X5 : ∀ w ∈ wsX50, w ∈ wsX5_inverse := by decide +kernel
  have fl60 := hts (.fieldLink RX5 60 "KrylovDeskModel" "prime" "I") (by decide +kernel)
  refine lv_aload_n hx hb dX5_inverse_0 rfl (lv_at hl 0 rfl) ?_
  refine lv_lload_n hx hb dX5_inverse_1 rfl (lv_at hl 1 rfl) ?_
  refine lv_aload_n hx hb dX5_inverse_2 rfl (lv_at hl 0 rfl) ?_
  refine va_get (D := D) (ci := 5) (v := .int (nI P)) (C := RX5) (T := TX5) (N := 22) hx hb hts i_X5 hown hK hP 0 rfl rfl 0 (by decide) fl60 (fun _ h9 => h9) rfl dX5_inverse_3 ?_
  refine lv_iconst (v := (nI 2)) hx hb dX5_inverse_6 (by decide) ?_
  refine kd_sub hx hb (by omega) dX5_inverse_7 ?_
  refine kd_VL (As := [.long (lN a0), .int (nI (P - 2))]) (rest := []) (Wr := []) ⟨hx, hb, hml, hown, hts⟩ (c_X5_power l D cI cJ h0 rR rC rV rRi rDr rVe rMa rRo rc rb rt rSo P n room held gg att prod rs ss dg a0 (P - 2) g1 g2 g3 (by omega)) (cwV 2 hts gX5_inverse_X5_power rfl rfl rfl (by decide +kernel) ⟨Nat.le_of_ble_eq_true rfl, Nat.le_of_ble_eq_true rfl⟩) hK hP hD hS hA [0] [] rfl rfl (by decide) (by decide) 0 rfl rfl rfl rfl hl.1 (Nat.le_of_ble_eq_true rfl) dX5_inverse_8 ⟨Nat.le_of_ble_eq_true rfl, Nat.le_of_ble_eq_true rfl⟩ (fun _ H locs hP hD hS => ?_)
  have hP : va_P D vwCl [(h0, .inr (5, [.int (nI P), .int (nI n), .int (nI room), .ref rR, .ref rC, .ref rV, .int (nI held), .ref rRi, .long (lN gg), .int (nI att), .int (nI prod), .ref rDr, .ref rVe, .ref rMa, .ref rRo, .int (nI rs), .ref rc, .ref rb, .ref rt, .int dg, .ref rSo, .int (nI ss)]))] H := hP
  have hD : va_D A [(h0, .inr (5, [.int (nI P), .int (nI n), .int (nI room), .ref rR, .ref rC, .ref rV, .int (nI held), .ref rRi, .long (lN gg), .int (nI att), .int (nI prod), .ref rDr, .ref rVe, .ref rMa, .ref rRo, .int (nI rs), .ref rc, .ref rb, .ref rt, .int dg, .ref rSo, .int (nI ss)]))] := hD
  exact ret () _ _ _ _ _ dX5_inverse_11 rfl hS (hP.sub [0] rfl) (hD.sub [0] (by decide) rfl)

set_option maxHeartbeats 4000000 in
set_option maxRecDepth 100000 in
/-- a product -/
theorem c_X5_product (l : Launch) (D : va_G) (cI cJ : ClassId) (h0 rR rC rV rRi rDr rVe rMa rRo rc rb rt rSo : Nat) (P n room held gg att prod rs ss : Nat) (dg : Int32) (rows cols vals ve x ma : Nat → Nat) (g1 : 2 ≤ P) (g2 : P ≤ 46337) (g4 : n ≤ 16) (g5 : room ≤ 100) (g6 : held ≤ room) (g7 : ∀ i, i < held → rows i < n) (g8 : ∀ i, i < held → cols i < n) (g9 : ∀ i, i < held → vals i < P) (g10 : ∀ j, j < n → ve j < P) : kd_MV (S := Nat → Nat) l yX5_product wsX5_product { frames := 0, cells := 0, slots := 0, locals := 0 } [.ref h0] D vwCl cI cJ [(h0, .inr (5, [.int (nI P), .int (nI n), .int (nI room), .ref rR, .ref rC, .ref rV, .int (nI held), .ref rRi, .long (lN gg), .int (nI att), .int (nI prod), .ref rDr, .ref rVe, .ref rMa, .ref rRo, .int (nI rs), .ref rc, .ref rb, .ref rt, .int dg, .ref rSo, .int (nI ss)])), (rR, kd_ar cI 100 rows), (rC, kd_ar cI 100 cols), (rV, kd_al cJ 100 vals), (rVe, kd_al cJ 16 (pMix n ve x)), (rMa, kd_al cJ 16 ma)] (fun u9 => [(h0, .inr (5, [.int (nI P), .int (nI n), .int (nI room), .ref rR, .ref rC, .ref rV, .int (nI held), .ref rRi, .long (lN gg), .int (nI att), .int (nI (prod + 1)), .ref rDr, .ref rVe, .ref rMa, .ref rRo, .int (nI rs), .ref rc, .ref rb, .ref rt, .int dg, .ref rSo, .int (nI ss)])), (rR, kd_ar cI 100 rows), (rC, kd_ar cI 100 cols), (rV, kd_al cJ 100 vals), (rVe, kd_al cJ 16 (pMix n (pAcc P rows cols vals ve held) x)), (rMa, kd_al cJ 16 u9)]) 0 0 := by
  refine kd_enterV (cc := cX5_product) (maxL := 2) (by decide) rfl (Nat.le_of_ble_eq_true rfl) ?_
  intro p e s m args below meth c A ls Q hx hb hr hts hown hlk hnm hml hP hK hD hA hS hl ret
  have hl : lv_has ls 2 [(0, .ref h0)] := hl
  have hown : s.vm.findClass RX5 = some m.cls := hown
  have i_X5 : ∀ w ∈ wsX50, w ∈ wsX5_product := by decide +kernel
  have fl95 := hts (.fieldLink RX5 95 "KrylovDeskModel" "products" "I") (by decide +kernel)
  have fl63 := hts (.fieldLink RX5 63 "KrylovDeskModel" "n" "I") (by decide +kernel)
  have fl76 := hts (.fieldLink RX5 76 "KrylovDeskModel" "entries" "I") (by decide +kernel)
  have fl30 := hts (.fieldLink RX5 30 "KrylovDeskModel" "vector" "[J") (by decide +kernel)
  have fl33 := hts (.fieldLink RX5 33 "KrylovDeskModel" "made" "[J") (by decide +kernel)
  have fl7 := hts (.fieldLink RX5 7 "KrylovDeskModel" "rows" "[I") (by decide +kernel)
  have fl16 := hts (.fieldLink RX5 16 "KrylovDeskModel" "values" "[J") (by decide +kernel)
  have fl13 := hts (.fieldLink RX5 13 "KrylovDeskModel" "columns" "[I") (by decide +kernel)
  have fl60 := hts (.fieldLink RX5 60 "KrylovDeskModel" "prime" "I") (by decide +kernel)
  refine lv_aload_n hx hb dX5_product_0 rfl (lv_at hl 0 rfl) ?_
  refine lv_dup hx hb dX5_product_1 rfl ?_
  refine va_get (D := D) (ci := 5) (v := .int (nI prod)) (C := RX5) (T := TX5) (N := 22) hx hb hts i_X5 hown hK hP 0 rfl rfl 10 (by decide) fl95 (fun _ h9 => h9) rfl dX5_product_2 ?_
  refine lv_iconst (v := (nI 1)) hx hb dX5_product_5 (by decide) ?_
  refine kd_add hx hb dX5_product_6 ?_
  refine va_put (D := D) (ci := 5) (v := .int (nI (prod + 1))) (ty := .int) (C := RX5) (T := TX5) (N := 22) hx hb hts i_X5 tyX5 tyX5_ok nmX5 hown hK hP hD hS 0 rfl rfl 10 (by decide) fl95 (fun _ h9 => h9) rfl (by decide +kernel) rfl rfl (Nat.le_of_ble_eq_true rfl) dX5_product_7 (fun H locs hP hD hS => ?_)
  have hP : va_P D vwCl [(h0, .inr (5, [.int (nI P), .int (nI n), .int (nI room), .ref rR, .ref rC, .ref rV, .int (nI held), .ref rRi, .long (lN gg), .int (nI att), .int (nI (prod + 1)), .ref rDr, .ref rVe, .ref rMa, .ref rRo, .int (nI rs), .ref rc, .ref rb, .ref rt, .int dg, .ref rSo, .int (nI ss)])), (rR, kd_ar cI 100 rows), (rC, kd_ar cI 100 cols), (rV, kd_al cJ 100 vals), (rVe, kd_al cJ 16 (pMix n ve x)), (rMa, kd_al cJ 16 ma)] H := hP
  have hD : va_D A [(h0, .inr (5, [.int (nI P), .int (nI n), .int (nI room), .ref rR, .ref rC, .ref rV, .int (nI held), .ref rRi, .long (lN gg), .int (nI att), .int (nI (prod + 1)), .ref rDr, .ref rVe, .ref rMa, .ref rRo, .int (nI rs), .ref rc, .ref rb, .ref rt, .int dg, .ref rSo, .int (nI ss)])), (rR, kd_ar cI 100 rows), (rC, kd_ar cI 100 cols), (rV, kd_al cJ 100 vals), (rVe, kd_al cJ 16 (pMix n ve x)), (rMa, kd_al cJ 16 ma)] := hD
  refine lv_iconst (v := (nI 0)) hx hb dX5_product_10 (by decide) ?_
  refine lv_istore_n (lv' := [(1, .int (nI 0)), (0, .ref h0)]) hx hb dX5_product_11 rfl hl (by decide) rfl (fun ls hl => ?_)
  have lp : ∀ (k_lp : Nat) (i : Nat) (y : Nat → Nat) (H : Heap) (locs : List Loc) (ls : Array Slot), (n - i < k_lp) → (i ≤ n) → (∀ j, j < i → y j = 0) → va_P D vwCl [(h0, .inr (5, [.int (nI P), .int (nI n), .int (nI room), .ref rR, .ref rC, .ref rV, .int (nI held), .ref rRi, .long (lN gg), .int (nI att), .int (nI (prod + 1)), .ref rDr, .ref rVe, .ref rMa, .ref rRo, .int (nI rs), .ref rc, .ref rb, .ref rt, .int dg, .ref rSo, .int (nI ss)])), (rR, kd_ar cI 100 rows), (rC, kd_ar cI 100 cols), (rV, kd_al cJ 100 vals), (rVe, kd_al cJ 16 (pMix n ve x)), (rMa, kd_al cJ 16 y)] H → va_D A [(h0, .inr (5, [.int (nI P), .int (nI n), .int (nI room), .ref rR, .ref rC, .ref rV, .int (nI held), .ref rRi, .long (lN gg), .int (nI att), .int (nI (prod + 1)), .ref rDr, .ref rVe, .ref rMa, .ref rRo, .int (nI rs), .ref rc, .ref rb, .ref rt, .int dg, .ref rSo, .int (nI ss)])), (rR, kd_ar cI 100 rows), (rC, kd_ar cI 100 cols), (rV, kd_al cJ 100 vals), (rVe, kd_al cJ 16 (pMix n ve x)), (rMa, kd_al cJ 16 y)] → va_S A s.heap H locs → lv_has ls 2 [(1, .int (nI i)), (0, .ref h0)] → W p l e { frames := 0, cells := 0, slots := 0, locals := 0 } s m args below meth c H locs 0 0 Q (F0 m 12 ls []) := by
    intro k_lp
    induction k_lp with
    | zero => intro i y H locs ls i1 i2 i3 hP hD hS hl; omega
    | succ k_lp ih_lp =>
      intro i y H locs ls i1 i2 i3 hP hD hS hl
      refine lv_iload_n hx hb dX5_product_12 rfl (lv_at hl 0 rfl) ?_
      refine lv_aload_n hx hb dX5_product_13 rfl (lv_at hl 1 rfl) ?_
      refine va_get (D := D) (ci := 5) (v := .int (nI n)) (C := RX5) (T := TX5) (N := 22) hx hb hts i_X5 hown hK hP 0 rfl rfl 1 (by decide) fl63 (fun _ h9 => h9) rfl dX5_product_14 ?_
      refine kd_ge (tgt := 33) hx hb dX5_product_17 (by decide) (by omega) (by omega) (fun c_17 => ?_) (fun c_17 => ?_)
      · skip
        refine lv_iconst (v := (nI 0)) hx hb dX5_product_33 (by decide) ?_
        refine lv_istore_n (lv' := [(1, .int (nI 0)), (0, .ref h0)]) hx hb dX5_product_34 rfl hl (by decide) rfl (fun ls hl => ?_)
        obtain ⟨hP, hD⟩ := kd_swapL (g := (pMix n (pAcc P rows cols vals ve 0) y)) hP hD 5 rfl (fun j hj => pMix_of (f := (pAcc P rows cols vals ve 0)) (fun j hj => i3 j (by omega)) j)
        have hP : va_P D vwCl [(h0, .inr (5, [.int (nI P), .int (nI n), .int (nI room), .ref rR, .ref rC, .ref rV, .int (nI held), .ref rRi, .long (lN gg), .int (nI att), .int (nI (prod + 1)), .ref rDr, .ref rVe, .ref rMa, .ref rRo, .int (nI rs), .ref rc, .ref rb, .ref rt, .int dg, .ref rSo, .int (nI ss)])), (rR, kd_ar cI 100 rows), (rC, kd_ar cI 100 cols), (rV, kd_al cJ 100 vals), (rVe, kd_al cJ 16 (pMix n ve x)), (rMa, kd_al cJ 16 (pMix n (pAcc P rows cols vals ve 0) y))] H := hP
        have hD : va_D A [(h0, .inr (5, [.int (nI P), .int (nI n), .int (nI room), .ref rR, .ref rC, .ref rV, .int (nI held), .ref rRi, .long (lN gg), .int (nI att), .int (nI (prod + 1)), .ref rDr, .ref rVe, .ref rMa, .ref rRo, .int (nI rs), .ref rc, .ref rb, .ref rt, .int dg, .ref rSo, .int (nI ss)])), (rR, kd_ar cI 100 rows), (rC, kd_ar cI 100 cols), (rV, kd_al cJ 100 vals), (rVe, kd_al cJ 16 (pMix n ve x)), (rMa, kd_al cJ 16 (pMix n (pAcc P rows cols vals ve 0) y))] := hD
        have lq : ∀ (k_lq : Nat) (i : Nat) (H : Heap) (locs : List Loc) (ls : Array Slot), (held - i < k_lq) → (i ≤ held) → va_P D vwCl [(h0, .inr (5, [.int (nI P), .int (nI n), .int (nI room), .ref rR, .ref rC, .ref rV, .int (nI held), .ref rRi, .long (lN gg), .int (nI att), .int (nI (prod + 1)), .ref rDr, .ref rVe, .ref rMa, .ref rRo, .int (nI rs), .ref rc, .ref rb, .ref rt, .int dg, .ref rSo, .int (nI ss)])), (rR, kd_ar cI 100 rows), (rC, kd_ar cI 100 cols), (rV, kd_al cJ 100 vals), (rVe, kd_al cJ 16 (pMix n ve x)), (rMa, kd_al cJ 16 (pMix n (pAcc P rows cols vals ve i) y))] H → va_D A [(h0, .inr (5, [.int (nI P), .int (nI n), .int (nI room), .ref rR, .ref rC, .ref rV, .int (nI held), .ref rRi, .long (lN gg), .int (nI att), .int (nI (prod + 1)), .ref rDr, .ref rVe, .ref rMa, .ref rRo, .int (nI rs), .ref rc, .ref rb, .ref rt, .int dg, .ref rSo, .int (nI ss)])), (rR, kd_ar cI 100 rows), (rC, kd_ar cI 100 cols), (rV, kd_al cJ 100 vals), (rVe, kd_al cJ 16 (pMix n ve x)), (rMa, kd_al cJ 16 (pMix n (pAcc P rows cols vals ve i) y))] → va_S A s.heap H locs → lv_has ls 2 [(1, .int (nI i)), (0, .ref h0)] → W p l e { frames := 0, cells := 0, slots := 0, locals := 0 } s m args below meth c H locs 0 0 Q (F0 m 35 ls []) := by
          intro k_lq
          induction k_lq with
          | zero => intro i H locs ls j1 j2 hP hD hS hl; omega
          | succ k_lq ih_lq =>
            intro i H locs ls j1 j2 hP hD hS hl
            refine lv_iload_n hx hb dX5_product_35 rfl (lv_at hl 0 rfl) ?_
            refine lv_aload_n hx hb dX5_product_36 rfl (lv_at hl 1 rfl) ?_
            refine va_get (D := D) (ci := 5) (v := .int (nI held)) (C := RX5) (T := TX5) (N := 22) hx hb hts i_X5 hown hK hP 0 rfl rfl 6 (by decide) fl76 (fun _ h9 => h9) rfl dX5_product_37 ?_
            refine kd_ge (tgt := 96) hx hb dX5_product_40 (by decide) (by omega) (by omega) (fun c_40 => ?_) (fun c_40 => ?_)
            · skip
              refine lv_iconst (v := (nI 0)) hx hb dX5_product_96 (by decide) ?_
              refine lv_istore_n (lv' := [(1, .int (nI 0)), (0, .ref h0)]) hx hb dX5_product_97 rfl hl (by decide) rfl (fun ls hl => ?_)
              have e9 : i = held := by omega
              rw [e9] at hP hD
              have lr : ∀ (k_lr : Nat) (i : Nat) (v : Nat → Nat) (H : Heap) (locs : List Loc) (ls : Array Slot), (n - i < k_lr) → (i ≤ n) → (∀ j, v j = if j < i then (pAcc P rows cols vals ve held) j else pMix n ve x j) → va_P D vwCl [(h0, .inr (5, [.int (nI P), .int (nI n), .int (nI room), .ref rR, .ref rC, .ref rV, .int (nI held), .ref rRi, .long (lN gg), .int (nI att), .int (nI (prod + 1)), .ref rDr, .ref rVe, .ref rMa, .ref rRo, .int (nI rs), .ref rc, .ref rb, .ref rt, .int dg, .ref rSo, .int (nI ss)])), (rR, kd_ar cI 100 rows), (rC, kd_ar cI 100 cols), (rV, kd_al cJ 100 vals), (rVe, kd_al cJ 16 v), (rMa, kd_al cJ 16 (pMix n (pAcc P rows cols vals ve held) y))] H → va_D A [(h0, .inr (5, [.int (nI P), .int (nI n), .int (nI room), .ref rR, .ref rC, .ref rV, .int (nI held), .ref rRi, .long (lN gg), .int (nI att), .int (nI (prod + 1)), .ref rDr, .ref rVe, .ref rMa, .ref rRo, .int (nI rs), .ref rc, .ref rb, .ref rt, .int dg, .ref rSo, .int (nI ss)])), (rR, kd_ar cI 100 rows), (rC, kd_ar cI 100 cols), (rV, kd_al cJ 100 vals), (rVe, kd_al cJ 16 v), (rMa, kd_al cJ 16 (pMix n (pAcc P rows cols vals ve held) y))] → va_S A s.heap H locs → lv_has ls 2 [(1, .int (nI i)), (0, .ref h0)] → W p l e { frames := 0, cells := 0, slots := 0, locals := 0 } s m args below meth c H locs 0 0 Q (F0 m 98 ls []) := by
                intro k_lr
                induction k_lr with
                | zero => intro i v H locs ls k1 k2 k3 hP hD hS hl; omega
                | succ k_lr ih_lr =>
                  intro i v H locs ls k1 k2 k3 hP hD hS hl
                  refine lv_iload_n hx hb dX5_product_98 rfl (lv_at hl 0 rfl) ?_
                  refine lv_aload_n hx hb dX5_product_99 rfl (lv_at hl 1 rfl) ?_
                  refine va_get (D := D) (ci := 5) (v := .int (nI n)) (C := RX5) (T := TX5) (N := 22) hx hb hts i_X5 hown hK hP 0 rfl rfl 1 (by decide) fl63 (fun _ h9 => h9) rfl dX5_product_100 ?_
                  refine kd_ge (tgt := 124) hx hb dX5_product_103 (by decide) (by omega) (by omega) (fun c_103 => ?_) (fun c_103 => ?_)
                  · skip
                    obtain ⟨hP, hD⟩ := kd_swapL (g := (pMix n (pAcc P rows cols vals ve held) x)) hP hD 4 rfl (fun j hj => mix_end k3 (by omega))
                    have hP : va_P D vwCl [(h0, .inr (5, [.int (nI P), .int (nI n), .int (nI room), .ref rR, .ref rC, .ref rV, .int (nI held), .ref rRi, .long (lN gg), .int (nI att), .int (nI (prod + 1)), .ref rDr, .ref rVe, .ref rMa, .ref rRo, .int (nI rs), .ref rc, .ref rb, .ref rt, .int dg, .ref rSo, .int (nI ss)])), (rR, kd_ar cI 100 rows), (rC, kd_ar cI 100 cols), (rV, kd_al cJ 100 vals), (rVe, kd_al cJ 16 (pMix n (pAcc P rows cols vals ve held) x)), (rMa, kd_al cJ 16 (pMix n (pAcc P rows cols vals ve held) y))] H := hP
                    have hD : va_D A [(h0, .inr (5, [.int (nI P), .int (nI n), .int (nI room), .ref rR, .ref rC, .ref rV, .int (nI held), .ref rRi, .long (lN gg), .int (nI att), .int (nI (prod + 1)), .ref rDr, .ref rVe, .ref rMa, .ref rRo, .int (nI rs), .ref rc, .ref rb, .ref rt, .int dg, .ref rSo, .int (nI ss)])), (rR, kd_ar cI 100 rows), (rC, kd_ar cI 100 cols), (rV, kd_al cJ 100 vals), (rVe, kd_al cJ 16 (pMix n (pAcc P rows cols vals ve held) x)), (rMa, kd_al cJ 16 (pMix n (pAcc P rows cols vals ve held) y))] := hD
                    exact ret (pMix n (pAcc P rows cols vals ve held) y) _ _ _ _ dX5_product_124 hS (hP.sub [0, 1, 2, 3, 4, 5] rfl) (hD.sub [0, 1, 2, 3, 4, 5] (by decide) rfl)
                  · skip
                    refine lv_aload_n hx hb dX5_product_106 rfl (lv_at hl 1 rfl) ?_
                    refine va_get (D := D) (ci := 5) (v := .ref rVe) (C := RX5) (T := TX5) (N := 22) hx hb hts i_X5 hown hK hP 0 rfl rfl 12 (by decide) fl30 (fun _ h9 => h9) rfl dX5_product_107 ?_
                    refine lv_iload_n hx hb dX5_product_110 rfl (lv_at hl 0 rfl) ?_
                    refine lv_aload_n hx hb dX5_product_111 rfl (lv_at hl 1 rfl) ?_
                    refine va_get (D := D) (ci := 5) (v := .ref rMa) (C := RX5) (T := TX5) (N := 22) hx hb hts i_X5 hown hK hP 0 rfl rfl 13 (by decide) fl33 (fun _ h9 => h9) rfl dX5_product_112 ?_
                    refine lv_iload_n hx hb dX5_product_115 rfl (lv_at hl 0 rfl) ?_
                    refine kd_lald hx hb hK hP 5 rfl i (by omega) (by omega) dX5_product_116 ?_
                    rw [pMix_lt (show i < n by omega)]
                    refine kd_last hx hb hK hP hD hS 4 rfl i (by omega) (by omega) dX5_product_117 (fun H locs hP hD hS => ?_)
                    have hP : va_P D vwCl [(h0, .inr (5, [.int (nI P), .int (nI n), .int (nI room), .ref rR, .ref rC, .ref rV, .int (nI held), .ref rRi, .long (lN gg), .int (nI att), .int (nI (prod + 1)), .ref rDr, .ref rVe, .ref rMa, .ref rRo, .int (nI rs), .ref rc, .ref rb, .ref rt, .int dg, .ref rSo, .int (nI ss)])), (rR, kd_ar cI 100 rows), (rC, kd_ar cI 100 cols), (rV, kd_al cJ 100 vals), (rVe, kd_al cJ 16 (va_up v i ((pAcc P rows cols vals ve held) i))), (rMa, kd_al cJ 16 (pMix n (pAcc P rows cols vals ve held) y))] H := hP
                    have hD : va_D A [(h0, .inr (5, [.int (nI P), .int (nI n), .int (nI room), .ref rR, .ref rC, .ref rV, .int (nI held), .ref rRi, .long (lN gg), .int (nI att), .int (nI (prod + 1)), .ref rDr, .ref rVe, .ref rMa, .ref rRo, .int (nI rs), .ref rc, .ref rb, .ref rt, .int dg, .ref rSo, .int (nI ss)])), (rR, kd_ar cI 100 rows), (rC, kd_ar cI 100 cols), (rV, kd_al cJ 100 vals), (rVe, kd_al cJ 16 (va_up v i ((pAcc P rows cols vals ve held) i))), (rMa, kd_al cJ 16 (pMix n (pAcc P rows cols vals ve held) y))] := hD
                    refine lv_iinc (v := (nI (i + 1))) (lv' := [(1, .int (nI (i + 1))), (0, .ref h0)]) hx hb dX5_product_118 hl (k := 0) rfl (nI_1 _) (by decide) rfl (fun ls hl => ?_)
                    refine lv_goto (tgt := 98) hx hb dX5_product_121 (by decide) ?_
                    exact ih_lr (i + 1) (va_up v i ((pAcc P rows cols vals ve held) i)) _ _ _ (by omega) (by omega) (fun j => lt_upg (y := (pAcc P rows cols vals ve held)) k3 j) (hP.sub [0, 1, 2, 3, 4, 5] rfl) (hD.sub [0, 1, 2, 3, 4, 5] (by decide) rfl) hS (lv_sub hl [0, 1] rfl)
              exact lr (n + 1) 0 (pMix n ve x) _ _ _ (by omega) (by omega) (fun j => by rw [if_neg (by omega)]) (hP.sub [0, 1, 2, 3, 4, 5] rfl) (hD.sub [0, 1, 2, 3, 4, 5] (by decide) rfl) hS (lv_sub hl [0, 1] rfl)
            · skip
              refine lv_aload_n hx hb dX5_product_43 rfl (lv_at hl 1 rfl) ?_
              refine va_get (D := D) (ci := 5) (v := .ref rMa) (C := RX5) (T := TX5) (N := 22) hx hb hts i_X5 hown hK hP 0 rfl rfl 13 (by decide) fl33 (fun _ h9 => h9) rfl dX5_product_44 ?_
              refine lv_aload_n hx hb dX5_product_47 rfl (lv_at hl 1 rfl) ?_
              refine va_get (D := D) (ci := 5) (v := .ref rR) (C := RX5) (T := TX5) (N := 22) hx hb hts i_X5 hown hK hP 0 rfl rfl 3 (by decide) fl7 (fun _ h9 => h9) rfl dX5_product_48 ?_
              refine lv_iload_n hx hb dX5_product_51 rfl (lv_at hl 0 rfl) ?_
              refine kd_ald hx hb hK hP 1 rfl i (by omega) (by omega) dX5_product_52 ?_
              refine lv_aload_n hx hb dX5_product_53 rfl (lv_at hl 1 rfl) ?_
              refine va_get (D := D) (ci := 5) (v := .ref rMa) (C := RX5) (T := TX5) (N := 22) hx hb hts i_X5 hown hK hP 0 rfl rfl 13 (by decide) fl33 (fun _ h9 => h9) rfl dX5_product_54 ?_
              refine lv_aload_n hx hb dX5_product_57 rfl (lv_at hl 1 rfl) ?_
              refine va_get (D := D) (ci := 5) (v := .ref rR) (C := RX5) (T := TX5) (N := 22) hx hb hts i_X5 hown hK hP 0 rfl rfl 3 (by decide) fl7 (fun _ h9 => h9) rfl dX5_product_58 ?_
              refine lv_iload_n hx hb dX5_product_61 rfl (lv_at hl 0 rfl) ?_
              refine kd_ald hx hb hK hP 1 rfl i (by omega) (by omega) dX5_product_62 ?_
              refine kd_lald hx hb hK hP 5 rfl (rows i) (by have := g7 i (by omega); omega) (by omega) dX5_product_63 ?_
              rw [pMix_lt (g7 i (by omega))]
              refine lv_aload_n hx hb dX5_product_64 rfl (lv_at hl 1 rfl) ?_
              refine va_get (D := D) (ci := 5) (v := .ref rV) (C := RX5) (T := TX5) (N := 22) hx hb hts i_X5 hown hK hP 0 rfl rfl 5 (by decide) fl16 (fun _ h9 => h9) rfl dX5_product_65 ?_
              refine lv_iload_n hx hb dX5_product_68 rfl (lv_at hl 0 rfl) ?_
              refine kd_lald hx hb hK hP 3 rfl i (by omega) (by omega) dX5_product_69 ?_
              refine lv_aload_n hx hb dX5_product_70 rfl (lv_at hl 1 rfl) ?_
              refine va_get (D := D) (ci := 5) (v := .ref rVe) (C := RX5) (T := TX5) (N := 22) hx hb hts i_X5 hown hK hP 0 rfl rfl 12 (by decide) fl30 (fun _ h9 => h9) rfl dX5_product_71 ?_
              refine lv_aload_n hx hb dX5_product_74 rfl (lv_at hl 1 rfl) ?_
              refine va_get (D := D) (ci := 5) (v := .ref rC) (C := RX5) (T := TX5) (N := 22) hx hb hts i_X5 hown hK hP 0 rfl rfl 4 (by decide) fl13 (fun _ h9 => h9) rfl dX5_product_75 ?_
              refine lv_iload_n hx hb dX5_product_78 rfl (lv_at hl 0 rfl) ?_
              refine kd_ald hx hb hK hP 2 rfl i (by omega) (by omega) dX5_product_79 ?_
              refine kd_lald hx hb hK hP 4 rfl (cols i) (by have := g8 i (by omega); omega) (by omega) dX5_product_80 ?_
              rw [pMix_lt (g8 i (by omega))]
              refine kd_lmul hx hb dX5_product_81 ?_
              refine kd_ladd hx hb dX5_product_82 ?_
              refine lv_aload_n hx hb dX5_product_83 rfl (lv_at hl 1 rfl) ?_
              refine va_get (D := D) (ci := 5) (v := .int (nI P)) (C := RX5) (T := TX5) (N := 22) hx hb hts i_X5 hown hK hP 0 rfl rfl 0 (by decide) fl60 (fun _ h9 => h9) rfl dX5_product_84 ?_
              refine kd_i2l hx hb (by omega) dX5_product_87 ?_
              refine kd_lrem hx hb (by have := mul_small g2 (g9 i (by omega)) (g10 _ (g8 i (by omega))); have := pAcc_lt (P := P) (by omega) rows cols vals ve i (rows i); omega) (by omega) (by omega) dX5_product_88 ?_
              refine kd_last hx hb hK hP hD hS 5 rfl (rows i) (by have := g7 i (by omega); omega) (by omega) dX5_product_89 (fun H locs hP hD hS => ?_)
              have hP : va_P D vwCl [(h0, .inr (5, [.int (nI P), .int (nI n), .int (nI room), .ref rR, .ref rC, .ref rV, .int (nI held), .ref rRi, .long (lN gg), .int (nI att), .int (nI (prod + 1)), .ref rDr, .ref rVe, .ref rMa, .ref rRo, .int (nI rs), .ref rc, .ref rb, .ref rt, .int dg, .ref rSo, .int (nI ss)])), (rR, kd_ar cI 100 rows), (rC, kd_ar cI 100 cols), (rV, kd_al cJ 100 vals), (rVe, kd_al cJ 16 (pMix n ve x)), (rMa, kd_al cJ 16 (va_up (pMix n (pAcc P rows cols vals ve i) y) (rows i) (((pAcc P rows cols vals ve i (rows i)) + ((vals i) * (ve (cols i)))) % P)))] H := hP
              have hD : va_D A [(h0, .inr (5, [.int (nI P), .int (nI n), .int (nI room), .ref rR, .ref rC, .ref rV, .int (nI held), .ref rRi, .long (lN gg), .int (nI att), .int (nI (prod + 1)), .ref rDr, .ref rVe, .ref rMa, .ref rRo, .int (nI rs), .ref rc, .ref rb, .ref rt, .int dg, .ref rSo, .int (nI ss)])), (rR, kd_ar cI 100 rows), (rC, kd_ar cI 100 cols), (rV, kd_al cJ 100 vals), (rVe, kd_al cJ 16 (pMix n ve x)), (rMa, kd_al cJ 16 (va_up (pMix n (pAcc P rows cols vals ve i) y) (rows i) (((pAcc P rows cols vals ve i (rows i)) + ((vals i) * (ve (cols i)))) % P)))] := hD
              obtain ⟨hP, hD⟩ := kd_swapL (g := (pMix n (pAcc P rows cols vals ve (i + 1)) y)) hP hD 5 rfl (fun j hj => pMix_up (g7 i (by omega)) j)
              have hP : va_P D vwCl [(h0, .inr (5, [.int (nI P), .int (nI n), .int (nI room), .ref rR, .ref rC, .ref rV, .int (nI held), .ref rRi, .long (lN gg), .int (nI att), .int (nI (prod + 1)), .ref rDr, .ref rVe, .ref rMa, .ref rRo, .int (nI rs), .ref rc, .ref rb, .ref rt, .int dg, .ref rSo, .int (nI ss)])), (rR, kd_ar cI 100 rows), (rC, kd_ar cI 100 cols), (rV, kd_al cJ 100 vals), (rVe, kd_al cJ 16 (pMix n ve x)), (rMa, kd_al cJ 16 (pMix n (pAcc P rows cols vals ve (i + 1)) y))] H := hP
              have hD : va_D A [(h0, .inr (5, [.int (nI P), .int (nI n), .int (nI room), .ref rR, .ref rC, .ref rV, .int (nI held), .ref rRi, .long (lN gg), .int (nI att), .int (nI (prod + 1)), .ref rDr, .ref rVe, .ref rMa, .ref rRo, .int (nI rs), .ref rc, .ref rb, .ref rt, .int dg, .ref rSo, .int (nI ss)])), (rR, kd_ar cI 100 rows), (rC, kd_ar cI 100 cols), (rV, kd_al cJ 100 vals), (rVe, kd_al cJ 16 (pMix n ve x)), (rMa, kd_al cJ 16 (pMix n (pAcc P rows cols vals ve (i + 1)) y))] := hD
              refine lv_iinc (v := (nI (i + 1))) (lv' := [(1, .int (nI (i + 1))), (0, .ref h0)]) hx hb dX5_product_90 hl (k := 0) rfl (nI_1 _) (by decide) rfl (fun ls hl => ?_)
              refine lv_goto (tgt := 35) hx hb dX5_product_93 (by decide) ?_
              exact ih_lq (i + 1) _ _ _ (by omega) (by omega) (hP.sub [0, 1, 2, 3, 4, 5] rfl) (hD.sub [0, 1, 2, 3, 4, 5] (by decide) rfl) hS (lv_sub hl [0, 1] rfl)
        exact lq (held + 1) 0 _ _ _ (by omega) (by omega) (hP.sub [0, 1, 2, 3, 4, 5] rfl) (hD.sub [0, 1, 2, 3, 4, 5] (by decide) rfl) hS (lv_sub hl [0, 1] rfl)
      · skip
        refine lv_aload_n hx hb dX5_product_20 rfl (lv_at hl 1 rfl) ?_
        refine va_get (D := D) (ci := 5) (v := .ref rMa) (C := RX5) (T := TX5) (N := 22) hx hb hts i_X5 hown hK hP 0 rfl rfl 13 (by decide) fl33 (fun _ h9 => h9) rfl dX5_product_21 ?_
        refine lv_iload_n hx hb dX5_product_24 rfl (lv_at hl 0 rfl) ?_
        refine lv_lconst (v := lN 0) hx hb dX5_product_25 (by decide) ?_
        refine kd_last hx hb hK hP hD hS 5 rfl i (by omega) (by omega) dX5_product_26 (fun H locs hP hD hS => ?_)
        have hP : va_P D vwCl [(h0, .inr (5, [.int (nI P), .int (nI n), .int (nI room), .ref rR, .ref rC, .ref rV, .int (nI held), .ref rRi, .long (lN gg), .int (nI att), .int (nI (prod + 1)), .ref rDr, .ref rVe, .ref rMa, .ref rRo, .int (nI rs), .ref rc, .ref rb, .ref rt, .int dg, .ref rSo, .int (nI ss)])), (rR, kd_ar cI 100 rows), (rC, kd_ar cI 100 cols), (rV, kd_al cJ 100 vals), (rVe, kd_al cJ 16 (pMix n ve x)), (rMa, kd_al cJ 16 (va_up y i 0))] H := hP
        have hD : va_D A [(h0, .inr (5, [.int (nI P), .int (nI n), .int (nI room), .ref rR, .ref rC, .ref rV, .int (nI held), .ref rRi, .long (lN gg), .int (nI att), .int (nI (prod + 1)), .ref rDr, .ref rVe, .ref rMa, .ref rRo, .int (nI rs), .ref rc, .ref rb, .ref rt, .int dg, .ref rSo, .int (nI ss)])), (rR, kd_ar cI 100 rows), (rC, kd_ar cI 100 cols), (rV, kd_al cJ 100 vals), (rVe, kd_al cJ 16 (pMix n ve x)), (rMa, kd_al cJ 16 (va_up y i 0))] := hD
        refine lv_iinc (v := (nI (i + 1))) (lv' := [(1, .int (nI (i + 1))), (0, .ref h0)]) hx hb dX5_product_27 hl (k := 0) rfl (nI_1 _) (by decide) rfl (fun ls hl => ?_)
        refine lv_goto (tgt := 12) hx hb dX5_product_30 (by decide) ?_
        exact ih_lp (i + 1) (va_up y i 0) _ _ _ (by omega) (by omega) (lt_up i3) (hP.sub [0, 1, 2, 3, 4, 5] rfl) (hD.sub [0, 1, 2, 3, 4, 5] (by decide) rfl) hS (lv_sub hl [0, 1] rfl)
  exact lp (n + 1) 0 ma _ _ _ (by omega) (by omega) (fun j hj => by omega) (hP.sub [0, 1, 2, 3, 4, 5] rfl) (hD.sub [0, 1, 2, 3, 4, 5] (by decide) rfl) hS (lv_sub hl [0, 1] rfl)
end
