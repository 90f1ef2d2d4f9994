-- ===== PART A: goes FIRST, ahead of the names: the tables' words, and 'selects' of the private methods out of them =====
/-- a private method of a class that the tables say can be made, by its rows of tables_1 -/
def lw_okq (q : MethodName × Nat) : Prop := (q.1.cls ≠ "java/lang/invoke/MethodHandle" ∧ q.1.cls ≠ "java/lang/invoke/VarHandle") ∧ Cond.instantiable q.1.cls q.2 ∈ tables_1 ∧ Cond.privateMethod q.1 ∈ tables_1 ∧ Cond.instanceMethod q.1 ∈ tables_1
theorem lw_p0 : lw_okq (⟨"SelfIndexedSequences", "draftHasEnd", "()Z"⟩, 7) := ⟨⟨by decide +kernel, by decide +kernel⟩, List.mem_of_getElem? (i := 11) (by decide +kernel), List.mem_of_getElem? (i := 153) (by decide +kernel), List.mem_of_getElem? (i := 154) (by decide +kernel)⟩
theorem lw_p1 : lw_okq (⟨"SelfIndexedSequences$Image", "putBefore", "(II)I"⟩, 6) := ⟨⟨by decide +kernel, by decide +kernel⟩, List.mem_of_getElem? (i := 19) (by decide +kernel), List.mem_of_getElem? (i := 161) (by decide +kernel), List.mem_of_getElem? (i := 162) (by decide +kernel)⟩
theorem lw_p2 : lw_okq (⟨"SelfIndexedSequences$Image", "lesserThan", "(I)I"⟩, 6) := ⟨⟨by decide +kernel, by decide +kernel⟩, List.mem_of_getElem? (i := 19) (by decide +kernel), List.mem_of_getElem? (i := 165) (by decide +kernel), List.mem_of_getElem? (i := 166) (by decide +kernel)⟩
theorem lw_p3 : lw_okq (⟨"SelfIndexedSequences$Image", "link", "()V"⟩, 6) := ⟨⟨by decide +kernel, by decide +kernel⟩, List.mem_of_getElem? (i := 19) (by decide +kernel), List.mem_of_getElem? (i := 176) (by decide +kernel), List.mem_of_getElem? (i := 177) (by decide +kernel)⟩
theorem lw_p4 : lw_okq (⟨"SelfIndexedSequences", "takeTried", "()V"⟩, 7) := ⟨⟨by decide +kernel, by decide +kernel⟩, List.mem_of_getElem? (i := 11) (by decide +kernel), List.mem_of_getElem? (i := 180) (by decide +kernel), List.mem_of_getElem? (i := 181) (by decide +kernel)⟩
theorem lw_p5 : lw_okq (⟨"SelfIndexedSequences$Places", "findStarts", "(LSelfIndexedSequences$Image;)V"⟩, 6) := ⟨⟨by decide +kernel, by decide +kernel⟩, List.mem_of_getElem? (i := 84) (by decide +kernel), List.mem_of_getElem? (i := 188) (by decide +kernel), List.mem_of_getElem? (i := 189) (by decide +kernel)⟩
theorem lw_p6 : lw_okq (⟨"SelfIndexedSequences", "hasRow", "(I)Z"⟩, 7) := ⟨⟨by decide +kernel, by decide +kernel⟩, List.mem_of_getElem? (i := 11) (by decide +kernel), List.mem_of_getElem? (i := 227) (by decide +kernel), List.mem_of_getElem? (i := 228) (by decide +kernel)⟩
theorem lw_p7 : lw_okq (⟨"SelfIndexedSequences", "findExact", "()V"⟩, 7) := ⟨⟨by decide +kernel, by decide +kernel⟩, List.mem_of_getElem? (i := 11) (by decide +kernel), List.mem_of_getElem? (i := 277) (by decide +kernel), List.mem_of_getElem? (i := 278) (by decide +kernel)⟩
theorem lw_p8 : lw_okq (⟨"SelfIndexedSequences", "findAlike", "()V"⟩, 7) := ⟨⟨by decide +kernel, by decide +kernel⟩, List.mem_of_getElem? (i := 11) (by decide +kernel), List.mem_of_getElem? (i := 303) (by decide +kernel), List.mem_of_getElem? (i := 304) (by decide +kernel)⟩
theorem lw_p9 : lw_okq (⟨"SelfIndexedSequencesModel", "sort", "()V"⟩, 13) := ⟨⟨by decide +kernel, by decide +kernel⟩, List.mem_of_getElem? (i := 334) (by decide +kernel), List.mem_of_getElem? (i := 403) (by decide +kernel), List.mem_of_getElem? (i := 404) (by decide +kernel)⟩
theorem lw_p10 : lw_okq (⟨"SelfIndexedSequencesModel", "before", "(II)Z"⟩, 13) := ⟨⟨by decide +kernel, by decide +kernel⟩, List.mem_of_getElem? (i := 334) (by decide +kernel), List.mem_of_getElem? (i := 407) (by decide +kernel), List.mem_of_getElem? (i := 408) (by decide +kernel)⟩
theorem lw_p11 : lw_okq (⟨"SelfIndexedSequencesModel", "symbolAt", "(I)I"⟩, 13) := ⟨⟨by decide +kernel, by decide +kernel⟩, List.mem_of_getElem? (i := 334) (by decide +kernel), List.mem_of_getElem? (i := 411) (by decide +kernel), List.mem_of_getElem? (i := 412) (by decide +kernel)⟩
theorem lw_p12 : lw_okq (⟨"SelfIndexedSequencesModel", "guess", "()Z"⟩, 13) := ⟨⟨by decide +kernel, by decide +kernel⟩, List.mem_of_getElem? (i := 334) (by decide +kernel), List.mem_of_getElem? (i := 426) (by decide +kernel), List.mem_of_getElem? (i := 427) (by decide +kernel)⟩
theorem lw_p13 : lw_okq (⟨"SelfIndexedSequencesModel", "follow", "(I)I"⟩, 13) := ⟨⟨by decide +kernel, by decide +kernel⟩, List.mem_of_getElem? (i := 334) (by decide +kernel), List.mem_of_getElem? (i := 430) (by decide +kernel), List.mem_of_getElem? (i := 431) (by decide +kernel)⟩
theorem lw_p14 : lw_okq (⟨"SelfIndexedSequencesModel", "beginning", "(I)I"⟩, 13) := ⟨⟨by decide +kernel, by decide +kernel⟩, List.mem_of_getElem? (i := 334) (by decide +kernel), List.mem_of_getElem? (i := 459) (by decide +kernel), List.mem_of_getElem? (i := 460) (by decide +kernel)⟩
theorem lw_p15 : lw_okq (⟨"SelfIndexedSequencesModel", "end", "(I)I"⟩, 13) := ⟨⟨by decide +kernel, by decide +kernel⟩, List.mem_of_getElem? (i := 334) (by decide +kernel), List.mem_of_getElem? (i := 463) (by decide +kernel), List.mem_of_getElem? (i := 464) (by decide +kernel)⟩
def lw_privs_1 : List (MethodName × Nat) := [(⟨"SelfIndexedSequences", "draftHasEnd", "()Z"⟩, 7), (⟨"SelfIndexedSequences$Image", "putBefore", "(II)I"⟩, 6), (⟨"SelfIndexedSequences$Image", "lesserThan", "(I)I"⟩, 6), (⟨"SelfIndexedSequences$Image", "link", "()V"⟩, 6), (⟨"SelfIndexedSequences", "takeTried", "()V"⟩, 7), (⟨"SelfIndexedSequences$Places", "findStarts", "(LSelfIndexedSequences$Image;)V"⟩, 6), (⟨"SelfIndexedSequences", "hasRow", "(I)Z"⟩, 7), (⟨"SelfIndexedSequences", "findExact", "()V"⟩, 7), (⟨"SelfIndexedSequences", "findAlike", "()V"⟩, 7), (⟨"SelfIndexedSequencesModel", "sort", "()V"⟩, 13), (⟨"SelfIndexedSequencesModel", "before", "(II)Z"⟩, 13), (⟨"SelfIndexedSequencesModel", "symbolAt", "(I)I"⟩, 13), (⟨"SelfIndexedSequencesModel", "guess", "()Z"⟩, 13), (⟨"SelfIndexedSequencesModel", "follow", "(I)I"⟩, 13), (⟨"SelfIndexedSequencesModel", "beginning", "(I)I"⟩, 13), (⟨"SelfIndexedSequencesModel", "end", "(I)I"⟩, 13)]
theorem lw_r1 : ∀ q ∈ lw_privs_1, lw_okq q := List.forall_mem_cons.mpr ⟨lw_p0, List.forall_mem_cons.mpr ⟨lw_p1, List.forall_mem_cons.mpr ⟨lw_p2, List.forall_mem_cons.mpr ⟨lw_p3, List.forall_mem_cons.mpr ⟨lw_p4, List.forall_mem_cons.mpr ⟨lw_p5, List.forall_mem_cons.mpr ⟨lw_p6, List.forall_mem_cons.mpr ⟨lw_p7, List.forall_mem_cons.mpr ⟨lw_p8, List.forall_mem_cons.mpr ⟨lw_p9, List.forall_mem_cons.mpr ⟨lw_p10, List.forall_mem_cons.mpr ⟨lw_p11, List.forall_mem_cons.mpr ⟨lw_p12, List.forall_mem_cons.mpr ⟨lw_p13, List.forall_mem_cons.mpr ⟨lw_p14, List.forall_mem_cons.mpr ⟨lw_p15, fun _ h => absurd h List.not_mem_nil⟩⟩⟩⟩⟩⟩⟩⟩⟩⟩⟩⟩⟩⟩⟩⟩
theorem lw_p16 : lw_okq (⟨"SelfIndexedSequencesModel", "read", "(J)Z"⟩, 13) := ⟨⟨by decide +kernel, by decide +kernel⟩, List.mem_of_getElem? (i := 334) (by decide +kernel), List.mem_of_getElem? (i := 476) (by decide +kernel), List.mem_of_getElem? (i := 477) (by decide +kernel)⟩
theorem lw_p17 : lw_okq (⟨"SelfIndexedSequencesModel", "search", "(I)I"⟩, 13) := ⟨⟨by decide +kernel, by decide +kernel⟩, List.mem_of_getElem? (i := 334) (by decide +kernel), List.mem_of_getElem? (i := 480) (by decide +kernel), List.mem_of_getElem? (i := 481) (by decide +kernel)⟩
theorem lw_p18 : lw_okq (⟨"SelfIndexedSequencesModel", "occurs", "(I)Z"⟩, 13) := ⟨⟨by decide +kernel, by decide +kernel⟩, List.mem_of_getElem? (i := 334) (by decide +kernel), List.mem_of_getElem? (i := 484) (by decide +kernel), List.mem_of_getElem? (i := 485) (by decide +kernel)⟩
theorem lw_p19 : lw_okq (⟨"SelfIndexedSequencesModel", "look", "(II)I"⟩, 13) := ⟨⟨by decide +kernel, by decide +kernel⟩, List.mem_of_getElem? (i := 334) (by decide +kernel), List.mem_of_getElem? (i := 496) (by decide +kernel), List.mem_of_getElem? (i := 497) (by decide +kernel)⟩
theorem lw_p20 : lw_okq (⟨"SelfIndexedSequencesModel", "measure", "(II)V"⟩, 13) := ⟨⟨by decide +kernel, by decide +kernel⟩, List.mem_of_getElem? (i := 334) (by decide +kernel), List.mem_of_getElem? (i := 500) (by decide +kernel), List.mem_of_getElem? (i := 501) (by decide +kernel)⟩
theorem lw_p21 : lw_okq (⟨"SelfIndexedSequencesModel", "letter", "(I)V"⟩, 13) := ⟨⟨by decide +kernel, by decide +kernel⟩, List.mem_of_getElem? (i := 334) (by decide +kernel), List.mem_of_getElem? (i := 504) (by decide +kernel), List.mem_of_getElem? (i := 505) (by decide +kernel)⟩
def lw_privs_2 : List (MethodName × Nat) := [(⟨"SelfIndexedSequencesModel", "read", "(J)Z"⟩, 13), (⟨"SelfIndexedSequencesModel", "search", "(I)I"⟩, 13), (⟨"SelfIndexedSequencesModel", "occurs", "(I)Z"⟩, 13), (⟨"SelfIndexedSequencesModel", "look", "(II)I"⟩, 13), (⟨"SelfIndexedSequencesModel", "measure", "(II)V"⟩, 13), (⟨"SelfIndexedSequencesModel", "letter", "(I)V"⟩, 13)]
theorem lw_r2 : ∀ q ∈ lw_privs_2, lw_okq q := List.forall_mem_cons.mpr ⟨lw_p16, List.forall_mem_cons.mpr ⟨lw_p17, List.forall_mem_cons.mpr ⟨lw_p18, List.forall_mem_cons.mpr ⟨lw_p19, List.forall_mem_cons.mpr ⟨lw_p20, List.forall_mem_cons.mpr ⟨lw_p21, fun _ h => absurd h List.not_mem_nil⟩⟩⟩⟩⟩⟩
def lw_privs : List (MethodName × Nat) := lw_privs_1 ++ (lw_privs_2)
def lw_tbl : List Cond := k2_sels lw_privs ++ tables_1
theorem lw_privs_ok : ∀ q ∈ lw_privs, lw_okq q := by
  show ∀ q ∈ lw_privs_1 ++ (lw_privs_2), lw_okq q
  exact List.forall_mem_append.mpr ⟨lw_r1, lw_r2⟩
def R_Fi : String := "SelfIndexedSequences$Finds"
def F_Fi : u_T := fun k => match k with
  | 0 => ("SelfIndexedSequences$Finds", "errors", "[I", true)
  | _ => ("SelfIndexedSequences$Finds", "size", "I", false)
def t_Fi : Nat → FieldType := fun k => match k with
  | 0 => .array .int
  | _ => .int
theorem nm_Fi : ∀ a, a < 2 → ∀ b, b < 2 → a ≠ b → (F_Fi a).2.1 ≠ (F_Fi b).2.1 := by decide +kernel
theorem tk_Fi : ∀ k, k < 2 → parseFieldDescriptor (F_Fi k).2.2.1 = some (t_Fi k) := by decide +kernel
def R_Im : String := "SelfIndexedSequences$Image"
def F_Im : u_T := fun k => match k with
  | 0 => ("SelfIndexedSequences$Image", "symbols", "[I", true)
  | 1 => ("SelfIndexedSequences$Image", "size", "I", false)
  | 2 => ("SelfIndexedSequences$Image", "firsts", "[I", true)
  | 3 => ("SelfIndexedSequences$Image", "back", "[I", true)
  | 4 => ("SelfIndexedSequences$Image", "low", "I", false)
  | _ => ("SelfIndexedSequences$Image", "high", "I", false)
def t_Im : Nat → FieldType := fun k => match k with
  | 0 => .array .int
  | 1 => .int
  | 2 => .array .int
  | 3 => .array .int
  | 4 => .int
  | _ => .int
theorem nm_Im : ∀ a, a < 6 → ∀ b, b < 6 → a ≠ b → (F_Im a).2.1 ≠ (F_Im b).2.1 := by decide +kernel
theorem tk_Im : ∀ k, k < 6 → parseFieldDescriptor (F_Im k).2.2.1 = some (t_Im k) := by decide +kernel
def R_Pa : String := "SelfIndexedSequences$Pattern"
def F_Pa : u_T := fun k => match k with
  | 0 => ("SelfIndexedSequences$Pattern", "letters", "[I", true)
  | 1 => ("SelfIndexedSequences$Pattern", "size", "I", false)
  | _ => ("SelfIndexedSequences$Pattern", "distances", "[I", true)
def t_Pa : Nat → FieldType := fun k => match k with
  | 0 => .array .int
  | 1 => .int
  | _ => .array .int
theorem nm_Pa : ∀ a, a < 3 → ∀ b, b < 3 → a ≠ b → (F_Pa a).2.1 ≠ (F_Pa b).2.1 := by decide +kernel
theorem tk_Pa : ∀ k, k < 3 → parseFieldDescriptor (F_Pa k).2.2.1 = some (t_Pa k) := by decide +kernel
def R_Pl : String := "SelfIndexedSequences$Places"
def F_Pl : u_T := fun k => match k with
  | 0 => ("SelfIndexedSequences$Places", "step", "I", true)
  | 1 => ("SelfIndexedSequences$Places", "ahead", "[I", true)
  | 2 => ("SelfIndexedSequences$Places", "kept", "[I", true)
  | 3 => ("SelfIndexedSequences$Places", "keptRows", "[I", true)
  | 4 => ("SelfIndexedSequences$Places", "starts", "[I", true)
  | _ => ("SelfIndexedSequences$Places", "sequences", "I", false)
def t_Pl : Nat → FieldType := fun k => match k with
  | 0 => .int
  | 1 => .array .int
  | 2 => .array .int
  | 3 => .array .int
  | 4 => .array .int
  | _ => .int
theorem nm_Pl : ∀ a, a < 6 → ∀ b, b < 6 → a ≠ b → (F_Pl a).2.1 ≠ (F_Pl b).2.1 := by decide +kernel
theorem tk_Pl : ∀ k, k < 6 → parseFieldDescriptor (F_Pl k).2.2.1 = some (t_Pl k) := by decide +kernel
def R_Si : String := "SelfIndexedSequences"
def F_Si : u_T := fun k => match k with
  | 0 => ("SelfIndexedSequences", "draft", "[I", true)
  | 1 => ("SelfIndexedSequences", "drafted", "I", false)
  | 2 => ("SelfIndexedSequences", "taken", "LSelfIndexedSequences$Image;", false)
  | 3 => ("SelfIndexedSequences", "tried", "LSelfIndexedSequences$Image;", false)
  | 4 => ("SelfIndexedSequences", "places", "LSelfIndexedSequences$Places;", true)
  | 5 => ("SelfIndexedSequences", "sought", "LSelfIndexedSequences$Pattern;", true)
  | _ => ("SelfIndexedSequences", "finds", "LSelfIndexedSequences$Finds;", true)
def t_Si : Nat → FieldType := fun k => match k with
  | 0 => .array .int
  | 1 => .int
  | 2 => .object "SelfIndexedSequences$Image"
  | 3 => .object "SelfIndexedSequences$Image"
  | 4 => .object "SelfIndexedSequences$Places"
  | 5 => .object "SelfIndexedSequences$Pattern"
  | _ => .object "SelfIndexedSequences$Finds"
theorem nm_Si : ∀ a, a < 7 → ∀ b, b < 7 → a ≠ b → (F_Si a).2.1 ≠ (F_Si b).2.1 := by decide +kernel
theorem tk_Si : ∀ k, k < 7 → parseFieldDescriptor (F_Si k).2.2.1 = some (t_Si k) := by decide +kernel
def R_Mo : String := "SelfIndexedSequencesModel"
def F_Mo : u_T := fun k => match k with
  | 0 => ("SelfIndexedSequencesModel", "step", "I", true)
  | 1 => ("SelfIndexedSequencesModel", "drafted", "I", false)
  | 2 => ("SelfIndexedSequencesModel", "draft", "[I", true)
  | 3 => ("SelfIndexedSequencesModel", "n", "I", false)
  | 4 => ("SelfIndexedSequencesModel", "text", "[I", true)
  | 5 => ("SelfIndexedSequencesModel", "order", "[I", true)
  | 6 => ("SelfIndexedSequencesModel", "image", "[I", true)
  | 7 => ("SelfIndexedSequencesModel", "used", "[Z", true)
  | 8 => ("SelfIndexedSequencesModel", "old", "[I", true)
  | 9 => ("SelfIndexedSequencesModel", "letters", "[I", true)
  | 10 => ("SelfIndexedSequencesModel", "many", "I", false)
  | 11 => ("SelfIndexedSequencesModel", "row", "[I", true)
  | _ => ("SelfIndexedSequencesModel", "least", "[I", true)
def t_Mo : Nat → FieldType := fun k => match k with
  | 0 => .int
  | 1 => .int
  | 2 => .array .int
  | 3 => .int
  | 4 => .array .int
  | 5 => .array .int
  | 6 => .array .int
  | 7 => .array .boolean
  | 8 => .array .int
  | 9 => .array .int
  | 10 => .int
  | 11 => .array .int
  | _ => .array .int
theorem nm_Mo : ∀ a, a < 13 → ∀ b, b < 13 → a ≠ b → (F_Mo a).2.1 ≠ (F_Mo b).2.1 := by decide +kernel
theorem tk_Mo : ∀ k, k < 13 → parseFieldDescriptor (F_Mo k).2.2.1 = some (t_Mo k) := by decide +kernel
def R_La : String := "SelfIndexedSequencesLaw"
abbrev cls_ : List vw_C := [(R_Fi, F_Fi, 2), (R_Im, F_Im, 6), (R_Pa, F_Pa, 3), (R_Pl, F_Pl, 6), (R_Si, F_Si, 7), (R_Mo, F_Mo, 13)]
def y_Si_init : MethodName := ⟨"SelfIndexedSequences", "<init>", "(I)V"⟩
def y_Im_init : MethodName := ⟨"SelfIndexedSequences$Image", "<init>", "()V"⟩
def y_Pa_init : MethodName := ⟨"SelfIndexedSequences$Pattern", "<init>", "()V"⟩
def y_Fi_init : MethodName := ⟨"SelfIndexedSequences$Finds", "<init>", "()V"⟩
def y_Pl_init : MethodName := ⟨"SelfIndexedSequences$Places", "<init>", "(I)V"⟩
def y_Si_put : MethodName := ⟨"SelfIndexedSequences", "put", "(J)Z"⟩
def y_Si_codeAt : MethodName := ⟨"SelfIndexedSequences", "codeAt", "(JI)I"⟩
def y_Si_symbolOf : MethodName := ⟨"SelfIndexedSequences", "symbolOf", "(I)I"⟩
def y_Si_scrap : MethodName := ⟨"SelfIndexedSequences", "scrap", "()V"⟩
def y_Si_build : MethodName := ⟨"SelfIndexedSequences", "build", "()I"⟩
def y_Si_draftHasEnd : MethodName := ⟨"SelfIndexedSequences", "draftHasEnd", "()Z"⟩
def y_Im_makeFromText : MethodName := ⟨"SelfIndexedSequences$Image", "makeFromText", "([II)V"⟩
def y_Im_putBefore : MethodName := ⟨"SelfIndexedSequences$Image", "putBefore", "(II)I"⟩
def y_Im_lesserThan : MethodName := ⟨"SelfIndexedSequences$Image", "lesserThan", "(I)I"⟩
def y_Im_among : MethodName := ⟨"SelfIndexedSequences$Image", "among", "(II)I"⟩
def y_Im_link : MethodName := ⟨"SelfIndexedSequences$Image", "link", "()V"⟩
def y_Si_takeTried : MethodName := ⟨"SelfIndexedSequences", "takeTried", "()V"⟩
def y_Pl_readFrom : MethodName := ⟨"SelfIndexedSequences$Places", "readFrom", "(LSelfIndexedSequences$Image;)V"⟩
def y_Pl_findStarts : MethodName := ⟨"SelfIndexedSequences$Places", "findStarts", "(LSelfIndexedSequences$Image;)V"⟩
def y_Si_load : MethodName := ⟨"SelfIndexedSequences", "load", "()Z"⟩
def y_Im_copyFrom : MethodName := ⟨"SelfIndexedSequences$Image", "copyFrom", "([II)V"⟩
def y_Im_isOfText : MethodName := ⟨"SelfIndexedSequences$Image", "isOfText", "()Z"⟩
def y_Si_size : MethodName := ⟨"SelfIndexedSequences", "size", "()I"⟩
def y_Si_image : MethodName := ⟨"SelfIndexedSequences", "image", "(I)J"⟩
def y_Si_codeInByte : MethodName := ⟨"SelfIndexedSequences", "codeInByte", "(II)J"⟩
def y_Si_codeOf : MethodName := ⟨"SelfIndexedSequences", "codeOf", "(I)I"⟩
def y_Si_rank : MethodName := ⟨"SelfIndexedSequences", "rank", "(II)I"⟩
def y_Si_suffix : MethodName := ⟨"SelfIndexedSequences", "suffix", "(I)I"⟩
def y_Si_hasRow : MethodName := ⟨"SelfIndexedSequences", "hasRow", "(I)Z"⟩
def y_Pl_ofRow : MethodName := ⟨"SelfIndexedSequences$Places", "ofRow", "(LSelfIndexedSequences$Image;I)I"⟩
def y_Si_walk : MethodName := ⟨"SelfIndexedSequences", "walk", "(I)I"⟩
def y_Si_sequences : MethodName := ⟨"SelfIndexedSequences", "sequences", "()I"⟩
def y_Si_length : MethodName := ⟨"SelfIndexedSequences", "length", "(I)I"⟩
def y_Pl_lettersOf : MethodName := ⟨"SelfIndexedSequences$Places", "lettersOf", "(I)I"⟩
def y_Si_extract : MethodName := ⟨"SelfIndexedSequences", "extract", "(II)J"⟩
def y_Pl_rowOf : MethodName := ⟨"SelfIndexedSequences$Places", "rowOf", "(I)I"⟩
def y_Si_count : MethodName := ⟨"SelfIndexedSequences", "count", "(J)I"⟩
def y_Pa_read : MethodName := ⟨"SelfIndexedSequences$Pattern", "read", "(J)Z"⟩
def y_Im_search : MethodName := ⟨"SelfIndexedSequences$Image", "search", "(LSelfIndexedSequences$Pattern;)V"⟩
def y_Si_place : MethodName := ⟨"SelfIndexedSequences", "place", "(JI)I"⟩
def y_Si_findExact : MethodName := ⟨"SelfIndexedSequences", "findExact", "()V"⟩
def y_Fi_clear : MethodName := ⟨"SelfIndexedSequences$Finds", "clear", "(I)V"⟩
def y_Ar_fill : MethodName := ⟨"java/util/Arrays", "fill", "([II)V"⟩
def y_Fi_numbered : MethodName := ⟨"SelfIndexedSequences$Finds", "numbered", "(II)I"⟩
def y_Pl_sequenceAt : MethodName := ⟨"SelfIndexedSequences$Places", "sequenceAt", "(I)I"⟩
def y_Si_matches : MethodName := ⟨"SelfIndexedSequences", "matches", "(JI)I"⟩
def y_Si_mayErr : MethodName := ⟨"SelfIndexedSequences", "mayErr", "(I)Z"⟩
def y_Si_findAlike : MethodName := ⟨"SelfIndexedSequences", "findAlike", "()V"⟩
def y_Pa_restart : MethodName := ⟨"SelfIndexedSequences$Pattern", "restart", "()V"⟩
def y_Pa_goOver : MethodName := ⟨"SelfIndexedSequences$Pattern", "goOver", "(I)V"⟩
def y_Pa_distance : MethodName := ⟨"SelfIndexedSequences$Pattern", "distance", "()I"⟩
def y_Fi_within : MethodName := ⟨"SelfIndexedSequences$Finds", "within", "(I)I"⟩
def y_Si_match : MethodName := ⟨"SelfIndexedSequences", "match", "(JII)I"⟩
def y_La_cell : MethodName := ⟨"SelfIndexedSequencesLaw", "cell", "([II)I"⟩
def y_Mo_init : MethodName := ⟨"SelfIndexedSequencesModel", "<init>", "(I)V"⟩
def y_Mo_put : MethodName := ⟨"SelfIndexedSequencesModel", "put", "(J)Z"⟩
def y_Mo_byteOf : MethodName := ⟨"SelfIndexedSequencesModel", "byteOf", "(JI)I"⟩
def y_Mo_isSymbol : MethodName := ⟨"SelfIndexedSequencesModel", "isSymbol", "(I)Z"⟩
def y_Mo_isLetter : MethodName := ⟨"SelfIndexedSequencesModel", "isLetter", "(I)Z"⟩
def y_Mo_scrap : MethodName := ⟨"SelfIndexedSequencesModel", "scrap", "()V"⟩
def y_Mo_build : MethodName := ⟨"SelfIndexedSequencesModel", "build", "()I"⟩
def y_Mo_sort : MethodName := ⟨"SelfIndexedSequencesModel", "sort", "()V"⟩
def y_Mo_before : MethodName := ⟨"SelfIndexedSequencesModel", "before", "(II)Z"⟩
def y_Mo_symbolAt : MethodName := ⟨"SelfIndexedSequencesModel", "symbolAt", "(I)I"⟩
def y_Mo_worth : MethodName := ⟨"SelfIndexedSequencesModel", "worth", "(I)I"⟩
def y_Mo_sequences : MethodName := ⟨"SelfIndexedSequencesModel", "sequences", "()I"⟩
def y_Mo_load : MethodName := ⟨"SelfIndexedSequencesModel", "load", "()Z"⟩
def y_Mo_guess : MethodName := ⟨"SelfIndexedSequencesModel", "guess", "()Z"⟩
def y_Mo_follow : MethodName := ⟨"SelfIndexedSequencesModel", "follow", "(I)I"⟩
def y_Mo_size : MethodName := ⟨"SelfIndexedSequencesModel", "size", "()I"⟩
def y_Mo_image : MethodName := ⟨"SelfIndexedSequencesModel", "image", "(I)J"⟩
def y_Mo_rank : MethodName := ⟨"SelfIndexedSequencesModel", "rank", "(II)I"⟩
def y_Mo_suffix : MethodName := ⟨"SelfIndexedSequencesModel", "suffix", "(I)I"⟩
def y_Mo_walk : MethodName := ⟨"SelfIndexedSequencesModel", "walk", "(I)I"⟩
def y_Mo_length : MethodName := ⟨"SelfIndexedSequencesModel", "length", "(I)I"⟩
def y_Mo_beginning : MethodName := ⟨"SelfIndexedSequencesModel", "beginning", "(I)I"⟩
def y_Mo_end : MethodName := ⟨"SelfIndexedSequencesModel", "end", "(I)I"⟩
def y_Mo_extract : MethodName := ⟨"SelfIndexedSequencesModel", "extract", "(II)J"⟩
def y_Mo_count : MethodName := ⟨"SelfIndexedSequencesModel", "count", "(J)I"⟩
def y_Mo_read : MethodName := ⟨"SelfIndexedSequencesModel", "read", "(J)Z"⟩
def y_Mo_search : MethodName := ⟨"SelfIndexedSequencesModel", "search", "(I)I"⟩
def y_Mo_occurs : MethodName := ⟨"SelfIndexedSequencesModel", "occurs", "(I)Z"⟩
def y_Mo_place : MethodName := ⟨"SelfIndexedSequencesModel", "place", "(JI)I"⟩
def y_Mo_matches : MethodName := ⟨"SelfIndexedSequencesModel", "matches", "(JI)I"⟩
def y_Mo_look : MethodName := ⟨"SelfIndexedSequencesModel", "look", "(II)I"⟩
def y_Mo_measure : MethodName := ⟨"SelfIndexedSequencesModel", "measure", "(II)V"⟩
def y_Mo_letter : MethodName := ⟨"SelfIndexedSequencesModel", "letter", "(I)V"⟩
def y_Mo_match : MethodName := ⟨"SelfIndexedSequencesModel", "match", "(JII)I"⟩
def y_La_law : MethodName := ⟨"SelfIndexedSequencesLaw", "law", "([I)Z"⟩
/-- all words that hold at every method's start -/
def W0 : List Cond := lw_tbl.filter goodWord
theorem W0_in : ∀ w ∈ W0, w ∈ lw_tbl := fun w h => (List.mem_filter.mp h).1
theorem W0_good {c d : Cond} (h : d ∈ W0) : GoodIn (c :: W0) (d :: W0) := fun w hw => (List.mem_cons.mp hw).elim (fun e => e ▸ ⟨List.mem_cons_of_mem _ h, good_of_word (List.mem_filter.mp h).2⟩) (fun hw => ⟨List.mem_cons_of_mem _ hw, good_of_word (List.mem_filter.mp hw).2⟩)
theorem tw_0 : Cond.selects "SelfIndexedSequences" (y_Si_draftHasEnd) (y_Si_draftHasEnd) ∈ W0 := List.mem_filter.mpr ⟨List.mem_of_getElem? (i := 0) (by decide +kernel), rfl⟩
theorem tw_1 : Cond.selects "SelfIndexedSequences$Image" (y_Im_putBefore) (y_Im_putBefore) ∈ W0 := List.mem_filter.mpr ⟨List.mem_of_getElem? (i := 1) (by decide +kernel), rfl⟩
theorem tw_2 : Cond.selects "SelfIndexedSequences$Image" (y_Im_lesserThan) (y_Im_lesserThan) ∈ W0 := List.mem_filter.mpr ⟨List.mem_of_getElem? (i := 2) (by decide +kernel), rfl⟩
theorem tw_3 : Cond.selects "SelfIndexedSequences$Image" (y_Im_link) (y_Im_link) ∈ W0 := List.mem_filter.mpr ⟨List.mem_of_getElem? (i := 3) (by decide +kernel), rfl⟩
theorem tw_4 : Cond.selects "SelfIndexedSequences" (y_Si_takeTried) (y_Si_takeTried) ∈ W0 := List.mem_filter.mpr ⟨List.mem_of_getElem? (i := 4) (by decide +kernel), rfl⟩
theorem tw_5 : Cond.selects "SelfIndexedSequences$Places" (y_Pl_findStarts) (y_Pl_findStarts) ∈ W0 := List.mem_filter.mpr ⟨List.mem_of_getElem? (i := 5) (by decide +kernel), rfl⟩
theorem tw_6 : Cond.selects "SelfIndexedSequences" (y_Si_hasRow) (y_Si_hasRow) ∈ W0 := List.mem_filter.mpr ⟨List.mem_of_getElem? (i := 6) (by decide +kernel), rfl⟩
theorem tw_7 : Cond.selects "SelfIndexedSequences" (y_Si_findExact) (y_Si_findExact) ∈ W0 := List.mem_filter.mpr ⟨List.mem_of_getElem? (i := 7) (by decide +kernel), rfl⟩
theorem tw_8 : Cond.selects "SelfIndexedSequences" (y_Si_findAlike) (y_Si_findAlike) ∈ W0 := List.mem_filter.mpr ⟨List.mem_of_getElem? (i := 8) (by decide +kernel), rfl⟩
theorem tw_9 : Cond.selects "SelfIndexedSequencesModel" (y_Mo_sort) (y_Mo_sort) ∈ W0 := List.mem_filter.mpr ⟨List.mem_of_getElem? (i := 9) (by decide +kernel), rfl⟩
theorem tw_10 : Cond.selects "SelfIndexedSequencesModel" (y_Mo_before) (y_Mo_before) ∈ W0 := List.mem_filter.mpr ⟨List.mem_of_getElem? (i := 10) (by decide +kernel), rfl⟩
theorem tw_11 : Cond.selects "SelfIndexedSequencesModel" (y_Mo_symbolAt) (y_Mo_symbolAt) ∈ W0 := List.mem_filter.mpr ⟨List.mem_of_getElem? (i := 11) (by decide +kernel), rfl⟩
theorem tw_12 : Cond.selects "SelfIndexedSequencesModel" (y_Mo_guess) (y_Mo_guess) ∈ W0 := List.mem_filter.mpr ⟨List.mem_of_getElem? (i := 12) (by decide +kernel), rfl⟩
theorem tw_13 : Cond.selects "SelfIndexedSequencesModel" (y_Mo_follow) (y_Mo_follow) ∈ W0 := List.mem_filter.mpr ⟨List.mem_of_getElem? (i := 13) (by decide +kernel), rfl⟩
theorem tw_14 : Cond.selects "SelfIndexedSequencesModel" (y_Mo_beginning) (y_Mo_beginning) ∈ W0 := List.mem_filter.mpr ⟨List.mem_of_getElem? (i := 14) (by decide +kernel), rfl⟩
theorem tw_15 : Cond.selects "SelfIndexedSequencesModel" (y_Mo_end) (y_Mo_end) ∈ W0 := List.mem_filter.mpr ⟨List.mem_of_getElem? (i := 15) (by decide +kernel), rfl⟩
theorem tw_16 : Cond.selects "SelfIndexedSequencesModel" (y_Mo_read) (y_Mo_read) ∈ W0 := List.mem_filter.mpr ⟨List.mem_of_getElem? (i := 16) (by decide +kernel), rfl⟩
theorem tw_17 : Cond.selects "SelfIndexedSequencesModel" (y_Mo_search) (y_Mo_search) ∈ W0 := List.mem_filter.mpr ⟨List.mem_of_getElem? (i := 17) (by decide +kernel), rfl⟩
theorem tw_18 : Cond.selects "SelfIndexedSequencesModel" (y_Mo_occurs) (y_Mo_occurs) ∈ W0 := List.mem_filter.mpr ⟨List.mem_of_getElem? (i := 18) (by decide +kernel), rfl⟩
theorem tw_19 : Cond.selects "SelfIndexedSequencesModel" (y_Mo_look) (y_Mo_look) ∈ W0 := List.mem_filter.mpr ⟨List.mem_of_getElem? (i := 19) (by decide +kernel), rfl⟩
theorem tw_20 : Cond.selects "SelfIndexedSequencesModel" (y_Mo_measure) (y_Mo_measure) ∈ W0 := List.mem_filter.mpr ⟨List.mem_of_getElem? (i := 20) (by decide +kernel), rfl⟩
theorem tw_21 : Cond.selects "SelfIndexedSequencesModel" (y_Mo_letter) (y_Mo_letter) ∈ W0 := List.mem_filter.mpr ⟨List.mem_of_getElem? (i := 21) (by decide +kernel), rfl⟩
theorem tw_22 : Cond.initialized "SelfIndexedSequencesLaw" ∈ W0 := List.mem_filter.mpr ⟨List.mem_of_getElem? (i := 22) (by decide +kernel), rfl⟩
theorem tw_23 : Cond.initialized "SelfIndexedSequences" ∈ W0 := List.mem_filter.mpr ⟨List.mem_of_getElem? (i := 23) (by decide +kernel), rfl⟩
theorem tw_24 : Cond.initialized "SelfIndexedSequences$Image" ∈ W0 := List.mem_filter.mpr ⟨List.mem_of_getElem? (i := 24) (by decide +kernel), rfl⟩
theorem tw_25 : Cond.initialized "SelfIndexedSequences$Pattern" ∈ W0 := List.mem_filter.mpr ⟨List.mem_of_getElem? (i := 25) (by decide +kernel), rfl⟩
theorem tw_26 : Cond.initialized "SelfIndexedSequences$Finds" ∈ W0 := List.mem_filter.mpr ⟨List.mem_of_getElem? (i := 26) (by decide +kernel), rfl⟩
theorem tw_27 : Cond.initialized "SelfIndexedSequences$Places" ∈ W0 := List.mem_filter.mpr ⟨List.mem_of_getElem? (i := 27) (by decide +kernel), rfl⟩
theorem tw_28 : Cond.initialized "SelfIndexedSequencesModel" ∈ W0 := List.mem_filter.mpr ⟨List.mem_of_getElem? (i := 28) (by decide +kernel), rfl⟩
theorem tw_29 : Cond.initialized "java/lang/System" ∈ W0 := List.mem_filter.mpr ⟨List.mem_of_getElem? (i := 29) (by decide +kernel), rfl⟩
theorem tw_30 : Cond.initialized "java/util/Arrays" ∈ W0 := List.mem_filter.mpr ⟨List.mem_of_getElem? (i := 30) (by decide +kernel), rfl⟩
theorem tw_31 : Cond.initialized "java/lang/Math" ∈ W0 := List.mem_filter.mpr ⟨List.mem_of_getElem? (i := 31) (by decide +kernel), rfl⟩
theorem tw_32 : Cond.classLink "SelfIndexedSequencesLaw" 7 "SelfIndexedSequences" ∈ W0 := List.mem_filter.mpr ⟨List.mem_of_getElem? (i := 32) (by decide +kernel), rfl⟩
theorem tw_33 : Cond.instantiable "SelfIndexedSequences" 7 ∈ W0 := List.mem_filter.mpr ⟨List.mem_of_getElem? (i := 33) (by decide +kernel), rfl⟩
theorem tw_34 : Cond.methodLink "SelfIndexedSequencesLaw" 15 (y_Si_init) ∈ W0 := List.mem_filter.mpr ⟨List.mem_of_getElem? (i := 34) (by decide +kernel), rfl⟩
theorem tw_35 : Cond.instanceMethod (y_Si_init) ∈ W0 := List.mem_filter.mpr ⟨List.mem_of_getElem? (i := 35) (by decide +kernel), rfl⟩
set_option maxRecDepth 100000 in
theorem tw_36 : Cond.code (y_Si_init) prog_1_method_1_code 2 none ∈ W0 := List.mem_filter.mpr ⟨List.mem_of_getElem? (i := 36) rfl, rfl⟩
theorem tw_37 : Cond.methodLink "SelfIndexedSequences" 1 (objectInit) ∈ W0 := List.mem_filter.mpr ⟨List.mem_of_getElem? (i := 37) (by decide +kernel), rfl⟩
theorem tw_38 : Cond.instanceMethod (objectInit) ∈ W0 := List.mem_filter.mpr ⟨List.mem_of_getElem? (i := 38) (by decide +kernel), rfl⟩
set_option maxRecDepth 100000 in
theorem tw_39 : Cond.code (objectInit) object_method_1_code 1 none ∈ W0 := List.mem_filter.mpr ⟨List.mem_of_getElem? (i := 39) rfl, rfl⟩
theorem tw_40 : Cond.classLink "SelfIndexedSequences" 13 "SelfIndexedSequences$Image" ∈ W0 := List.mem_filter.mpr ⟨List.mem_of_getElem? (i := 40) (by decide +kernel), rfl⟩
theorem tw_41 : Cond.instantiable "SelfIndexedSequences$Image" 6 ∈ W0 := List.mem_filter.mpr ⟨List.mem_of_getElem? (i := 41) (by decide +kernel), rfl⟩
theorem tn_42 : Cond.methodLinkNest "SelfIndexedSequences" 15 (y_Im_init) "SelfIndexedSequences" ∈ lw_tbl := List.mem_of_getElem? (i := 42) (by decide +kernel)
theorem tw_43 : Cond.instanceMethod (y_Im_init) ∈ W0 := List.mem_filter.mpr ⟨List.mem_of_getElem? (i := 43) (by decide +kernel), rfl⟩
set_option maxRecDepth 100000 in
theorem tw_44 : Cond.code (y_Im_init) prog_3_method_1_code 1 none ∈ W0 := List.mem_filter.mpr ⟨List.mem_of_getElem? (i := 44) rfl, rfl⟩
theorem tw_45 : Cond.methodLink "SelfIndexedSequences$Image" 3 (objectInit) ∈ W0 := List.mem_filter.mpr ⟨List.mem_of_getElem? (i := 45) (by decide +kernel), rfl⟩
theorem tw_46 : Cond.fieldLink "SelfIndexedSequences$Image" 9 "SelfIndexedSequences$Image" "symbols" "[I" ∈ W0 := List.mem_filter.mpr ⟨List.mem_of_getElem? (i := 46) (by decide +kernel), rfl⟩
theorem tw_47 : Cond.fieldLink "SelfIndexedSequences$Places" 43 "SelfIndexedSequences$Image" "symbols" "[I" ∈ W0 := List.mem_filter.mpr ⟨List.mem_of_getElem? (i := 47) (by decide +kernel), rfl⟩
theorem tw_48 : Cond.fieldLink "SelfIndexedSequences" 81 "SelfIndexedSequences$Image" "symbols" "[I" ∈ W0 := List.mem_filter.mpr ⟨List.mem_of_getElem? (i := 48) (by decide +kernel), rfl⟩
theorem tw_49 : Cond.fieldLink "SelfIndexedSequences$Places" 28 "SelfIndexedSequences$Image" "size" "I" ∈ W0 := List.mem_filter.mpr ⟨List.mem_of_getElem? (i := 49) (by decide +kernel), rfl⟩
theorem tw_50 : Cond.fieldLink "SelfIndexedSequences$Image" 27 "SelfIndexedSequences$Image" "size" "I" ∈ W0 := List.mem_filter.mpr ⟨List.mem_of_getElem? (i := 50) (by decide +kernel), rfl⟩
theorem tw_51 : Cond.fieldLink "SelfIndexedSequences" 78 "SelfIndexedSequences$Image" "size" "I" ∈ W0 := List.mem_filter.mpr ⟨List.mem_of_getElem? (i := 51) (by decide +kernel), rfl⟩
theorem tw_52 : Cond.fieldLink "SelfIndexedSequences$Image" 15 "SelfIndexedSequences$Image" "firsts" "[I" ∈ W0 := List.mem_filter.mpr ⟨List.mem_of_getElem? (i := 52) (by decide +kernel), rfl⟩
theorem tw_53 : Cond.fieldLink "SelfIndexedSequences$Image" 18 "SelfIndexedSequences$Image" "back" "[I" ∈ W0 := List.mem_filter.mpr ⟨List.mem_of_getElem? (i := 53) (by decide +kernel), rfl⟩
theorem tw_54 : Cond.fieldLink "SelfIndexedSequences$Places" 33 "SelfIndexedSequences$Image" "back" "[I" ∈ W0 := List.mem_filter.mpr ⟨List.mem_of_getElem? (i := 54) (by decide +kernel), rfl⟩
theorem tw_55 : Cond.fieldLink "SelfIndexedSequences$Image" 45 "SelfIndexedSequences$Image" "low" "I" ∈ W0 := List.mem_filter.mpr ⟨List.mem_of_getElem? (i := 55) (by decide +kernel), rfl⟩
theorem tw_56 : Cond.fieldLink "SelfIndexedSequences" 126 "SelfIndexedSequences$Image" "low" "I" ∈ W0 := List.mem_filter.mpr ⟨List.mem_of_getElem? (i := 56) (by decide +kernel), rfl⟩
theorem tw_57 : Cond.fieldLink "SelfIndexedSequences$Image" 48 "SelfIndexedSequences$Image" "high" "I" ∈ W0 := List.mem_filter.mpr ⟨List.mem_of_getElem? (i := 57) (by decide +kernel), rfl⟩
theorem tw_58 : Cond.fieldLink "SelfIndexedSequences" 123 "SelfIndexedSequences$Image" "high" "I" ∈ W0 := List.mem_filter.mpr ⟨List.mem_of_getElem? (i := 58) (by decide +kernel), rfl⟩
theorem tw_59 : Cond.laysFinal "SelfIndexedSequences$Image" "SelfIndexedSequences$Image" "symbols" "[I" ∈ W0 := List.mem_filter.mpr ⟨List.mem_of_getElem? (i := 59) (by decide +kernel), rfl⟩
theorem tw_60 : Cond.soleField "SelfIndexedSequences$Image" "symbols" ∈ W0 := List.mem_filter.mpr ⟨List.mem_of_getElem? (i := 60) (by decide +kernel), rfl⟩
theorem tw_61 : Cond.lays "SelfIndexedSequences$Image" "SelfIndexedSequences$Image" "size" "I" ∈ W0 := List.mem_filter.mpr ⟨List.mem_of_getElem? (i := 61) (by decide +kernel), rfl⟩
theorem tw_62 : Cond.soleField "SelfIndexedSequences$Image" "size" ∈ W0 := List.mem_filter.mpr ⟨List.mem_of_getElem? (i := 62) (by decide +kernel), rfl⟩
theorem tw_63 : Cond.laysFinal "SelfIndexedSequences$Image" "SelfIndexedSequences$Image" "firsts" "[I" ∈ W0 := List.mem_filter.mpr ⟨List.mem_of_getElem? (i := 63) (by decide +kernel), rfl⟩
theorem tw_64 : Cond.soleField "SelfIndexedSequences$Image" "firsts" ∈ W0 := List.mem_filter.mpr ⟨List.mem_of_getElem? (i := 64) (by decide +kernel), rfl⟩
theorem tw_65 : Cond.laysFinal "SelfIndexedSequences$Image" "SelfIndexedSequences$Image" "back" "[I" ∈ W0 := List.mem_filter.mpr ⟨List.mem_of_getElem? (i := 65) (by decide +kernel), rfl⟩
theorem tw_66 : Cond.soleField "SelfIndexedSequences$Image" "back" ∈ W0 := List.mem_filter.mpr ⟨List.mem_of_getElem? (i := 66) (by decide +kernel), rfl⟩
theorem tw_67 : Cond.lays "SelfIndexedSequences$Image" "SelfIndexedSequences$Image" "low" "I" ∈ W0 := List.mem_filter.mpr ⟨List.mem_of_getElem? (i := 67) (by decide +kernel), rfl⟩
theorem tw_68 : Cond.soleField "SelfIndexedSequences$Image" "low" ∈ W0 := List.mem_filter.mpr ⟨List.mem_of_getElem? (i := 68) (by decide +kernel), rfl⟩
theorem tw_69 : Cond.lays "SelfIndexedSequences$Image" "SelfIndexedSequences$Image" "high" "I" ∈ W0 := List.mem_filter.mpr ⟨List.mem_of_getElem? (i := 69) (by decide +kernel), rfl⟩
theorem tw_70 : Cond.soleField "SelfIndexedSequences$Image" "high" ∈ W0 := List.mem_filter.mpr ⟨List.mem_of_getElem? (i := 70) (by decide +kernel), rfl⟩
theorem tw_71 : Cond.superclass "SelfIndexedSequences$Image" "java/lang/Object" ∈ W0 := List.mem_filter.mpr ⟨List.mem_of_getElem? (i := 71) (by decide +kernel), rfl⟩
theorem tw_72 : Cond.arrayClass .int ∈ W0 := List.mem_filter.mpr ⟨List.mem_of_getElem? (i := 72) (by decide +kernel), rfl⟩
theorem tw_73 : Cond.classLink "SelfIndexedSequences" 23 "SelfIndexedSequences$Pattern" ∈ W0 := List.mem_filter.mpr ⟨List.mem_of_getElem? (i := 73) (by decide +kernel), rfl⟩
theorem tw_74 : Cond.instantiable "SelfIndexedSequences$Pattern" 3 ∈ W0 := List.mem_filter.mpr ⟨List.mem_of_getElem? (i := 74) (by decide +kernel), rfl⟩
theorem tn_75 : Cond.methodLinkNest "SelfIndexedSequences" 25 (y_Pa_init) "SelfIndexedSequences" ∈ lw_tbl := List.mem_of_getElem? (i := 75) (by decide +kernel)
theorem tw_76 : Cond.instanceMethod (y_Pa_init) ∈ W0 := List.mem_filter.mpr ⟨List.mem_of_getElem? (i := 76) (by decide +kernel), rfl⟩
set_option maxRecDepth 100000 in
theorem tw_77 : Cond.code (y_Pa_init) prog_4_method_1_code 1 none ∈ W0 := List.mem_filter.mpr ⟨List.mem_of_getElem? (i := 77) rfl, rfl⟩
theorem tw_78 : Cond.methodLink "SelfIndexedSequences$Pattern" 3 (objectInit) ∈ W0 := List.mem_filter.mpr ⟨List.mem_of_getElem? (i := 78) (by decide +kernel), rfl⟩
theorem tw_79 : Cond.fieldLink "SelfIndexedSequences$Pattern" 9 "SelfIndexedSequences$Pattern" "letters" "[I" ∈ W0 := List.mem_filter.mpr ⟨List.mem_of_getElem? (i := 79) (by decide +kernel), rfl⟩
theorem tw_80 : Cond.fieldLink "SelfIndexedSequences$Image" 54 "SelfIndexedSequences$Pattern" "letters" "[I" ∈ W0 := List.mem_filter.mpr ⟨List.mem_of_getElem? (i := 80) (by decide +kernel), rfl⟩
theorem tw_81 : Cond.fieldLink "SelfIndexedSequences$Pattern" 18 "SelfIndexedSequences$Pattern" "size" "I" ∈ W0 := List.mem_filter.mpr ⟨List.mem_of_getElem? (i := 81) (by decide +kernel), rfl⟩
theorem tw_82 : Cond.fieldLink "SelfIndexedSequences$Image" 51 "SelfIndexedSequences$Pattern" "size" "I" ∈ W0 := List.mem_filter.mpr ⟨List.mem_of_getElem? (i := 82) (by decide +kernel), rfl⟩
theorem tw_83 : Cond.fieldLink "SelfIndexedSequences$Pattern" 15 "SelfIndexedSequences$Pattern" "distances" "[I" ∈ W0 := List.mem_filter.mpr ⟨List.mem_of_getElem? (i := 83) (by decide +kernel), rfl⟩
theorem tw_84 : Cond.laysFinal "SelfIndexedSequences$Pattern" "SelfIndexedSequences$Pattern" "letters" "[I" ∈ W0 := List.mem_filter.mpr ⟨List.mem_of_getElem? (i := 84) (by decide +kernel), rfl⟩
theorem tw_85 : Cond.soleField "SelfIndexedSequences$Pattern" "letters" ∈ W0 := List.mem_filter.mpr ⟨List.mem_of_getElem? (i := 85) (by decide +kernel), rfl⟩
theorem tw_86 : Cond.lays "SelfIndexedSequences$Pattern" "SelfIndexedSequences$Pattern" "size" "I" ∈ W0 := List.mem_filter.mpr ⟨List.mem_of_getElem? (i := 86) (by decide +kernel), rfl⟩
theorem tw_87 : Cond.soleField "SelfIndexedSequences$Pattern" "size" ∈ W0 := List.mem_filter.mpr ⟨List.mem_of_getElem? (i := 87) (by decide +kernel), rfl⟩
theorem tw_88 : Cond.laysFinal "SelfIndexedSequences$Pattern" "SelfIndexedSequences$Pattern" "distances" "[I" ∈ W0 := List.mem_filter.mpr ⟨List.mem_of_getElem? (i := 88) (by decide +kernel), rfl⟩
theorem tw_89 : Cond.soleField "SelfIndexedSequences$Pattern" "distances" ∈ W0 := List.mem_filter.mpr ⟨List.mem_of_getElem? (i := 89) (by decide +kernel), rfl⟩
theorem tw_90 : Cond.superclass "SelfIndexedSequences$Pattern" "java/lang/Object" ∈ W0 := List.mem_filter.mpr ⟨List.mem_of_getElem? (i := 90) (by decide +kernel), rfl⟩
theorem tw_91 : Cond.classLink "SelfIndexedSequences" 30 "SelfIndexedSequences$Finds" ∈ W0 := List.mem_filter.mpr ⟨List.mem_of_getElem? (i := 91) (by decide +kernel), rfl⟩
theorem tw_92 : Cond.instantiable "SelfIndexedSequences$Finds" 2 ∈ W0 := List.mem_filter.mpr ⟨List.mem_of_getElem? (i := 92) (by decide +kernel), rfl⟩
theorem tn_93 : Cond.methodLinkNest "SelfIndexedSequences" 32 (y_Fi_init) "SelfIndexedSequences" ∈ lw_tbl := List.mem_of_getElem? (i := 93) (by decide +kernel)
theorem tw_94 : Cond.instanceMethod (y_Fi_init) ∈ W0 := List.mem_filter.mpr ⟨List.mem_of_getElem? (i := 94) (by decide +kernel), rfl⟩
set_option maxRecDepth 100000 in
theorem tw_95 : Cond.code (y_Fi_init) prog_2_method_1_code 1 none ∈ W0 := List.mem_filter.mpr ⟨List.mem_of_getElem? (i := 95) rfl, rfl⟩
theorem tw_96 : Cond.methodLink "SelfIndexedSequences$Finds" 3 (objectInit) ∈ W0 := List.mem_filter.mpr ⟨List.mem_of_getElem? (i := 96) (by decide +kernel), rfl⟩
theorem tw_97 : Cond.fieldLink "SelfIndexedSequences$Finds" 9 "SelfIndexedSequences$Finds" "errors" "[I" ∈ W0 := List.mem_filter.mpr ⟨List.mem_of_getElem? (i := 97) (by decide +kernel), rfl⟩
theorem tw_98 : Cond.fieldLink "SelfIndexedSequences" 147 "SelfIndexedSequences$Finds" "errors" "[I" ∈ W0 := List.mem_filter.mpr ⟨List.mem_of_getElem? (i := 98) (by decide +kernel), rfl⟩
theorem tw_99 : Cond.fieldLink "SelfIndexedSequences$Finds" 15 "SelfIndexedSequences$Finds" "size" "I" ∈ W0 := List.mem_filter.mpr ⟨List.mem_of_getElem? (i := 99) (by decide +kernel), rfl⟩
theorem tw_100 : Cond.laysFinal "SelfIndexedSequences$Finds" "SelfIndexedSequences$Finds" "errors" "[I" ∈ W0 := List.mem_filter.mpr ⟨List.mem_of_getElem? (i := 100) (by decide +kernel), rfl⟩
theorem tw_101 : Cond.soleField "SelfIndexedSequences$Finds" "errors" ∈ W0 := List.mem_filter.mpr ⟨List.mem_of_getElem? (i := 101) (by decide +kernel), rfl⟩
theorem tw_102 : Cond.lays "SelfIndexedSequences$Finds" "SelfIndexedSequences$Finds" "size" "I" ∈ W0 := List.mem_filter.mpr ⟨List.mem_of_getElem? (i := 102) (by decide +kernel), rfl⟩
theorem tw_103 : Cond.soleField "SelfIndexedSequences$Finds" "size" ∈ W0 := List.mem_filter.mpr ⟨List.mem_of_getElem? (i := 103) (by decide +kernel), rfl⟩
theorem tw_104 : Cond.superclass "SelfIndexedSequences$Finds" "java/lang/Object" ∈ W0 := List.mem_filter.mpr ⟨List.mem_of_getElem? (i := 104) (by decide +kernel), rfl⟩
theorem tw_105 : Cond.classLink "SelfIndexedSequences" 37 "SelfIndexedSequences$Places" ∈ W0 := List.mem_filter.mpr ⟨List.mem_of_getElem? (i := 105) (by decide +kernel), rfl⟩
theorem tw_106 : Cond.instantiable "SelfIndexedSequences$Places" 6 ∈ W0 := List.mem_filter.mpr ⟨List.mem_of_getElem? (i := 106) (by decide +kernel), rfl⟩
theorem tw_107 : Cond.methodLink "SelfIndexedSequences" 39 (y_Pl_init) ∈ W0 := List.mem_filter.mpr ⟨List.mem_of_getElem? (i := 107) (by decide +kernel), rfl⟩
theorem tw_108 : Cond.instanceMethod (y_Pl_init) ∈ W0 := List.mem_filter.mpr ⟨List.mem_of_getElem? (i := 108) (by decide +kernel), rfl⟩
set_option maxRecDepth 100000 in
theorem tw_109 : Cond.code (y_Pl_init) prog_5_method_1_code 2 none ∈ W0 := List.mem_filter.mpr ⟨List.mem_of_getElem? (i := 109) rfl, rfl⟩
theorem tw_110 : Cond.methodLink "SelfIndexedSequences$Places" 3 (objectInit) ∈ W0 := List.mem_filter.mpr ⟨List.mem_of_getElem? (i := 110) (by decide +kernel), rfl⟩
theorem tw_111 : Cond.fieldLink "SelfIndexedSequences$Places" 24 "SelfIndexedSequences$Places" "step" "I" ∈ W0 := List.mem_filter.mpr ⟨List.mem_of_getElem? (i := 111) (by decide +kernel), rfl⟩
theorem tw_112 : Cond.fieldLink "SelfIndexedSequences" 100 "SelfIndexedSequences$Places" "step" "I" ∈ W0 := List.mem_filter.mpr ⟨List.mem_of_getElem? (i := 112) (by decide +kernel), rfl⟩
theorem tw_113 : Cond.fieldLink "SelfIndexedSequences$Places" 9 "SelfIndexedSequences$Places" "ahead" "[I" ∈ W0 := List.mem_filter.mpr ⟨List.mem_of_getElem? (i := 113) (by decide +kernel), rfl⟩
theorem tw_114 : Cond.fieldLink "SelfIndexedSequences" 112 "SelfIndexedSequences$Places" "ahead" "[I" ∈ W0 := List.mem_filter.mpr ⟨List.mem_of_getElem? (i := 114) (by decide +kernel), rfl⟩
theorem tw_115 : Cond.fieldLink "SelfIndexedSequences$Places" 15 "SelfIndexedSequences$Places" "kept" "[I" ∈ W0 := List.mem_filter.mpr ⟨List.mem_of_getElem? (i := 115) (by decide +kernel), rfl⟩
theorem tw_116 : Cond.fieldLink "SelfIndexedSequences$Places" 18 "SelfIndexedSequences$Places" "keptRows" "[I" ∈ W0 := List.mem_filter.mpr ⟨List.mem_of_getElem? (i := 116) (by decide +kernel), rfl⟩
theorem tw_117 : Cond.fieldLink "SelfIndexedSequences$Places" 21 "SelfIndexedSequences$Places" "starts" "[I" ∈ W0 := List.mem_filter.mpr ⟨List.mem_of_getElem? (i := 117) (by decide +kernel), rfl⟩
theorem tw_118 : Cond.fieldLink "SelfIndexedSequences" 106 "SelfIndexedSequences$Places" "starts" "[I" ∈ W0 := List.mem_filter.mpr ⟨List.mem_of_getElem? (i := 118) (by decide +kernel), rfl⟩
theorem tw_119 : Cond.fieldLink "SelfIndexedSequences$Places" 40 "SelfIndexedSequences$Places" "sequences" "I" ∈ W0 := List.mem_filter.mpr ⟨List.mem_of_getElem? (i := 119) (by decide +kernel), rfl⟩
theorem tw_120 : Cond.fieldLink "SelfIndexedSequences" 69 "SelfIndexedSequences$Places" "sequences" "I" ∈ W0 := List.mem_filter.mpr ⟨List.mem_of_getElem? (i := 120) (by decide +kernel), rfl⟩
theorem tw_121 : Cond.laysFinal "SelfIndexedSequences$Places" "SelfIndexedSequences$Places" "step" "I" ∈ W0 := List.mem_filter.mpr ⟨List.mem_of_getElem? (i := 121) (by decide +kernel), rfl⟩
theorem tw_122 : Cond.soleField "SelfIndexedSequences$Places" "step" ∈ W0 := List.mem_filter.mpr ⟨List.mem_of_getElem? (i := 122) (by decide +kernel), rfl⟩
theorem tw_123 : Cond.laysFinal "SelfIndexedSequences$Places" "SelfIndexedSequences$Places" "ahead" "[I" ∈ W0 := List.mem_filter.mpr ⟨List.mem_of_getElem? (i := 123) (by decide +kernel), rfl⟩
theorem tw_124 : Cond.soleField "SelfIndexedSequences$Places" "ahead" ∈ W0 := List.mem_filter.mpr ⟨List.mem_of_getElem? (i := 124) (by decide +kernel), rfl⟩
theorem tw_125 : Cond.laysFinal "SelfIndexedSequences$Places" "SelfIndexedSequences$Places" "kept" "[I" ∈ W0 := List.mem_filter.mpr ⟨List.mem_of_getElem? (i := 125) (by decide +kernel), rfl⟩
theorem tw_126 : Cond.soleField "SelfIndexedSequences$Places" "kept" ∈ W0 := List.mem_filter.mpr ⟨List.mem_of_getElem? (i := 126) (by decide +kernel), rfl⟩
theorem tw_127 : Cond.laysFinal "SelfIndexedSequences$Places" "SelfIndexedSequences$Places" "keptRows" "[I" ∈ W0 := List.mem_filter.mpr ⟨List.mem_of_getElem? (i := 127) (by decide +kernel), rfl⟩
theorem tw_128 : Cond.soleField "SelfIndexedSequences$Places" "keptRows" ∈ W0 := List.mem_filter.mpr ⟨List.mem_of_getElem? (i := 128) (by decide +kernel), rfl⟩
theorem tw_129 : Cond.laysFinal "SelfIndexedSequences$Places" "SelfIndexedSequences$Places" "starts" "[I" ∈ W0 := List.mem_filter.mpr ⟨List.mem_of_getElem? (i := 129) (by decide +kernel), rfl⟩
theorem tw_130 : Cond.soleField "SelfIndexedSequences$Places" "starts" ∈ W0 := List.mem_filter.mpr ⟨List.mem_of_getElem? (i := 130) (by decide +kernel), rfl⟩
theorem tw_131 : Cond.lays "SelfIndexedSequences$Places" "SelfIndexedSequences$Places" "sequences" "I" ∈ W0 := List.mem_filter.mpr ⟨List.mem_of_getElem? (i := 131) (by decide +kernel), rfl⟩
theorem tw_132 : Cond.soleField "SelfIndexedSequences$Places" "sequences" ∈ W0 := List.mem_filter.mpr ⟨List.mem_of_getElem? (i := 132) (by decide +kernel), rfl⟩
theorem tw_133 : Cond.superclass "SelfIndexedSequences$Places" "java/lang/Object" ∈ W0 := List.mem_filter.mpr ⟨List.mem_of_getElem? (i := 133) (by decide +kernel), rfl⟩
theorem tw_134 : Cond.fieldLink "SelfIndexedSequences" 9 "SelfIndexedSequences" "draft" "[I" ∈ W0 := List.mem_filter.mpr ⟨List.mem_of_getElem? (i := 134) (by decide +kernel), rfl⟩
theorem tw_135 : Cond.fieldLink "SelfIndexedSequences" 54 "SelfIndexedSequences" "drafted" "I" ∈ W0 := List.mem_filter.mpr ⟨List.mem_of_getElem? (i := 135) (by decide +kernel), rfl⟩
theorem tw_136 : Cond.fieldLink "SelfIndexedSequences" 16 "SelfIndexedSequences" "taken" "LSelfIndexedSequences$Image;" ∈ W0 := List.mem_filter.mpr ⟨List.mem_of_getElem? (i := 136) (by decide +kernel), rfl⟩
theorem tw_137 : Cond.fieldLink "SelfIndexedSequences" 20 "SelfIndexedSequences" "tried" "LSelfIndexedSequences$Image;" ∈ W0 := List.mem_filter.mpr ⟨List.mem_of_getElem? (i := 137) (by decide +kernel), rfl⟩
theorem tw_138 : Cond.fieldLink "SelfIndexedSequences" 42 "SelfIndexedSequences" "places" "LSelfIndexedSequences$Places;" ∈ W0 := List.mem_filter.mpr ⟨List.mem_of_getElem? (i := 138) (by decide +kernel), rfl⟩
theorem tw_139 : Cond.fieldLink "SelfIndexedSequences" 26 "SelfIndexedSequences" "sought" "LSelfIndexedSequences$Pattern;" ∈ W0 := List.mem_filter.mpr ⟨List.mem_of_getElem? (i := 139) (by decide +kernel), rfl⟩
theorem tw_140 : Cond.fieldLink "SelfIndexedSequences" 33 "SelfIndexedSequences" "finds" "LSelfIndexedSequences$Finds;" ∈ W0 := List.mem_filter.mpr ⟨List.mem_of_getElem? (i := 140) (by decide +kernel), rfl⟩
theorem tw_141 : Cond.laysFinal "SelfIndexedSequences" "SelfIndexedSequences" "draft" "[I" ∈ W0 := List.mem_filter.mpr ⟨List.mem_of_getElem? (i := 141) (by decide +kernel), rfl⟩
theorem tw_142 : Cond.soleField "SelfIndexedSequences" "draft" ∈ W0 := List.mem_filter.mpr ⟨List.mem_of_getElem? (i := 142) (by decide +kernel), rfl⟩
theorem tw_143 : Cond.lays "SelfIndexedSequences" "SelfIndexedSequences" "drafted" "I" ∈ W0 := List.mem_filter.mpr ⟨List.mem_of_getElem? (i := 143) (by decide +kernel), rfl⟩
theorem tw_144 : Cond.soleField "SelfIndexedSequences" "drafted" ∈ W0 := List.mem_filter.mpr ⟨List.mem_of_getElem? (i := 144) (by decide +kernel), rfl⟩
theorem tw_145 : Cond.lays "SelfIndexedSequences" "SelfIndexedSequences" "taken" "LSelfIndexedSequences$Image;" ∈ W0 := List.mem_filter.mpr ⟨List.mem_of_getElem? (i := 145) (by decide +kernel), rfl⟩
theorem tw_146 : Cond.soleField "SelfIndexedSequences" "taken" ∈ W0 := List.mem_filter.mpr ⟨List.mem_of_getElem? (i := 146) (by decide +kernel), rfl⟩
theorem tw_147 : Cond.lays "SelfIndexedSequences" "SelfIndexedSequences" "tried" "LSelfIndexedSequences$Image;" ∈ W0 := List.mem_filter.mpr ⟨List.mem_of_getElem? (i := 147) (by decide +kernel), rfl⟩
theorem tw_148 : Cond.soleField "SelfIndexedSequences" "tried" ∈ W0 := List.mem_filter.mpr ⟨List.mem_of_getElem? (i := 148) (by decide +kernel), rfl⟩
theorem tw_149 : Cond.laysFinal "SelfIndexedSequences" "SelfIndexedSequences" "places" "LSelfIndexedSequences$Places;" ∈ W0 := List.mem_filter.mpr ⟨List.mem_of_getElem? (i := 149) (by decide +kernel), rfl⟩
theorem tw_150 : Cond.soleField "SelfIndexedSequences" "places" ∈ W0 := List.mem_filter.mpr ⟨List.mem_of_getElem? (i := 150) (by decide +kernel), rfl⟩
theorem tw_151 : Cond.laysFinal "SelfIndexedSequences" "SelfIndexedSequences" "sought" "LSelfIndexedSequences$Pattern;" ∈ W0 := List.mem_filter.mpr ⟨List.mem_of_getElem? (i := 151) (by decide +kernel), rfl⟩
theorem tw_152 : Cond.soleField "SelfIndexedSequences" "sought" ∈ W0 := List.mem_filter.mpr ⟨List.mem_of_getElem? (i := 152) (by decide +kernel), rfl⟩
theorem tw_153 : Cond.laysFinal "SelfIndexedSequences" "SelfIndexedSequences" "finds" "LSelfIndexedSequences$Finds;" ∈ W0 := List.mem_filter.mpr ⟨List.mem_of_getElem? (i := 153) (by decide +kernel), rfl⟩
theorem tw_154 : Cond.soleField "SelfIndexedSequences" "finds" ∈ W0 := List.mem_filter.mpr ⟨List.mem_of_getElem? (i := 154) (by decide +kernel), rfl⟩
theorem tw_155 : Cond.superclass "SelfIndexedSequences" "java/lang/Object" ∈ W0 := List.mem_filter.mpr ⟨List.mem_of_getElem? (i := 155) (by decide +kernel), rfl⟩
theorem tw_156 : Cond.methodLink "SelfIndexedSequencesLaw" 23 (y_Si_put) ∈ W0 := List.mem_filter.mpr ⟨List.mem_of_getElem? (i := 156) (by decide +kernel), rfl⟩
theorem tw_157 : Cond.instanceMethod (y_Si_put) ∈ W0 := List.mem_filter.mpr ⟨List.mem_of_getElem? (i := 157) (by decide +kernel), rfl⟩
theorem tw_158 : Cond.selects "SelfIndexedSequences" (y_Si_put) (y_Si_put) ∈ W0 := List.mem_filter.mpr ⟨List.mem_of_getElem? (i := 158) (by decide +kernel), rfl⟩
set_option maxRecDepth 100000 in
theorem tw_159 : Cond.code (y_Si_put) prog_1_method_2_code 6 (some .boolean) ∈ W0 := List.mem_filter.mpr ⟨List.mem_of_getElem? (i := 159) rfl, rfl⟩
theorem tw_160 : Cond.methodLink "SelfIndexedSequences" 46 (y_Si_codeAt) ∈ W0 := List.mem_filter.mpr ⟨List.mem_of_getElem? (i := 160) (by decide +kernel), rfl⟩
theorem tw_161 : Cond.static (y_Si_codeAt) ∈ W0 := List.mem_filter.mpr ⟨List.mem_of_getElem? (i := 161) (by decide +kernel), rfl⟩
set_option maxRecDepth 100000 in
theorem tw_162 : Cond.code (y_Si_codeAt) prog_1_method_24_code 3 (some .int) ∈ W0 := List.mem_filter.mpr ⟨List.mem_of_getElem? (i := 162) rfl, rfl⟩
theorem tw_163 : Cond.methodLink "SelfIndexedSequences" 50 (y_Si_symbolOf) ∈ W0 := List.mem_filter.mpr ⟨List.mem_of_getElem? (i := 163) (by decide +kernel), rfl⟩
theorem tw_164 : Cond.static (y_Si_symbolOf) ∈ W0 := List.mem_filter.mpr ⟨List.mem_of_getElem? (i := 164) (by decide +kernel), rfl⟩
set_option maxRecDepth 100000 in
theorem tw_165 : Cond.code (y_Si_symbolOf) prog_1_method_26_code 1 (some .int) ∈ W0 := List.mem_filter.mpr ⟨List.mem_of_getElem? (i := 165) rfl, rfl⟩
theorem tw_166 : Cond.methodLink "SelfIndexedSequencesLaw" 28 (y_Si_scrap) ∈ W0 := List.mem_filter.mpr ⟨List.mem_of_getElem? (i := 166) (by decide +kernel), rfl⟩
theorem tw_167 : Cond.instanceMethod (y_Si_scrap) ∈ W0 := List.mem_filter.mpr ⟨List.mem_of_getElem? (i := 167) (by decide +kernel), rfl⟩
theorem tw_168 : Cond.selects "SelfIndexedSequences" (y_Si_scrap) (y_Si_scrap) ∈ W0 := List.mem_filter.mpr ⟨List.mem_of_getElem? (i := 168) (by decide +kernel), rfl⟩
set_option maxRecDepth 100000 in
theorem tw_169 : Cond.code (y_Si_scrap) prog_1_method_3_code 1 none ∈ W0 := List.mem_filter.mpr ⟨List.mem_of_getElem? (i := 169) rfl, rfl⟩
theorem tw_170 : Cond.methodLink "SelfIndexedSequencesLaw" 32 (y_Si_build) ∈ W0 := List.mem_filter.mpr ⟨List.mem_of_getElem? (i := 170) (by decide +kernel), rfl⟩
theorem tw_171 : Cond.instanceMethod (y_Si_build) ∈ W0 := List.mem_filter.mpr ⟨List.mem_of_getElem? (i := 171) (by decide +kernel), rfl⟩
theorem tw_172 : Cond.selects "SelfIndexedSequences" (y_Si_build) (y_Si_build) ∈ W0 := List.mem_filter.mpr ⟨List.mem_of_getElem? (i := 172) (by decide +kernel), rfl⟩
set_option maxRecDepth 100000 in
theorem tw_173 : Cond.code (y_Si_build) prog_1_method_4_code 1 (some .int) ∈ W0 := List.mem_filter.mpr ⟨List.mem_of_getElem? (i := 173) rfl, rfl⟩
theorem tw_174 : Cond.methodLink "SelfIndexedSequences" 58 (y_Si_draftHasEnd) ∈ W0 := List.mem_filter.mpr ⟨List.mem_of_getElem? (i := 174) (by decide +kernel), rfl⟩
theorem tw_176 : Cond.instanceMethod (y_Si_draftHasEnd) ∈ W0 := List.mem_filter.mpr ⟨List.mem_of_getElem? (i := 176) (by decide +kernel), rfl⟩
set_option maxRecDepth 100000 in
theorem tw_177 : Cond.code (y_Si_draftHasEnd) prog_1_method_18_code 2 (some .boolean) ∈ W0 := List.mem_filter.mpr ⟨List.mem_of_getElem? (i := 177) rfl, rfl⟩
theorem tw_178 : Cond.methodLink "SelfIndexedSequences" 62 (y_Im_makeFromText) ∈ W0 := List.mem_filter.mpr ⟨List.mem_of_getElem? (i := 178) (by decide +kernel), rfl⟩
theorem tw_179 : Cond.instanceMethod (y_Im_makeFromText) ∈ W0 := List.mem_filter.mpr ⟨List.mem_of_getElem? (i := 179) (by decide +kernel), rfl⟩
theorem tw_180 : Cond.selects "SelfIndexedSequences$Image" (y_Im_makeFromText) (y_Im_makeFromText) ∈ W0 := List.mem_filter.mpr ⟨List.mem_of_getElem? (i := 180) (by decide +kernel), rfl⟩
set_option maxRecDepth 100000 in
theorem tw_181 : Cond.code (y_Im_makeFromText) prog_3_method_3_code 5 none ∈ W0 := List.mem_filter.mpr ⟨List.mem_of_getElem? (i := 181) rfl, rfl⟩
theorem tw_182 : Cond.methodLink "SelfIndexedSequences$Image" 34 (y_Im_putBefore) ∈ W0 := List.mem_filter.mpr ⟨List.mem_of_getElem? (i := 182) (by decide +kernel), rfl⟩
theorem tw_184 : Cond.instanceMethod (y_Im_putBefore) ∈ W0 := List.mem_filter.mpr ⟨List.mem_of_getElem? (i := 184) (by decide +kernel), rfl⟩
set_option maxRecDepth 100000 in
theorem tw_185 : Cond.code (y_Im_putBefore) prog_3_method_4_code 4 (some .int) ∈ W0 := List.mem_filter.mpr ⟨List.mem_of_getElem? (i := 185) rfl, rfl⟩
theorem tw_186 : Cond.methodLink "SelfIndexedSequences$Image" 38 (y_Im_lesserThan) ∈ W0 := List.mem_filter.mpr ⟨List.mem_of_getElem? (i := 186) (by decide +kernel), rfl⟩
theorem tw_188 : Cond.instanceMethod (y_Im_lesserThan) ∈ W0 := List.mem_filter.mpr ⟨List.mem_of_getElem? (i := 188) (by decide +kernel), rfl⟩
set_option maxRecDepth 100000 in
theorem tw_189 : Cond.code (y_Im_lesserThan) prog_3_method_5_code 4 (some .int) ∈ W0 := List.mem_filter.mpr ⟨List.mem_of_getElem? (i := 189) rfl, rfl⟩
theorem tw_190 : Cond.methodLink "SelfIndexedSequences$Image" 42 (y_Im_among) ∈ W0 := List.mem_filter.mpr ⟨List.mem_of_getElem? (i := 190) (by decide +kernel), rfl⟩
theorem tw_191 : Cond.instanceMethod (y_Im_among) ∈ W0 := List.mem_filter.mpr ⟨List.mem_of_getElem? (i := 191) (by decide +kernel), rfl⟩
theorem tw_192 : Cond.selects "SelfIndexedSequences$Image" (y_Im_among) (y_Im_among) ∈ W0 := List.mem_filter.mpr ⟨List.mem_of_getElem? (i := 192) (by decide +kernel), rfl⟩
set_option maxRecDepth 100000 in
theorem tw_193 : Cond.code (y_Im_among) prog_3_method_6_code 5 (some .int) ∈ W0 := List.mem_filter.mpr ⟨List.mem_of_getElem? (i := 193) rfl, rfl⟩
theorem tw_194 : Cond.methodLink "SelfIndexedSequences$Image" 21 (arraycopyName) ∈ W0 := List.mem_filter.mpr ⟨List.mem_of_getElem? (i := 194) (by decide +kernel), rfl⟩
theorem tw_195 : Cond.static (arraycopyName) ∈ W0 := List.mem_filter.mpr ⟨List.mem_of_getElem? (i := 195) (by decide +kernel), rfl⟩
theorem tw_196 : Cond.native (arraycopyName) ∈ W0 := List.mem_filter.mpr ⟨List.mem_of_getElem? (i := 196) (by decide +kernel), rfl⟩
theorem tw_197 : Cond.methodLink "SelfIndexedSequences$Image" 31 (y_Im_link) ∈ W0 := List.mem_filter.mpr ⟨List.mem_of_getElem? (i := 197) (by decide +kernel), rfl⟩
theorem tw_199 : Cond.instanceMethod (y_Im_link) ∈ W0 := List.mem_filter.mpr ⟨List.mem_of_getElem? (i := 199) (by decide +kernel), rfl⟩
set_option maxRecDepth 100000 in
theorem tw_200 : Cond.code (y_Im_link) prog_3_method_7_code 4 none ∈ W0 := List.mem_filter.mpr ⟨List.mem_of_getElem? (i := 200) rfl, rfl⟩
theorem tw_201 : Cond.methodLink "SelfIndexedSequences" 66 (y_Si_takeTried) ∈ W0 := List.mem_filter.mpr ⟨List.mem_of_getElem? (i := 201) (by decide +kernel), rfl⟩
theorem tw_203 : Cond.instanceMethod (y_Si_takeTried) ∈ W0 := List.mem_filter.mpr ⟨List.mem_of_getElem? (i := 203) (by decide +kernel), rfl⟩
set_option maxRecDepth 100000 in
theorem tw_204 : Cond.code (y_Si_takeTried) prog_1_method_19_code 2 none ∈ W0 := List.mem_filter.mpr ⟨List.mem_of_getElem? (i := 204) rfl, rfl⟩
theorem tw_205 : Cond.methodLink "SelfIndexedSequences" 150 (y_Pl_readFrom) ∈ W0 := List.mem_filter.mpr ⟨List.mem_of_getElem? (i := 205) (by decide +kernel), rfl⟩
theorem tw_206 : Cond.instanceMethod (y_Pl_readFrom) ∈ W0 := List.mem_filter.mpr ⟨List.mem_of_getElem? (i := 206) (by decide +kernel), rfl⟩
theorem tw_207 : Cond.selects "SelfIndexedSequences$Places" (y_Pl_readFrom) (y_Pl_readFrom) ∈ W0 := List.mem_filter.mpr ⟨List.mem_of_getElem? (i := 207) (by decide +kernel), rfl⟩
set_option maxRecDepth 100000 in
theorem tw_208 : Cond.code (y_Pl_readFrom) prog_5_method_2_code 5 none ∈ W0 := List.mem_filter.mpr ⟨List.mem_of_getElem? (i := 208) rfl, rfl⟩
theorem tw_209 : Cond.methodLink "SelfIndexedSequences$Places" 36 (y_Pl_findStarts) ∈ W0 := List.mem_filter.mpr ⟨List.mem_of_getElem? (i := 209) (by decide +kernel), rfl⟩
theorem tw_211 : Cond.instanceMethod (y_Pl_findStarts) ∈ W0 := List.mem_filter.mpr ⟨List.mem_of_getElem? (i := 211) (by decide +kernel), rfl⟩
set_option maxRecDepth 100000 in
theorem tw_212 : Cond.code (y_Pl_findStarts) prog_5_method_3_code 4 none ∈ W0 := List.mem_filter.mpr ⟨List.mem_of_getElem? (i := 212) rfl, rfl⟩
theorem tw_213 : Cond.methodLink "SelfIndexedSequencesLaw" 37 (y_Si_load) ∈ W0 := List.mem_filter.mpr ⟨List.mem_of_getElem? (i := 213) (by decide +kernel), rfl⟩
theorem tw_214 : Cond.instanceMethod (y_Si_load) ∈ W0 := List.mem_filter.mpr ⟨List.mem_of_getElem? (i := 214) (by decide +kernel), rfl⟩
theorem tw_215 : Cond.selects "SelfIndexedSequences" (y_Si_load) (y_Si_load) ∈ W0 := List.mem_filter.mpr ⟨List.mem_of_getElem? (i := 215) (by decide +kernel), rfl⟩
set_option maxRecDepth 100000 in
theorem tw_216 : Cond.code (y_Si_load) prog_1_method_5_code 1 (some .boolean) ∈ W0 := List.mem_filter.mpr ⟨List.mem_of_getElem? (i := 216) rfl, rfl⟩
theorem tw_217 : Cond.methodLink "SelfIndexedSequences" 72 (y_Im_copyFrom) ∈ W0 := List.mem_filter.mpr ⟨List.mem_of_getElem? (i := 217) (by decide +kernel), rfl⟩
theorem tw_218 : Cond.instanceMethod (y_Im_copyFrom) ∈ W0 := List.mem_filter.mpr ⟨List.mem_of_getElem? (i := 218) (by decide +kernel), rfl⟩
theorem tw_219 : Cond.selects "SelfIndexedSequences$Image" (y_Im_copyFrom) (y_Im_copyFrom) ∈ W0 := List.mem_filter.mpr ⟨List.mem_of_getElem? (i := 219) (by decide +kernel), rfl⟩
set_option maxRecDepth 100000 in
theorem tw_220 : Cond.code (y_Im_copyFrom) prog_3_method_2_code 3 none ∈ W0 := List.mem_filter.mpr ⟨List.mem_of_getElem? (i := 220) rfl, rfl⟩
theorem tw_221 : Cond.methodLink "SelfIndexedSequences" 75 (y_Im_isOfText) ∈ W0 := List.mem_filter.mpr ⟨List.mem_of_getElem? (i := 221) (by decide +kernel), rfl⟩
theorem tw_222 : Cond.instanceMethod (y_Im_isOfText) ∈ W0 := List.mem_filter.mpr ⟨List.mem_of_getElem? (i := 222) (by decide +kernel), rfl⟩
theorem tw_223 : Cond.selects "SelfIndexedSequences$Image" (y_Im_isOfText) (y_Im_isOfText) ∈ W0 := List.mem_filter.mpr ⟨List.mem_of_getElem? (i := 223) (by decide +kernel), rfl⟩
set_option maxRecDepth 100000 in
theorem tw_224 : Cond.code (y_Im_isOfText) prog_3_method_8_code 3 (some .boolean) ∈ W0 := List.mem_filter.mpr ⟨List.mem_of_getElem? (i := 224) rfl, rfl⟩
theorem tw_225 : Cond.methodLink "SelfIndexedSequencesLaw" 42 (y_Si_size) ∈ W0 := List.mem_filter.mpr ⟨List.mem_of_getElem? (i := 225) (by decide +kernel), rfl⟩
theorem tw_226 : Cond.instanceMethod (y_Si_size) ∈ W0 := List.mem_filter.mpr ⟨List.mem_of_getElem? (i := 226) (by decide +kernel), rfl⟩
theorem tw_227 : Cond.selects "SelfIndexedSequences" (y_Si_size) (y_Si_size) ∈ W0 := List.mem_filter.mpr ⟨List.mem_of_getElem? (i := 227) (by decide +kernel), rfl⟩
set_option maxRecDepth 100000 in
theorem tw_228 : Cond.code (y_Si_size) prog_1_method_6_code 1 (some .int) ∈ W0 := List.mem_filter.mpr ⟨List.mem_of_getElem? (i := 228) rfl, rfl⟩
theorem tw_229 : Cond.methodLink "SelfIndexedSequencesLaw" 46 (y_Si_image) ∈ W0 := List.mem_filter.mpr ⟨List.mem_of_getElem? (i := 229) (by decide +kernel), rfl⟩
theorem tw_230 : Cond.instanceMethod (y_Si_image) ∈ W0 := List.mem_filter.mpr ⟨List.mem_of_getElem? (i := 230) (by decide +kernel), rfl⟩
theorem tw_231 : Cond.selects "SelfIndexedSequences" (y_Si_image) (y_Si_image) ∈ W0 := List.mem_filter.mpr ⟨List.mem_of_getElem? (i := 231) (by decide +kernel), rfl⟩
set_option maxRecDepth 100000 in
theorem tw_232 : Cond.code (y_Si_image) prog_1_method_7_code 6 (some .long) ∈ W0 := List.mem_filter.mpr ⟨List.mem_of_getElem? (i := 232) rfl, rfl⟩
theorem tw_233 : Cond.methodLink "SelfIndexedSequences" 84 (y_Si_codeInByte) ∈ W0 := List.mem_filter.mpr ⟨List.mem_of_getElem? (i := 233) (by decide +kernel), rfl⟩
theorem tw_234 : Cond.static (y_Si_codeInByte) ∈ W0 := List.mem_filter.mpr ⟨List.mem_of_getElem? (i := 234) (by decide +kernel), rfl⟩
set_option maxRecDepth 100000 in
theorem tw_235 : Cond.code (y_Si_codeInByte) prog_1_method_25_code 2 (some .long) ∈ W0 := List.mem_filter.mpr ⟨List.mem_of_getElem? (i := 235) rfl, rfl⟩
theorem tw_236 : Cond.methodLink "SelfIndexedSequences" 167 (y_Si_codeOf) ∈ W0 := List.mem_filter.mpr ⟨List.mem_of_getElem? (i := 236) (by decide +kernel), rfl⟩
theorem tw_237 : Cond.static (y_Si_codeOf) ∈ W0 := List.mem_filter.mpr ⟨List.mem_of_getElem? (i := 237) (by decide +kernel), rfl⟩
set_option maxRecDepth 100000 in
theorem tw_238 : Cond.code (y_Si_codeOf) prog_1_method_27_code 1 (some .int) ∈ W0 := List.mem_filter.mpr ⟨List.mem_of_getElem? (i := 238) rfl, rfl⟩
theorem tw_239 : Cond.methodLink "SelfIndexedSequencesLaw" 51 (y_Si_rank) ∈ W0 := List.mem_filter.mpr ⟨List.mem_of_getElem? (i := 239) (by decide +kernel), rfl⟩
theorem tw_240 : Cond.instanceMethod (y_Si_rank) ∈ W0 := List.mem_filter.mpr ⟨List.mem_of_getElem? (i := 240) (by decide +kernel), rfl⟩
theorem tw_241 : Cond.selects "SelfIndexedSequences" (y_Si_rank) (y_Si_rank) ∈ W0 := List.mem_filter.mpr ⟨List.mem_of_getElem? (i := 241) (by decide +kernel), rfl⟩
set_option maxRecDepth 100000 in
theorem tw_242 : Cond.code (y_Si_rank) prog_1_method_8_code 4 (some .int) ∈ W0 := List.mem_filter.mpr ⟨List.mem_of_getElem? (i := 242) rfl, rfl⟩
theorem tw_243 : Cond.methodLink "SelfIndexedSequences" 88 (y_Im_among) ∈ W0 := List.mem_filter.mpr ⟨List.mem_of_getElem? (i := 243) (by decide +kernel), rfl⟩
theorem tw_244 : Cond.methodLink "SelfIndexedSequencesLaw" 56 (y_Si_suffix) ∈ W0 := List.mem_filter.mpr ⟨List.mem_of_getElem? (i := 244) (by decide +kernel), rfl⟩
theorem tw_245 : Cond.instanceMethod (y_Si_suffix) ∈ W0 := List.mem_filter.mpr ⟨List.mem_of_getElem? (i := 245) (by decide +kernel), rfl⟩
theorem tw_246 : Cond.selects "SelfIndexedSequences" (y_Si_suffix) (y_Si_suffix) ∈ W0 := List.mem_filter.mpr ⟨List.mem_of_getElem? (i := 246) (by decide +kernel), rfl⟩
set_option maxRecDepth 100000 in
theorem tw_247 : Cond.code (y_Si_suffix) prog_1_method_9_code 2 (some .int) ∈ W0 := List.mem_filter.mpr ⟨List.mem_of_getElem? (i := 247) rfl, rfl⟩
theorem tw_248 : Cond.methodLink "SelfIndexedSequences" 92 (y_Si_hasRow) ∈ W0 := List.mem_filter.mpr ⟨List.mem_of_getElem? (i := 248) (by decide +kernel), rfl⟩
theorem tw_250 : Cond.instanceMethod (y_Si_hasRow) ∈ W0 := List.mem_filter.mpr ⟨List.mem_of_getElem? (i := 250) (by decide +kernel), rfl⟩
set_option maxRecDepth 100000 in
theorem tw_251 : Cond.code (y_Si_hasRow) prog_1_method_20_code 2 (some .boolean) ∈ W0 := List.mem_filter.mpr ⟨List.mem_of_getElem? (i := 251) rfl, rfl⟩
theorem tw_252 : Cond.methodLink "SelfIndexedSequences" 96 (y_Pl_ofRow) ∈ W0 := List.mem_filter.mpr ⟨List.mem_of_getElem? (i := 252) (by decide +kernel), rfl⟩
theorem tw_253 : Cond.instanceMethod (y_Pl_ofRow) ∈ W0 := List.mem_filter.mpr ⟨List.mem_of_getElem? (i := 253) (by decide +kernel), rfl⟩
theorem tw_254 : Cond.selects "SelfIndexedSequences$Places" (y_Pl_ofRow) (y_Pl_ofRow) ∈ W0 := List.mem_filter.mpr ⟨List.mem_of_getElem? (i := 254) (by decide +kernel), rfl⟩
set_option maxRecDepth 100000 in
theorem tw_255 : Cond.code (y_Pl_ofRow) prog_5_method_4_code 5 (some .int) ∈ W0 := List.mem_filter.mpr ⟨List.mem_of_getElem? (i := 255) rfl, rfl⟩
theorem tw_256 : Cond.methodLink "SelfIndexedSequencesLaw" 61 (y_Si_walk) ∈ W0 := List.mem_filter.mpr ⟨List.mem_of_getElem? (i := 256) (by decide +kernel), rfl⟩
theorem tw_257 : Cond.instanceMethod (y_Si_walk) ∈ W0 := List.mem_filter.mpr ⟨List.mem_of_getElem? (i := 257) (by decide +kernel), rfl⟩
theorem tw_258 : Cond.selects "SelfIndexedSequences" (y_Si_walk) (y_Si_walk) ∈ W0 := List.mem_filter.mpr ⟨List.mem_of_getElem? (i := 258) (by decide +kernel), rfl⟩
set_option maxRecDepth 100000 in
theorem tw_259 : Cond.code (y_Si_walk) prog_1_method_10_code 2 (some .int) ∈ W0 := List.mem_filter.mpr ⟨List.mem_of_getElem? (i := 259) rfl, rfl⟩
theorem tw_260 : Cond.methodLink "SelfIndexedSequencesLaw" 65 (y_Si_sequences) ∈ W0 := List.mem_filter.mpr ⟨List.mem_of_getElem? (i := 260) (by decide +kernel), rfl⟩
theorem tw_261 : Cond.instanceMethod (y_Si_sequences) ∈ W0 := List.mem_filter.mpr ⟨List.mem_of_getElem? (i := 261) (by decide +kernel), rfl⟩
theorem tw_262 : Cond.selects "SelfIndexedSequences" (y_Si_sequences) (y_Si_sequences) ∈ W0 := List.mem_filter.mpr ⟨List.mem_of_getElem? (i := 262) (by decide +kernel), rfl⟩
set_option maxRecDepth 100000 in
theorem tw_263 : Cond.code (y_Si_sequences) prog_1_method_11_code 1 (some .int) ∈ W0 := List.mem_filter.mpr ⟨List.mem_of_getElem? (i := 263) rfl, rfl⟩
theorem tw_264 : Cond.methodLink "SelfIndexedSequencesLaw" 69 (y_Si_length) ∈ W0 := List.mem_filter.mpr ⟨List.mem_of_getElem? (i := 264) (by decide +kernel), rfl⟩
theorem tw_265 : Cond.instanceMethod (y_Si_length) ∈ W0 := List.mem_filter.mpr ⟨List.mem_of_getElem? (i := 265) (by decide +kernel), rfl⟩
theorem tw_266 : Cond.selects "SelfIndexedSequences" (y_Si_length) (y_Si_length) ∈ W0 := List.mem_filter.mpr ⟨List.mem_of_getElem? (i := 266) (by decide +kernel), rfl⟩
set_option maxRecDepth 100000 in
theorem tw_267 : Cond.code (y_Si_length) prog_1_method_12_code 2 (some .int) ∈ W0 := List.mem_filter.mpr ⟨List.mem_of_getElem? (i := 267) rfl, rfl⟩
theorem tw_268 : Cond.methodLink "SelfIndexedSequences" 103 (y_Pl_lettersOf) ∈ W0 := List.mem_filter.mpr ⟨List.mem_of_getElem? (i := 268) (by decide +kernel), rfl⟩
theorem tw_269 : Cond.instanceMethod (y_Pl_lettersOf) ∈ W0 := List.mem_filter.mpr ⟨List.mem_of_getElem? (i := 269) (by decide +kernel), rfl⟩
theorem tw_270 : Cond.selects "SelfIndexedSequences$Places" (y_Pl_lettersOf) (y_Pl_lettersOf) ∈ W0 := List.mem_filter.mpr ⟨List.mem_of_getElem? (i := 270) (by decide +kernel), rfl⟩
set_option maxRecDepth 100000 in
theorem tw_271 : Cond.code (y_Pl_lettersOf) prog_5_method_6_code 2 (some .int) ∈ W0 := List.mem_filter.mpr ⟨List.mem_of_getElem? (i := 271) rfl, rfl⟩
theorem tw_272 : Cond.methodLink "SelfIndexedSequencesLaw" 73 (y_Si_extract) ∈ W0 := List.mem_filter.mpr ⟨List.mem_of_getElem? (i := 272) (by decide +kernel), rfl⟩
theorem tw_273 : Cond.instanceMethod (y_Si_extract) ∈ W0 := List.mem_filter.mpr ⟨List.mem_of_getElem? (i := 273) (by decide +kernel), rfl⟩
theorem tw_274 : Cond.selects "SelfIndexedSequences" (y_Si_extract) (y_Si_extract) ∈ W0 := List.mem_filter.mpr ⟨List.mem_of_getElem? (i := 274) (by decide +kernel), rfl⟩
set_option maxRecDepth 100000 in
theorem tw_275 : Cond.code (y_Si_extract) prog_1_method_13_code 8 (some .long) ∈ W0 := List.mem_filter.mpr ⟨List.mem_of_getElem? (i := 275) rfl, rfl⟩
theorem tw_276 : Cond.methodLink "SelfIndexedSequences" 109 (y_Pl_rowOf) ∈ W0 := List.mem_filter.mpr ⟨List.mem_of_getElem? (i := 276) (by decide +kernel), rfl⟩
theorem tw_277 : Cond.instanceMethod (y_Pl_rowOf) ∈ W0 := List.mem_filter.mpr ⟨List.mem_of_getElem? (i := 277) (by decide +kernel), rfl⟩
theorem tw_278 : Cond.selects "SelfIndexedSequences$Places" (y_Pl_rowOf) (y_Pl_rowOf) ∈ W0 := List.mem_filter.mpr ⟨List.mem_of_getElem? (i := 278) (by decide +kernel), rfl⟩
set_option maxRecDepth 100000 in
theorem tw_279 : Cond.code (y_Pl_rowOf) prog_5_method_5_code 4 (some .int) ∈ W0 := List.mem_filter.mpr ⟨List.mem_of_getElem? (i := 279) rfl, rfl⟩
theorem tw_280 : Cond.methodLink "SelfIndexedSequencesLaw" 78 (y_Si_count) ∈ W0 := List.mem_filter.mpr ⟨List.mem_of_getElem? (i := 280) (by decide +kernel), rfl⟩
theorem tw_281 : Cond.instanceMethod (y_Si_count) ∈ W0 := List.mem_filter.mpr ⟨List.mem_of_getElem? (i := 281) (by decide +kernel), rfl⟩
theorem tw_282 : Cond.selects "SelfIndexedSequences" (y_Si_count) (y_Si_count) ∈ W0 := List.mem_filter.mpr ⟨List.mem_of_getElem? (i := 282) (by decide +kernel), rfl⟩
set_option maxRecDepth 100000 in
theorem tw_283 : Cond.code (y_Si_count) prog_1_method_14_code 3 (some .int) ∈ W0 := List.mem_filter.mpr ⟨List.mem_of_getElem? (i := 283) rfl, rfl⟩
theorem tw_284 : Cond.methodLink "SelfIndexedSequences" 115 (y_Pa_read) ∈ W0 := List.mem_filter.mpr ⟨List.mem_of_getElem? (i := 284) (by decide +kernel), rfl⟩
theorem tw_285 : Cond.instanceMethod (y_Pa_read) ∈ W0 := List.mem_filter.mpr ⟨List.mem_of_getElem? (i := 285) (by decide +kernel), rfl⟩
theorem tw_286 : Cond.selects "SelfIndexedSequences$Pattern" (y_Pa_read) (y_Pa_read) ∈ W0 := List.mem_filter.mpr ⟨List.mem_of_getElem? (i := 286) (by decide +kernel), rfl⟩
set_option maxRecDepth 100000 in
theorem tw_287 : Cond.code (y_Pa_read) prog_4_method_2_code 6 (some .boolean) ∈ W0 := List.mem_filter.mpr ⟨List.mem_of_getElem? (i := 287) rfl, rfl⟩
theorem tn_288 : Cond.methodLinkNest "SelfIndexedSequences$Pattern" 22 (y_Si_codeAt) "SelfIndexedSequences" ∈ lw_tbl := List.mem_of_getElem? (i := 288) (by decide +kernel)
theorem tn_289 : Cond.methodLinkNest "SelfIndexedSequences$Pattern" 26 (y_Si_symbolOf) "SelfIndexedSequences" ∈ lw_tbl := List.mem_of_getElem? (i := 289) (by decide +kernel)
theorem tw_290 : Cond.methodLink "SelfIndexedSequences" 119 (y_Im_search) ∈ W0 := List.mem_filter.mpr ⟨List.mem_of_getElem? (i := 290) (by decide +kernel), rfl⟩
theorem tw_291 : Cond.instanceMethod (y_Im_search) ∈ W0 := List.mem_filter.mpr ⟨List.mem_of_getElem? (i := 291) (by decide +kernel), rfl⟩
theorem tw_292 : Cond.selects "SelfIndexedSequences$Image" (y_Im_search) (y_Im_search) ∈ W0 := List.mem_filter.mpr ⟨List.mem_of_getElem? (i := 292) (by decide +kernel), rfl⟩
set_option maxRecDepth 100000 in
theorem tw_293 : Cond.code (y_Im_search) prog_3_method_9_code 4 none ∈ W0 := List.mem_filter.mpr ⟨List.mem_of_getElem? (i := 293) rfl, rfl⟩
theorem tw_294 : Cond.methodLink "SelfIndexedSequencesLaw" 83 (y_Si_place) ∈ W0 := List.mem_filter.mpr ⟨List.mem_of_getElem? (i := 294) (by decide +kernel), rfl⟩
theorem tw_295 : Cond.instanceMethod (y_Si_place) ∈ W0 := List.mem_filter.mpr ⟨List.mem_of_getElem? (i := 295) (by decide +kernel), rfl⟩
theorem tw_296 : Cond.selects "SelfIndexedSequences" (y_Si_place) (y_Si_place) ∈ W0 := List.mem_filter.mpr ⟨List.mem_of_getElem? (i := 296) (by decide +kernel), rfl⟩
set_option maxRecDepth 100000 in
theorem tw_297 : Cond.code (y_Si_place) prog_1_method_15_code 6 (some .int) ∈ W0 := List.mem_filter.mpr ⟨List.mem_of_getElem? (i := 297) rfl, rfl⟩
theorem tw_298 : Cond.methodLink "SelfIndexedSequences" 129 (y_Si_findExact) ∈ W0 := List.mem_filter.mpr ⟨List.mem_of_getElem? (i := 298) (by decide +kernel), rfl⟩
theorem tw_300 : Cond.instanceMethod (y_Si_findExact) ∈ W0 := List.mem_filter.mpr ⟨List.mem_of_getElem? (i := 300) (by decide +kernel), rfl⟩
set_option maxRecDepth 100000 in
theorem tw_301 : Cond.code (y_Si_findExact) prog_1_method_22_code 2 none ∈ W0 := List.mem_filter.mpr ⟨List.mem_of_getElem? (i := 301) rfl, rfl⟩
theorem tw_302 : Cond.methodLink "SelfIndexedSequences" 154 (y_Fi_clear) ∈ W0 := List.mem_filter.mpr ⟨List.mem_of_getElem? (i := 302) (by decide +kernel), rfl⟩
theorem tw_303 : Cond.instanceMethod (y_Fi_clear) ∈ W0 := List.mem_filter.mpr ⟨List.mem_of_getElem? (i := 303) (by decide +kernel), rfl⟩
theorem tw_304 : Cond.selects "SelfIndexedSequences$Finds" (y_Fi_clear) (y_Fi_clear) ∈ W0 := List.mem_filter.mpr ⟨List.mem_of_getElem? (i := 304) (by decide +kernel), rfl⟩
set_option maxRecDepth 100000 in
theorem tw_305 : Cond.code (y_Fi_clear) prog_2_method_2_code 2 none ∈ W0 := List.mem_filter.mpr ⟨List.mem_of_getElem? (i := 305) rfl, rfl⟩
theorem tw_306 : Cond.methodLink "SelfIndexedSequences$Finds" 19 (y_Ar_fill) ∈ W0 := List.mem_filter.mpr ⟨List.mem_of_getElem? (i := 306) (by decide +kernel), rfl⟩
theorem tw_307 : Cond.static (y_Ar_fill) ∈ W0 := List.mem_filter.mpr ⟨List.mem_of_getElem? (i := 307) (by decide +kernel), rfl⟩
set_option maxRecDepth 100000 in
theorem tw_308 : Cond.code (y_Ar_fill) prog_10_method_103_code 4 none ∈ W0 := List.mem_filter.mpr ⟨List.mem_of_getElem? (i := 308) rfl, rfl⟩
theorem tw_309 : Cond.methodLink "SelfIndexedSequences" 132 (y_Fi_numbered) ∈ W0 := List.mem_filter.mpr ⟨List.mem_of_getElem? (i := 309) (by decide +kernel), rfl⟩
theorem tw_310 : Cond.instanceMethod (y_Fi_numbered) ∈ W0 := List.mem_filter.mpr ⟨List.mem_of_getElem? (i := 310) (by decide +kernel), rfl⟩
theorem tw_311 : Cond.selects "SelfIndexedSequences$Finds" (y_Fi_numbered) (y_Fi_numbered) ∈ W0 := List.mem_filter.mpr ⟨List.mem_of_getElem? (i := 311) (by decide +kernel), rfl⟩
set_option maxRecDepth 100000 in
theorem tw_312 : Cond.code (y_Fi_numbered) prog_2_method_4_code 5 (some .int) ∈ W0 := List.mem_filter.mpr ⟨List.mem_of_getElem? (i := 312) rfl, rfl⟩
theorem tw_313 : Cond.methodLink "SelfIndexedSequences" 135 (y_Pl_sequenceAt) ∈ W0 := List.mem_filter.mpr ⟨List.mem_of_getElem? (i := 313) (by decide +kernel), rfl⟩
theorem tw_314 : Cond.instanceMethod (y_Pl_sequenceAt) ∈ W0 := List.mem_filter.mpr ⟨List.mem_of_getElem? (i := 314) (by decide +kernel), rfl⟩
theorem tw_315 : Cond.selects "SelfIndexedSequences$Places" (y_Pl_sequenceAt) (y_Pl_sequenceAt) ∈ W0 := List.mem_filter.mpr ⟨List.mem_of_getElem? (i := 315) (by decide +kernel), rfl⟩
set_option maxRecDepth 100000 in
theorem tw_316 : Cond.code (y_Pl_sequenceAt) prog_5_method_7_code 3 (some .int) ∈ W0 := List.mem_filter.mpr ⟨List.mem_of_getElem? (i := 316) rfl, rfl⟩
theorem tw_317 : Cond.methodLink "SelfIndexedSequencesLaw" 88 (y_Si_matches) ∈ W0 := List.mem_filter.mpr ⟨List.mem_of_getElem? (i := 317) (by decide +kernel), rfl⟩
theorem tw_318 : Cond.instanceMethod (y_Si_matches) ∈ W0 := List.mem_filter.mpr ⟨List.mem_of_getElem? (i := 318) (by decide +kernel), rfl⟩
theorem tw_319 : Cond.selects "SelfIndexedSequences" (y_Si_matches) (y_Si_matches) ∈ W0 := List.mem_filter.mpr ⟨List.mem_of_getElem? (i := 319) (by decide +kernel), rfl⟩
set_option maxRecDepth 100000 in
theorem tw_320 : Cond.code (y_Si_matches) prog_1_method_16_code 4 (some .int) ∈ W0 := List.mem_filter.mpr ⟨List.mem_of_getElem? (i := 320) rfl, rfl⟩
theorem tw_321 : Cond.methodLink "SelfIndexedSequences" 138 (y_Si_mayErr) ∈ W0 := List.mem_filter.mpr ⟨List.mem_of_getElem? (i := 321) (by decide +kernel), rfl⟩
theorem tw_322 : Cond.static (y_Si_mayErr) ∈ W0 := List.mem_filter.mpr ⟨List.mem_of_getElem? (i := 322) (by decide +kernel), rfl⟩
set_option maxRecDepth 100000 in
theorem tw_323 : Cond.code (y_Si_mayErr) prog_1_method_21_code 1 (some .boolean) ∈ W0 := List.mem_filter.mpr ⟨List.mem_of_getElem? (i := 323) rfl, rfl⟩
theorem tw_324 : Cond.methodLink "SelfIndexedSequences" 141 (y_Si_findAlike) ∈ W0 := List.mem_filter.mpr ⟨List.mem_of_getElem? (i := 324) (by decide +kernel), rfl⟩
theorem tw_326 : Cond.instanceMethod (y_Si_findAlike) ∈ W0 := List.mem_filter.mpr ⟨List.mem_of_getElem? (i := 326) (by decide +kernel), rfl⟩
set_option maxRecDepth 100000 in
theorem tw_327 : Cond.code (y_Si_findAlike) prog_1_method_23_code 3 none ∈ W0 := List.mem_filter.mpr ⟨List.mem_of_getElem? (i := 327) rfl, rfl⟩
theorem tw_328 : Cond.methodLink "SelfIndexedSequences" 157 (y_Pa_restart) ∈ W0 := List.mem_filter.mpr ⟨List.mem_of_getElem? (i := 328) (by decide +kernel), rfl⟩
theorem tw_329 : Cond.instanceMethod (y_Pa_restart) ∈ W0 := List.mem_filter.mpr ⟨List.mem_of_getElem? (i := 329) (by decide +kernel), rfl⟩
theorem tw_330 : Cond.selects "SelfIndexedSequences$Pattern" (y_Pa_restart) (y_Pa_restart) ∈ W0 := List.mem_filter.mpr ⟨List.mem_of_getElem? (i := 330) (by decide +kernel), rfl⟩
set_option maxRecDepth 100000 in
theorem tw_331 : Cond.code (y_Pa_restart) prog_4_method_3_code 2 none ∈ W0 := List.mem_filter.mpr ⟨List.mem_of_getElem? (i := 331) rfl, rfl⟩
theorem tw_332 : Cond.methodLink "SelfIndexedSequences" 160 (y_Pa_goOver) ∈ W0 := List.mem_filter.mpr ⟨List.mem_of_getElem? (i := 332) (by decide +kernel), rfl⟩
theorem tw_333 : Cond.instanceMethod (y_Pa_goOver) ∈ W0 := List.mem_filter.mpr ⟨List.mem_of_getElem? (i := 333) (by decide +kernel), rfl⟩
theorem tw_334 : Cond.selects "SelfIndexedSequences$Pattern" (y_Pa_goOver) (y_Pa_goOver) ∈ W0 := List.mem_filter.mpr ⟨List.mem_of_getElem? (i := 334) (by decide +kernel), rfl⟩
set_option maxRecDepth 100000 in
theorem tw_335 : Cond.code (y_Pa_goOver) prog_4_method_4_code 6 none ∈ W0 := List.mem_filter.mpr ⟨List.mem_of_getElem? (i := 335) rfl, rfl⟩
theorem tw_336 : Cond.methodLink "SelfIndexedSequences$Pattern" 30 (y_Pa_restart) ∈ W0 := List.mem_filter.mpr ⟨List.mem_of_getElem? (i := 336) (by decide +kernel), rfl⟩
theorem tw_337 : Cond.methodLink "SelfIndexedSequences$Pattern" 33 (⟨"java/lang/Math", "min", "(II)I"⟩) ∈ W0 := List.mem_filter.mpr ⟨List.mem_of_getElem? (i := 337) (by decide +kernel), rfl⟩
theorem tw_338 : Cond.static (⟨"java/lang/Math", "min", "(II)I"⟩) ∈ W0 := List.mem_filter.mpr ⟨List.mem_of_getElem? (i := 338) (by decide +kernel), rfl⟩
set_option maxRecDepth 100000 in
theorem tw_339 : Cond.code (⟨"java/lang/Math", "min", "(II)I"⟩) prog_8_method_69_code 2 (some .int) ∈ W0 := List.mem_filter.mpr ⟨List.mem_of_getElem? (i := 339) rfl, rfl⟩
theorem tw_340 : Cond.methodLink "SelfIndexedSequences" 163 (y_Pa_distance) ∈ W0 := List.mem_filter.mpr ⟨List.mem_of_getElem? (i := 340) (by decide +kernel), rfl⟩
theorem tw_341 : Cond.instanceMethod (y_Pa_distance) ∈ W0 := List.mem_filter.mpr ⟨List.mem_of_getElem? (i := 341) (by decide +kernel), rfl⟩
theorem tw_342 : Cond.selects "SelfIndexedSequences$Pattern" (y_Pa_distance) (y_Pa_distance) ∈ W0 := List.mem_filter.mpr ⟨List.mem_of_getElem? (i := 342) (by decide +kernel), rfl⟩
set_option maxRecDepth 100000 in
theorem tw_343 : Cond.code (y_Pa_distance) prog_4_method_5_code 1 (some .int) ∈ W0 := List.mem_filter.mpr ⟨List.mem_of_getElem? (i := 343) rfl, rfl⟩
theorem tw_344 : Cond.methodLink "SelfIndexedSequences" 144 (y_Fi_within) ∈ W0 := List.mem_filter.mpr ⟨List.mem_of_getElem? (i := 344) (by decide +kernel), rfl⟩
theorem tw_345 : Cond.instanceMethod (y_Fi_within) ∈ W0 := List.mem_filter.mpr ⟨List.mem_of_getElem? (i := 345) (by decide +kernel), rfl⟩
theorem tw_346 : Cond.selects "SelfIndexedSequences$Finds" (y_Fi_within) (y_Fi_within) ∈ W0 := List.mem_filter.mpr ⟨List.mem_of_getElem? (i := 346) (by decide +kernel), rfl⟩
set_option maxRecDepth 100000 in
theorem tw_347 : Cond.code (y_Fi_within) prog_2_method_3_code 4 (some .int) ∈ W0 := List.mem_filter.mpr ⟨List.mem_of_getElem? (i := 347) rfl, rfl⟩
theorem tw_348 : Cond.methodLink "SelfIndexedSequencesLaw" 92 (y_Si_match) ∈ W0 := List.mem_filter.mpr ⟨List.mem_of_getElem? (i := 348) (by decide +kernel), rfl⟩
theorem tw_349 : Cond.instanceMethod (y_Si_match) ∈ W0 := List.mem_filter.mpr ⟨List.mem_of_getElem? (i := 349) (by decide +kernel), rfl⟩
theorem tw_350 : Cond.selects "SelfIndexedSequences" (y_Si_match) (y_Si_match) ∈ W0 := List.mem_filter.mpr ⟨List.mem_of_getElem? (i := 350) (by decide +kernel), rfl⟩
set_option maxRecDepth 100000 in
theorem tw_351 : Cond.code (y_Si_match) prog_1_method_17_code 8 (some .int) ∈ W0 := List.mem_filter.mpr ⟨List.mem_of_getElem? (i := 351) rfl, rfl⟩
theorem tw_352 : Cond.methodLink "SelfIndexedSequencesLaw" 9 (y_La_cell) ∈ W0 := List.mem_filter.mpr ⟨List.mem_of_getElem? (i := 352) (by decide +kernel), rfl⟩
theorem tw_353 : Cond.static (y_La_cell) ∈ W0 := List.mem_filter.mpr ⟨List.mem_of_getElem? (i := 353) (by decide +kernel), rfl⟩
set_option maxRecDepth 100000 in
theorem tw_354 : Cond.code (y_La_cell) method_2_code 2 (some .int) ∈ W0 := List.mem_filter.mpr ⟨List.mem_of_getElem? (i := 354) rfl, rfl⟩
theorem tw_355 : Cond.classLink "SelfIndexedSequencesLaw" 18 "SelfIndexedSequencesModel" ∈ W0 := List.mem_filter.mpr ⟨List.mem_of_getElem? (i := 355) (by decide +kernel), rfl⟩
theorem tw_356 : Cond.instantiable "SelfIndexedSequencesModel" 13 ∈ W0 := List.mem_filter.mpr ⟨List.mem_of_getElem? (i := 356) (by decide +kernel), rfl⟩
theorem tw_357 : Cond.methodLink "SelfIndexedSequencesLaw" 20 (y_Mo_init) ∈ W0 := List.mem_filter.mpr ⟨List.mem_of_getElem? (i := 357) (by decide +kernel), rfl⟩
theorem tw_358 : Cond.instanceMethod (y_Mo_init) ∈ W0 := List.mem_filter.mpr ⟨List.mem_of_getElem? (i := 358) (by decide +kernel), rfl⟩
set_option maxRecDepth 100000 in
theorem tw_359 : Cond.code (y_Mo_init) prog_7_method_1_code 2 none ∈ W0 := List.mem_filter.mpr ⟨List.mem_of_getElem? (i := 359) rfl, rfl⟩
theorem tw_360 : Cond.methodLink "SelfIndexedSequencesModel" 1 (objectInit) ∈ W0 := List.mem_filter.mpr ⟨List.mem_of_getElem? (i := 360) (by decide +kernel), rfl⟩
theorem tw_361 : Cond.fieldLink "SelfIndexedSequencesModel" 42 "SelfIndexedSequencesModel" "step" "I" ∈ W0 := List.mem_filter.mpr ⟨List.mem_of_getElem? (i := 361) (by decide +kernel), rfl⟩
theorem tw_362 : Cond.fieldLink "SelfIndexedSequencesModel" 58 "SelfIndexedSequencesModel" "drafted" "I" ∈ W0 := List.mem_filter.mpr ⟨List.mem_of_getElem? (i := 362) (by decide +kernel), rfl⟩
theorem tw_363 : Cond.fieldLink "SelfIndexedSequencesModel" 7 "SelfIndexedSequencesModel" "draft" "[I" ∈ W0 := List.mem_filter.mpr ⟨List.mem_of_getElem? (i := 363) (by decide +kernel), rfl⟩
theorem tw_364 : Cond.fieldLink "SelfIndexedSequencesModel" 13 "SelfIndexedSequencesModel" "n" "I" ∈ W0 := List.mem_filter.mpr ⟨List.mem_of_getElem? (i := 364) (by decide +kernel), rfl⟩
theorem tw_365 : Cond.fieldLink "SelfIndexedSequencesModel" 17 "SelfIndexedSequencesModel" "text" "[I" ∈ W0 := List.mem_filter.mpr ⟨List.mem_of_getElem? (i := 365) (by decide +kernel), rfl⟩
theorem tw_366 : Cond.fieldLink "SelfIndexedSequencesModel" 20 "SelfIndexedSequencesModel" "order" "[I" ∈ W0 := List.mem_filter.mpr ⟨List.mem_of_getElem? (i := 366) (by decide +kernel), rfl⟩
theorem tw_367 : Cond.fieldLink "SelfIndexedSequencesModel" 23 "SelfIndexedSequencesModel" "image" "[I" ∈ W0 := List.mem_filter.mpr ⟨List.mem_of_getElem? (i := 367) (by decide +kernel), rfl⟩
theorem tw_368 : Cond.fieldLink "SelfIndexedSequencesModel" 26 "SelfIndexedSequencesModel" "used" "[Z" ∈ W0 := List.mem_filter.mpr ⟨List.mem_of_getElem? (i := 368) (by decide +kernel), rfl⟩
theorem tw_369 : Cond.fieldLink "SelfIndexedSequencesModel" 30 "SelfIndexedSequencesModel" "old" "[I" ∈ W0 := List.mem_filter.mpr ⟨List.mem_of_getElem? (i := 369) (by decide +kernel), rfl⟩
theorem tw_370 : Cond.fieldLink "SelfIndexedSequencesModel" 33 "SelfIndexedSequencesModel" "letters" "[I" ∈ W0 := List.mem_filter.mpr ⟨List.mem_of_getElem? (i := 370) (by decide +kernel), rfl⟩
theorem tw_371 : Cond.fieldLink "SelfIndexedSequencesModel" 95 "SelfIndexedSequencesModel" "many" "I" ∈ W0 := List.mem_filter.mpr ⟨List.mem_of_getElem? (i := 371) (by decide +kernel), rfl⟩
theorem tw_372 : Cond.fieldLink "SelfIndexedSequencesModel" 36 "SelfIndexedSequencesModel" "row" "[I" ∈ W0 := List.mem_filter.mpr ⟨List.mem_of_getElem? (i := 372) (by decide +kernel), rfl⟩
theorem tw_373 : Cond.fieldLink "SelfIndexedSequencesModel" 39 "SelfIndexedSequencesModel" "least" "[I" ∈ W0 := List.mem_filter.mpr ⟨List.mem_of_getElem? (i := 373) (by decide +kernel), rfl⟩
theorem tw_374 : Cond.laysFinal "SelfIndexedSequencesModel" "SelfIndexedSequencesModel" "step" "I" ∈ W0 := List.mem_filter.mpr ⟨List.mem_of_getElem? (i := 374) (by decide +kernel), rfl⟩
theorem tw_375 : Cond.soleField "SelfIndexedSequencesModel" "step" ∈ W0 := List.mem_filter.mpr ⟨List.mem_of_getElem? (i := 375) (by decide +kernel), rfl⟩
theorem tw_376 : Cond.lays "SelfIndexedSequencesModel" "SelfIndexedSequencesModel" "drafted" "I" ∈ W0 := List.mem_filter.mpr ⟨List.mem_of_getElem? (i := 376) (by decide +kernel), rfl⟩
theorem tw_377 : Cond.soleField "SelfIndexedSequencesModel" "drafted" ∈ W0 := List.mem_filter.mpr ⟨List.mem_of_getElem? (i := 377) (by decide +kernel), rfl⟩
theorem tw_378 : Cond.laysFinal "SelfIndexedSequencesModel" "SelfIndexedSequencesModel" "draft" "[I" ∈ W0 := List.mem_filter.mpr ⟨List.mem_of_getElem? (i := 378) (by decide +kernel), rfl⟩
theorem tw_379 : Cond.soleField "SelfIndexedSequencesModel" "draft" ∈ W0 := List.mem_filter.mpr ⟨List.mem_of_getElem? (i := 379) (by decide +kernel), rfl⟩
theorem tw_380 : Cond.lays "SelfIndexedSequencesModel" "SelfIndexedSequencesModel" "n" "I" ∈ W0 := List.mem_filter.mpr ⟨List.mem_of_getElem? (i := 380) (by decide +kernel), rfl⟩
theorem tw_381 : Cond.soleField "SelfIndexedSequencesModel" "n" ∈ W0 := List.mem_filter.mpr ⟨List.mem_of_getElem? (i := 381) (by decide +kernel), rfl⟩
theorem tw_382 : Cond.laysFinal "SelfIndexedSequencesModel" "SelfIndexedSequencesModel" "text" "[I" ∈ W0 := List.mem_filter.mpr ⟨List.mem_of_getElem? (i := 382) (by decide +kernel), rfl⟩
theorem tw_383 : Cond.soleField "SelfIndexedSequencesModel" "text" ∈ W0 := List.mem_filter.mpr ⟨List.mem_of_getElem? (i := 383) (by decide +kernel), rfl⟩
theorem tw_384 : Cond.laysFinal "SelfIndexedSequencesModel" "SelfIndexedSequencesModel" "order" "[I" ∈ W0 := List.mem_filter.mpr ⟨List.mem_of_getElem? (i := 384) (by decide +kernel), rfl⟩
theorem tw_385 : Cond.soleField "SelfIndexedSequencesModel" "order" ∈ W0 := List.mem_filter.mpr ⟨List.mem_of_getElem? (i := 385) (by decide +kernel), rfl⟩
theorem tw_386 : Cond.laysFinal "SelfIndexedSequencesModel" "SelfIndexedSequencesModel" "image" "[I" ∈ W0 := List.mem_filter.mpr ⟨List.mem_of_getElem? (i := 386) (by decide +kernel), rfl⟩
theorem tw_387 : Cond.soleField "SelfIndexedSequencesModel" "image" ∈ W0 := List.mem_filter.mpr ⟨List.mem_of_getElem? (i := 387) (by decide +kernel), rfl⟩
theorem tw_388 : Cond.laysFinal "SelfIndexedSequencesModel" "SelfIndexedSequencesModel" "used" "[Z" ∈ W0 := List.mem_filter.mpr ⟨List.mem_of_getElem? (i := 388) (by decide +kernel), rfl⟩
theorem tw_389 : Cond.soleField "SelfIndexedSequencesModel" "used" ∈ W0 := List.mem_filter.mpr ⟨List.mem_of_getElem? (i := 389) (by decide +kernel), rfl⟩
theorem tw_390 : Cond.laysFinal "SelfIndexedSequencesModel" "SelfIndexedSequencesModel" "old" "[I" ∈ W0 := List.mem_filter.mpr ⟨List.mem_of_getElem? (i := 390) (by decide +kernel), rfl⟩
theorem tw_391 : Cond.soleField "SelfIndexedSequencesModel" "old" ∈ W0 := List.mem_filter.mpr ⟨List.mem_of_getElem? (i := 391) (by decide +kernel), rfl⟩
theorem tw_392 : Cond.laysFinal "SelfIndexedSequencesModel" "SelfIndexedSequencesModel" "letters" "[I" ∈ W0 := List.mem_filter.mpr ⟨List.mem_of_getElem? (i := 392) (by decide +kernel), rfl⟩
theorem tw_393 : Cond.soleField "SelfIndexedSequencesModel" "letters" ∈ W0 := List.mem_filter.mpr ⟨List.mem_of_getElem? (i := 393) (by decide +kernel), rfl⟩
theorem tw_394 : Cond.lays "SelfIndexedSequencesModel" "SelfIndexedSequencesModel" "many" "I" ∈ W0 := List.mem_filter.mpr ⟨List.mem_of_getElem? (i := 394) (by decide +kernel), rfl⟩
theorem tw_395 : Cond.soleField "SelfIndexedSequencesModel" "many" ∈ W0 := List.mem_filter.mpr ⟨List.mem_of_getElem? (i := 395) (by decide +kernel), rfl⟩
theorem tw_396 : Cond.laysFinal "SelfIndexedSequencesModel" "SelfIndexedSequencesModel" "row" "[I" ∈ W0 := List.mem_filter.mpr ⟨List.mem_of_getElem? (i := 396) (by decide +kernel), rfl⟩
theorem tw_397 : Cond.soleField "SelfIndexedSequencesModel" "row" ∈ W0 := List.mem_filter.mpr ⟨List.mem_of_getElem? (i := 397) (by decide +kernel), rfl⟩
theorem tw_398 : Cond.laysFinal "SelfIndexedSequencesModel" "SelfIndexedSequencesModel" "least" "[I" ∈ W0 := List.mem_filter.mpr ⟨List.mem_of_getElem? (i := 398) (by decide +kernel), rfl⟩
theorem tw_399 : Cond.soleField "SelfIndexedSequencesModel" "least" ∈ W0 := List.mem_filter.mpr ⟨List.mem_of_getElem? (i := 399) (by decide +kernel), rfl⟩
theorem tw_400 : Cond.superclass "SelfIndexedSequencesModel" "java/lang/Object" ∈ W0 := List.mem_filter.mpr ⟨List.mem_of_getElem? (i := 400) (by decide +kernel), rfl⟩
theorem tw_401 : Cond.arrayClass .boolean ∈ W0 := List.mem_filter.mpr ⟨List.mem_of_getElem? (i := 401) (by decide +kernel), rfl⟩
theorem tw_402 : Cond.methodLink "SelfIndexedSequencesLaw" 27 (y_Mo_put) ∈ W0 := List.mem_filter.mpr ⟨List.mem_of_getElem? (i := 402) (by decide +kernel), rfl⟩
theorem tw_403 : Cond.instanceMethod (y_Mo_put) ∈ W0 := List.mem_filter.mpr ⟨List.mem_of_getElem? (i := 403) (by decide +kernel), rfl⟩
theorem tw_404 : Cond.selects "SelfIndexedSequencesModel" (y_Mo_put) (y_Mo_put) ∈ W0 := List.mem_filter.mpr ⟨List.mem_of_getElem? (i := 404) (by decide +kernel), rfl⟩
set_option maxRecDepth 100000 in
theorem tw_405 : Cond.code (y_Mo_put) prog_7_method_5_code 6 (some .boolean) ∈ W0 := List.mem_filter.mpr ⟨List.mem_of_getElem? (i := 405) rfl, rfl⟩
theorem tw_406 : Cond.methodLink "SelfIndexedSequencesModel" 51 (y_Mo_byteOf) ∈ W0 := List.mem_filter.mpr ⟨List.mem_of_getElem? (i := 406) (by decide +kernel), rfl⟩
theorem tw_407 : Cond.static (y_Mo_byteOf) ∈ W0 := List.mem_filter.mpr ⟨List.mem_of_getElem? (i := 407) (by decide +kernel), rfl⟩
set_option maxRecDepth 100000 in
theorem tw_408 : Cond.code (y_Mo_byteOf) prog_7_method_4_code 3 (some .int) ∈ W0 := List.mem_filter.mpr ⟨List.mem_of_getElem? (i := 408) rfl, rfl⟩
theorem tw_409 : Cond.constantLong "SelfIndexedSequencesModel" 49 255 ∈ W0 := List.mem_filter.mpr ⟨List.mem_of_getElem? (i := 409) (by decide +kernel), rfl⟩
theorem tw_410 : Cond.methodLink "SelfIndexedSequencesModel" 55 (y_Mo_isSymbol) ∈ W0 := List.mem_filter.mpr ⟨List.mem_of_getElem? (i := 410) (by decide +kernel), rfl⟩
theorem tw_411 : Cond.static (y_Mo_isSymbol) ∈ W0 := List.mem_filter.mpr ⟨List.mem_of_getElem? (i := 411) (by decide +kernel), rfl⟩
set_option maxRecDepth 100000 in
theorem tw_412 : Cond.code (y_Mo_isSymbol) prog_7_method_3_code 1 (some .boolean) ∈ W0 := List.mem_filter.mpr ⟨List.mem_of_getElem? (i := 412) rfl, rfl⟩
theorem tw_413 : Cond.methodLink "SelfIndexedSequencesModel" 45 (y_Mo_isLetter) ∈ W0 := List.mem_filter.mpr ⟨List.mem_of_getElem? (i := 413) (by decide +kernel), rfl⟩
theorem tw_414 : Cond.static (y_Mo_isLetter) ∈ W0 := List.mem_filter.mpr ⟨List.mem_of_getElem? (i := 414) (by decide +kernel), rfl⟩
set_option maxRecDepth 100000 in
theorem tw_415 : Cond.code (y_Mo_isLetter) prog_7_method_2_code 1 (some .boolean) ∈ W0 := List.mem_filter.mpr ⟨List.mem_of_getElem? (i := 415) rfl, rfl⟩
theorem tw_416 : Cond.methodLink "SelfIndexedSequencesLaw" 31 (y_Mo_scrap) ∈ W0 := List.mem_filter.mpr ⟨List.mem_of_getElem? (i := 416) (by decide +kernel), rfl⟩
theorem tw_417 : Cond.instanceMethod (y_Mo_scrap) ∈ W0 := List.mem_filter.mpr ⟨List.mem_of_getElem? (i := 417) (by decide +kernel), rfl⟩
theorem tw_418 : Cond.selects "SelfIndexedSequencesModel" (y_Mo_scrap) (y_Mo_scrap) ∈ W0 := List.mem_filter.mpr ⟨List.mem_of_getElem? (i := 418) (by decide +kernel), rfl⟩
set_option maxRecDepth 100000 in
theorem tw_419 : Cond.code (y_Mo_scrap) prog_7_method_6_code 1 none ∈ W0 := List.mem_filter.mpr ⟨List.mem_of_getElem? (i := 419) rfl, rfl⟩
theorem tw_420 : Cond.methodLink "SelfIndexedSequencesLaw" 36 (y_Mo_build) ∈ W0 := List.mem_filter.mpr ⟨List.mem_of_getElem? (i := 420) (by decide +kernel), rfl⟩
theorem tw_421 : Cond.instanceMethod (y_Mo_build) ∈ W0 := List.mem_filter.mpr ⟨List.mem_of_getElem? (i := 421) (by decide +kernel), rfl⟩
theorem tw_422 : Cond.selects "SelfIndexedSequencesModel" (y_Mo_build) (y_Mo_build) ∈ W0 := List.mem_filter.mpr ⟨List.mem_of_getElem? (i := 422) (by decide +kernel), rfl⟩
set_option maxRecDepth 100000 in
theorem tw_423 : Cond.code (y_Mo_build) prog_7_method_11_code 3 (some .int) ∈ W0 := List.mem_filter.mpr ⟨List.mem_of_getElem? (i := 423) rfl, rfl⟩
theorem tw_424 : Cond.methodLink "SelfIndexedSequencesModel" 72 (y_Mo_sort) ∈ W0 := List.mem_filter.mpr ⟨List.mem_of_getElem? (i := 424) (by decide +kernel), rfl⟩
theorem tw_426 : Cond.instanceMethod (y_Mo_sort) ∈ W0 := List.mem_filter.mpr ⟨List.mem_of_getElem? (i := 426) (by decide +kernel), rfl⟩
set_option maxRecDepth 100000 in
theorem tw_427 : Cond.code (y_Mo_sort) prog_7_method_10_code 3 none ∈ W0 := List.mem_filter.mpr ⟨List.mem_of_getElem? (i := 427) rfl, rfl⟩
theorem tw_428 : Cond.methodLink "SelfIndexedSequencesModel" 68 (y_Mo_before) ∈ W0 := List.mem_filter.mpr ⟨List.mem_of_getElem? (i := 428) (by decide +kernel), rfl⟩
theorem tw_430 : Cond.instanceMethod (y_Mo_before) ∈ W0 := List.mem_filter.mpr ⟨List.mem_of_getElem? (i := 430) (by decide +kernel), rfl⟩
set_option maxRecDepth 100000 in
theorem tw_431 : Cond.code (y_Mo_before) prog_7_method_9_code 5 (some .boolean) ∈ W0 := List.mem_filter.mpr ⟨List.mem_of_getElem? (i := 431) rfl, rfl⟩
theorem tw_432 : Cond.methodLink "SelfIndexedSequencesModel" 61 (y_Mo_symbolAt) ∈ W0 := List.mem_filter.mpr ⟨List.mem_of_getElem? (i := 432) (by decide +kernel), rfl⟩
theorem tw_434 : Cond.instanceMethod (y_Mo_symbolAt) ∈ W0 := List.mem_filter.mpr ⟨List.mem_of_getElem? (i := 434) (by decide +kernel), rfl⟩
set_option maxRecDepth 100000 in
theorem tw_435 : Cond.code (y_Mo_symbolAt) prog_7_method_8_code 2 (some .int) ∈ W0 := List.mem_filter.mpr ⟨List.mem_of_getElem? (i := 435) rfl, rfl⟩
theorem tw_436 : Cond.methodLink "SelfIndexedSequencesModel" 65 (y_Mo_worth) ∈ W0 := List.mem_filter.mpr ⟨List.mem_of_getElem? (i := 436) (by decide +kernel), rfl⟩
theorem tw_437 : Cond.static (y_Mo_worth) ∈ W0 := List.mem_filter.mpr ⟨List.mem_of_getElem? (i := 437) (by decide +kernel), rfl⟩
set_option maxRecDepth 100000 in
theorem tw_438 : Cond.code (y_Mo_worth) prog_7_method_7_code 1 (some .int) ∈ W0 := List.mem_filter.mpr ⟨List.mem_of_getElem? (i := 438) rfl, rfl⟩
theorem tw_439 : Cond.methodLink "SelfIndexedSequencesModel" 75 (y_Mo_sequences) ∈ W0 := List.mem_filter.mpr ⟨List.mem_of_getElem? (i := 439) (by decide +kernel), rfl⟩
theorem tw_440 : Cond.instanceMethod (y_Mo_sequences) ∈ W0 := List.mem_filter.mpr ⟨List.mem_of_getElem? (i := 440) (by decide +kernel), rfl⟩
theorem tw_441 : Cond.selects "SelfIndexedSequencesModel" (y_Mo_sequences) (y_Mo_sequences) ∈ W0 := List.mem_filter.mpr ⟨List.mem_of_getElem? (i := 441) (by decide +kernel), rfl⟩
set_option maxRecDepth 100000 in
theorem tw_442 : Cond.code (y_Mo_sequences) prog_7_method_20_code 3 (some .int) ∈ W0 := List.mem_filter.mpr ⟨List.mem_of_getElem? (i := 442) rfl, rfl⟩
theorem tw_443 : Cond.methodLink "SelfIndexedSequencesLaw" 41 (y_Mo_load) ∈ W0 := List.mem_filter.mpr ⟨List.mem_of_getElem? (i := 443) (by decide +kernel), rfl⟩
theorem tw_444 : Cond.instanceMethod (y_Mo_load) ∈ W0 := List.mem_filter.mpr ⟨List.mem_of_getElem? (i := 444) (by decide +kernel), rfl⟩
theorem tw_445 : Cond.selects "SelfIndexedSequencesModel" (y_Mo_load) (y_Mo_load) ∈ W0 := List.mem_filter.mpr ⟨List.mem_of_getElem? (i := 445) (by decide +kernel), rfl⟩
set_option maxRecDepth 100000 in
theorem tw_446 : Cond.code (y_Mo_load) prog_7_method_13_code 4 (some .boolean) ∈ W0 := List.mem_filter.mpr ⟨List.mem_of_getElem? (i := 446) rfl, rfl⟩
theorem tw_447 : Cond.methodLink "SelfIndexedSequencesModel" 79 (y_Mo_guess) ∈ W0 := List.mem_filter.mpr ⟨List.mem_of_getElem? (i := 447) (by decide +kernel), rfl⟩
theorem tw_449 : Cond.instanceMethod (y_Mo_guess) ∈ W0 := List.mem_filter.mpr ⟨List.mem_of_getElem? (i := 449) (by decide +kernel), rfl⟩
set_option maxRecDepth 100000 in
theorem tw_450 : Cond.code (y_Mo_guess) prog_7_method_14_code 4 (some .boolean) ∈ W0 := List.mem_filter.mpr ⟨List.mem_of_getElem? (i := 450) rfl, rfl⟩
theorem tw_451 : Cond.methodLink "SelfIndexedSequencesModel" 83 (y_Mo_follow) ∈ W0 := List.mem_filter.mpr ⟨List.mem_of_getElem? (i := 451) (by decide +kernel), rfl⟩
theorem tw_453 : Cond.instanceMethod (y_Mo_follow) ∈ W0 := List.mem_filter.mpr ⟨List.mem_of_getElem? (i := 453) (by decide +kernel), rfl⟩
set_option maxRecDepth 100000 in
theorem tw_454 : Cond.code (y_Mo_follow) prog_7_method_12_code 6 (some .int) ∈ W0 := List.mem_filter.mpr ⟨List.mem_of_getElem? (i := 454) rfl, rfl⟩
theorem tw_455 : Cond.methodLink "SelfIndexedSequencesLaw" 45 (y_Mo_size) ∈ W0 := List.mem_filter.mpr ⟨List.mem_of_getElem? (i := 455) (by decide +kernel), rfl⟩
theorem tw_456 : Cond.instanceMethod (y_Mo_size) ∈ W0 := List.mem_filter.mpr ⟨List.mem_of_getElem? (i := 456) (by decide +kernel), rfl⟩
theorem tw_457 : Cond.selects "SelfIndexedSequencesModel" (y_Mo_size) (y_Mo_size) ∈ W0 := List.mem_filter.mpr ⟨List.mem_of_getElem? (i := 457) (by decide +kernel), rfl⟩
set_option maxRecDepth 100000 in
theorem tw_458 : Cond.code (y_Mo_size) prog_7_method_15_code 1 (some .int) ∈ W0 := List.mem_filter.mpr ⟨List.mem_of_getElem? (i := 458) rfl, rfl⟩
theorem tw_459 : Cond.methodLink "SelfIndexedSequencesLaw" 50 (y_Mo_image) ∈ W0 := List.mem_filter.mpr ⟨List.mem_of_getElem? (i := 459) (by decide +kernel), rfl⟩
theorem tw_460 : Cond.instanceMethod (y_Mo_image) ∈ W0 := List.mem_filter.mpr ⟨List.mem_of_getElem? (i := 460) (by decide +kernel), rfl⟩
theorem tw_461 : Cond.selects "SelfIndexedSequencesModel" (y_Mo_image) (y_Mo_image) ∈ W0 := List.mem_filter.mpr ⟨List.mem_of_getElem? (i := 461) (by decide +kernel), rfl⟩
set_option maxRecDepth 100000 in
theorem tw_462 : Cond.code (y_Mo_image) prog_7_method_16_code 5 (some .long) ∈ W0 := List.mem_filter.mpr ⟨List.mem_of_getElem? (i := 462) rfl, rfl⟩
theorem tw_463 : Cond.methodLink "SelfIndexedSequencesLaw" 55 (y_Mo_rank) ∈ W0 := List.mem_filter.mpr ⟨List.mem_of_getElem? (i := 463) (by decide +kernel), rfl⟩
theorem tw_464 : Cond.instanceMethod (y_Mo_rank) ∈ W0 := List.mem_filter.mpr ⟨List.mem_of_getElem? (i := 464) (by decide +kernel), rfl⟩
theorem tw_465 : Cond.selects "SelfIndexedSequencesModel" (y_Mo_rank) (y_Mo_rank) ∈ W0 := List.mem_filter.mpr ⟨List.mem_of_getElem? (i := 465) (by decide +kernel), rfl⟩
set_option maxRecDepth 100000 in
theorem tw_466 : Cond.code (y_Mo_rank) prog_7_method_17_code 5 (some .int) ∈ W0 := List.mem_filter.mpr ⟨List.mem_of_getElem? (i := 466) rfl, rfl⟩
theorem tw_467 : Cond.methodLink "SelfIndexedSequencesLaw" 60 (y_Mo_suffix) ∈ W0 := List.mem_filter.mpr ⟨List.mem_of_getElem? (i := 467) (by decide +kernel), rfl⟩
theorem tw_468 : Cond.instanceMethod (y_Mo_suffix) ∈ W0 := List.mem_filter.mpr ⟨List.mem_of_getElem? (i := 468) (by decide +kernel), rfl⟩
theorem tw_469 : Cond.selects "SelfIndexedSequencesModel" (y_Mo_suffix) (y_Mo_suffix) ∈ W0 := List.mem_filter.mpr ⟨List.mem_of_getElem? (i := 469) (by decide +kernel), rfl⟩
set_option maxRecDepth 100000 in
theorem tw_470 : Cond.code (y_Mo_suffix) prog_7_method_18_code 2 (some .int) ∈ W0 := List.mem_filter.mpr ⟨List.mem_of_getElem? (i := 470) rfl, rfl⟩
theorem tw_471 : Cond.methodLink "SelfIndexedSequencesLaw" 64 (y_Mo_walk) ∈ W0 := List.mem_filter.mpr ⟨List.mem_of_getElem? (i := 471) (by decide +kernel), rfl⟩
theorem tw_472 : Cond.instanceMethod (y_Mo_walk) ∈ W0 := List.mem_filter.mpr ⟨List.mem_of_getElem? (i := 472) (by decide +kernel), rfl⟩
theorem tw_473 : Cond.selects "SelfIndexedSequencesModel" (y_Mo_walk) (y_Mo_walk) ∈ W0 := List.mem_filter.mpr ⟨List.mem_of_getElem? (i := 473) (by decide +kernel), rfl⟩
set_option maxRecDepth 100000 in
theorem tw_474 : Cond.code (y_Mo_walk) prog_7_method_19_code 2 (some .int) ∈ W0 := List.mem_filter.mpr ⟨List.mem_of_getElem? (i := 474) rfl, rfl⟩
theorem tw_475 : Cond.methodLink "SelfIndexedSequencesLaw" 68 (y_Mo_sequences) ∈ W0 := List.mem_filter.mpr ⟨List.mem_of_getElem? (i := 475) (by decide +kernel), rfl⟩
theorem tw_476 : Cond.methodLink "SelfIndexedSequencesLaw" 72 (y_Mo_length) ∈ W0 := List.mem_filter.mpr ⟨List.mem_of_getElem? (i := 476) (by decide +kernel), rfl⟩
theorem tw_477 : Cond.instanceMethod (y_Mo_length) ∈ W0 := List.mem_filter.mpr ⟨List.mem_of_getElem? (i := 477) (by decide +kernel), rfl⟩
theorem tw_478 : Cond.selects "SelfIndexedSequencesModel" (y_Mo_length) (y_Mo_length) ∈ W0 := List.mem_filter.mpr ⟨List.mem_of_getElem? (i := 478) (by decide +kernel), rfl⟩
set_option maxRecDepth 100000 in
theorem tw_479 : Cond.code (y_Mo_length) prog_7_method_23_code 3 (some .int) ∈ W0 := List.mem_filter.mpr ⟨List.mem_of_getElem? (i := 479) rfl, rfl⟩
theorem tw_480 : Cond.methodLink "SelfIndexedSequencesModel" 86 (y_Mo_beginning) ∈ W0 := List.mem_filter.mpr ⟨List.mem_of_getElem? (i := 480) (by decide +kernel), rfl⟩
theorem tw_482 : Cond.instanceMethod (y_Mo_beginning) ∈ W0 := List.mem_filter.mpr ⟨List.mem_of_getElem? (i := 482) (by decide +kernel), rfl⟩
set_option maxRecDepth 100000 in
theorem tw_483 : Cond.code (y_Mo_beginning) prog_7_method_21_code 4 (some .int) ∈ W0 := List.mem_filter.mpr ⟨List.mem_of_getElem? (i := 483) rfl, rfl⟩
theorem tw_484 : Cond.methodLink "SelfIndexedSequencesModel" 89 (y_Mo_end) ∈ W0 := List.mem_filter.mpr ⟨List.mem_of_getElem? (i := 484) (by decide +kernel), rfl⟩
theorem tw_486 : Cond.instanceMethod (y_Mo_end) ∈ W0 := List.mem_filter.mpr ⟨List.mem_of_getElem? (i := 486) (by decide +kernel), rfl⟩
set_option maxRecDepth 100000 in
theorem tw_487 : Cond.code (y_Mo_end) prog_7_method_22_code 3 (some .int) ∈ W0 := List.mem_filter.mpr ⟨List.mem_of_getElem? (i := 487) rfl, rfl⟩
theorem tw_488 : Cond.methodLink "SelfIndexedSequencesLaw" 77 (y_Mo_extract) ∈ W0 := List.mem_filter.mpr ⟨List.mem_of_getElem? (i := 488) (by decide +kernel), rfl⟩
theorem tw_489 : Cond.instanceMethod (y_Mo_extract) ∈ W0 := List.mem_filter.mpr ⟨List.mem_of_getElem? (i := 489) (by decide +kernel), rfl⟩
theorem tw_490 : Cond.selects "SelfIndexedSequencesModel" (y_Mo_extract) (y_Mo_extract) ∈ W0 := List.mem_filter.mpr ⟨List.mem_of_getElem? (i := 490) (by decide +kernel), rfl⟩
set_option maxRecDepth 100000 in
theorem tw_491 : Cond.code (y_Mo_extract) prog_7_method_24_code 7 (some .long) ∈ W0 := List.mem_filter.mpr ⟨List.mem_of_getElem? (i := 491) rfl, rfl⟩
theorem tw_492 : Cond.methodLink "SelfIndexedSequencesModel" 92 (y_Mo_length) ∈ W0 := List.mem_filter.mpr ⟨List.mem_of_getElem? (i := 492) (by decide +kernel), rfl⟩
theorem tw_493 : Cond.methodLink "SelfIndexedSequencesLaw" 82 (y_Mo_count) ∈ W0 := List.mem_filter.mpr ⟨List.mem_of_getElem? (i := 493) (by decide +kernel), rfl⟩
theorem tw_494 : Cond.instanceMethod (y_Mo_count) ∈ W0 := List.mem_filter.mpr ⟨List.mem_of_getElem? (i := 494) (by decide +kernel), rfl⟩
theorem tw_495 : Cond.selects "SelfIndexedSequencesModel" (y_Mo_count) (y_Mo_count) ∈ W0 := List.mem_filter.mpr ⟨List.mem_of_getElem? (i := 495) (by decide +kernel), rfl⟩
set_option maxRecDepth 100000 in
theorem tw_496 : Cond.code (y_Mo_count) prog_7_method_28_code 3 (some .int) ∈ W0 := List.mem_filter.mpr ⟨List.mem_of_getElem? (i := 496) rfl, rfl⟩
theorem tw_497 : Cond.methodLink "SelfIndexedSequencesModel" 101 (y_Mo_read) ∈ W0 := List.mem_filter.mpr ⟨List.mem_of_getElem? (i := 497) (by decide +kernel), rfl⟩
theorem tw_499 : Cond.instanceMethod (y_Mo_read) ∈ W0 := List.mem_filter.mpr ⟨List.mem_of_getElem? (i := 499) (by decide +kernel), rfl⟩
set_option maxRecDepth 100000 in
theorem tw_500 : Cond.code (y_Mo_read) prog_7_method_25_code 4 (some .boolean) ∈ W0 := List.mem_filter.mpr ⟨List.mem_of_getElem? (i := 500) rfl, rfl⟩
theorem tw_501 : Cond.methodLink "SelfIndexedSequencesModel" 105 (y_Mo_search) ∈ W0 := List.mem_filter.mpr ⟨List.mem_of_getElem? (i := 501) (by decide +kernel), rfl⟩
theorem tw_503 : Cond.instanceMethod (y_Mo_search) ∈ W0 := List.mem_filter.mpr ⟨List.mem_of_getElem? (i := 503) (by decide +kernel), rfl⟩
set_option maxRecDepth 100000 in
theorem tw_504 : Cond.code (y_Mo_search) prog_7_method_27_code 4 (some .int) ∈ W0 := List.mem_filter.mpr ⟨List.mem_of_getElem? (i := 504) rfl, rfl⟩
theorem tw_505 : Cond.methodLink "SelfIndexedSequencesModel" 98 (y_Mo_occurs) ∈ W0 := List.mem_filter.mpr ⟨List.mem_of_getElem? (i := 505) (by decide +kernel), rfl⟩
theorem tw_507 : Cond.instanceMethod (y_Mo_occurs) ∈ W0 := List.mem_filter.mpr ⟨List.mem_of_getElem? (i := 507) (by decide +kernel), rfl⟩
set_option maxRecDepth 100000 in
theorem tw_508 : Cond.code (y_Mo_occurs) prog_7_method_26_code 4 (some .boolean) ∈ W0 := List.mem_filter.mpr ⟨List.mem_of_getElem? (i := 508) rfl, rfl⟩
theorem tw_509 : Cond.methodLink "SelfIndexedSequencesLaw" 87 (y_Mo_place) ∈ W0 := List.mem_filter.mpr ⟨List.mem_of_getElem? (i := 509) (by decide +kernel), rfl⟩
theorem tw_510 : Cond.instanceMethod (y_Mo_place) ∈ W0 := List.mem_filter.mpr ⟨List.mem_of_getElem? (i := 510) (by decide +kernel), rfl⟩
theorem tw_511 : Cond.selects "SelfIndexedSequencesModel" (y_Mo_place) (y_Mo_place) ∈ W0 := List.mem_filter.mpr ⟨List.mem_of_getElem? (i := 511) (by decide +kernel), rfl⟩
set_option maxRecDepth 100000 in
theorem tw_512 : Cond.code (y_Mo_place) prog_7_method_29_code 8 (some .int) ∈ W0 := List.mem_filter.mpr ⟨List.mem_of_getElem? (i := 512) rfl, rfl⟩
theorem tw_513 : Cond.methodLink "SelfIndexedSequencesLaw" 91 (y_Mo_matches) ∈ W0 := List.mem_filter.mpr ⟨List.mem_of_getElem? (i := 513) (by decide +kernel), rfl⟩
theorem tw_514 : Cond.instanceMethod (y_Mo_matches) ∈ W0 := List.mem_filter.mpr ⟨List.mem_of_getElem? (i := 514) (by decide +kernel), rfl⟩
theorem tw_515 : Cond.selects "SelfIndexedSequencesModel" (y_Mo_matches) (y_Mo_matches) ∈ W0 := List.mem_filter.mpr ⟨List.mem_of_getElem? (i := 515) (by decide +kernel), rfl⟩
set_option maxRecDepth 100000 in
theorem tw_516 : Cond.code (y_Mo_matches) prog_7_method_33_code 4 (some .int) ∈ W0 := List.mem_filter.mpr ⟨List.mem_of_getElem? (i := 516) rfl, rfl⟩
theorem tw_517 : Cond.methodLink "SelfIndexedSequencesModel" 116 (y_Mo_look) ∈ W0 := List.mem_filter.mpr ⟨List.mem_of_getElem? (i := 517) (by decide +kernel), rfl⟩
theorem tw_519 : Cond.instanceMethod (y_Mo_look) ∈ W0 := List.mem_filter.mpr ⟨List.mem_of_getElem? (i := 519) (by decide +kernel), rfl⟩
set_option maxRecDepth 100000 in
theorem tw_520 : Cond.code (y_Mo_look) prog_7_method_32_code 9 (some .int) ∈ W0 := List.mem_filter.mpr ⟨List.mem_of_getElem? (i := 520) rfl, rfl⟩
theorem tw_521 : Cond.methodLink "SelfIndexedSequencesModel" 112 (y_Mo_measure) ∈ W0 := List.mem_filter.mpr ⟨List.mem_of_getElem? (i := 521) (by decide +kernel), rfl⟩
theorem tw_523 : Cond.instanceMethod (y_Mo_measure) ∈ W0 := List.mem_filter.mpr ⟨List.mem_of_getElem? (i := 523) (by decide +kernel), rfl⟩
set_option maxRecDepth 100000 in
theorem tw_524 : Cond.code (y_Mo_measure) prog_7_method_31_code 6 none ∈ W0 := List.mem_filter.mpr ⟨List.mem_of_getElem? (i := 524) rfl, rfl⟩
theorem tw_525 : Cond.methodLink "SelfIndexedSequencesModel" 108 (y_Mo_letter) ∈ W0 := List.mem_filter.mpr ⟨List.mem_of_getElem? (i := 525) (by decide +kernel), rfl⟩
theorem tw_527 : Cond.instanceMethod (y_Mo_letter) ∈ W0 := List.mem_filter.mpr ⟨List.mem_of_getElem? (i := 527) (by decide +kernel), rfl⟩
set_option maxRecDepth 100000 in
theorem tw_528 : Cond.code (y_Mo_letter) prog_7_method_30_code 5 none ∈ W0 := List.mem_filter.mpr ⟨List.mem_of_getElem? (i := 528) rfl, rfl⟩
theorem tw_529 : Cond.methodLink "SelfIndexedSequencesLaw" 96 (y_Mo_match) ∈ W0 := List.mem_filter.mpr ⟨List.mem_of_getElem? (i := 529) (by decide +kernel), rfl⟩
theorem tw_530 : Cond.instanceMethod (y_Mo_match) ∈ W0 := List.mem_filter.mpr ⟨List.mem_of_getElem? (i := 530) (by decide +kernel), rfl⟩
theorem tw_531 : Cond.selects "SelfIndexedSequencesModel" (y_Mo_match) (y_Mo_match) ∈ W0 := List.mem_filter.mpr ⟨List.mem_of_getElem? (i := 531) (by decide +kernel), rfl⟩
set_option maxRecDepth 100000 in
theorem tw_532 : Cond.code (y_Mo_match) prog_7_method_34_code 5 (some .int) ∈ W0 := List.mem_filter.mpr ⟨List.mem_of_getElem? (i := 532) rfl, rfl⟩
theorem tw_533 : Cond.constantLong "SelfIndexedSequencesLaw" 21 4294967295 ∈ W0 := List.mem_filter.mpr ⟨List.mem_of_getElem? (i := 533) (by decide +kernel), rfl⟩
theorem in_Fi : ∀ w ∈ u_ws R_Fi F_Fi 2, w ∈ W0 := by decide +kernel
theorem in_Im : ∀ w ∈ u_ws R_Im F_Im 6, w ∈ W0 := by decide +kernel
theorem in_Pa : ∀ w ∈ u_ws R_Pa F_Pa 3, w ∈ W0 := by decide +kernel
theorem in_Pl : ∀ w ∈ u_ws R_Pl F_Pl 6, w ∈ W0 := by decide +kernel
theorem in_Si : ∀ w ∈ u_ws R_Si F_Si 7, w ∈ W0 := by decide +kernel
theorem in_Mo : ∀ w ∈ u_ws R_Mo F_Mo 13, w ∈ W0 := by decide +kernel
