section
-- ===== PART A: goes FIRST, ahead of the names: the tables' words, and 'selects' of the private methods out of them =====
/-- a private method of a class that the tables say can be made, by its rows of tables_1 -/
def lw_okq (q : MethodName × Nat) : Prop := (q.1.cls ≠ "java/lang/invoke/MethodHandle" ∧ q.1.cls ≠ "java/lang/invoke/VarHandle") ∧ Cond.instantiable q.1.cls q.2 ∈ tables_1 ∧ Cond.privateMethod q.1 ∈ tables_1 ∧ Cond.instanceMethod q.1 ∈ tables_1
theorem lw_p0 : lw_okq (⟨"WatchBeats$Balance", "settle", "(I)V"⟩, 15) := ⟨⟨by decide +kernel, by decide +kernel⟩, List.mem_of_getElem? (i := 28) (by decide +kernel), List.mem_of_getElem? (i := 276) (by decide +kernel), List.mem_of_getElem? (i := 277) (by decide +kernel)⟩
theorem lw_p1 : lw_okq (⟨"WatchBeats$Balance", "bePushed", "()V"⟩, 15) := ⟨⟨by decide +kernel, by decide +kernel⟩, List.mem_of_getElem? (i := 28) (by decide +kernel), List.mem_of_getElem? (i := 317) (by decide +kernel), List.mem_of_getElem? (i := 318) (by decide +kernel)⟩
theorem lw_p2 : lw_okq (⟨"WatchBeats$Balance", "doPush", "(II)V"⟩, 15) := ⟨⟨by decide +kernel, by decide +kernel⟩, List.mem_of_getElem? (i := 28) (by decide +kernel), List.mem_of_getElem? (i := 321) (by decide +kernel), List.mem_of_getElem? (i := 322) (by decide +kernel)⟩
theorem lw_p3 : lw_okq (⟨"WatchBeats$Balance", "beDragged", "()V"⟩, 15) := ⟨⟨by decide +kernel, by decide +kernel⟩, List.mem_of_getElem? (i := 28) (by decide +kernel), List.mem_of_getElem? (i := 335) (by decide +kernel), List.mem_of_getElem? (i := 336) (by decide +kernel)⟩
theorem lw_p4 : lw_okq (⟨"WatchBeats$Balance", "swing", "()V"⟩, 15) := ⟨⟨by decide +kernel, by decide +kernel⟩, List.mem_of_getElem? (i := 28) (by decide +kernel), List.mem_of_getElem? (i := 339) (by decide +kernel), List.mem_of_getElem? (i := 340) (by decide +kernel)⟩
theorem lw_p5 : lw_okq (⟨"WatchBeats$Balance", "isLetGo", "(I)Z"⟩, 15) := ⟨⟨by decide +kernel, by decide +kernel⟩, List.mem_of_getElem? (i := 28) (by decide +kernel), List.mem_of_getElem? (i := 343) (by decide +kernel), List.mem_of_getElem? (i := 344) (by decide +kernel)⟩
theorem lw_p6 : lw_okq (⟨"WatchBeats$Balance", "beKicked", "()V"⟩, 15) := ⟨⟨by decide +kernel, by decide +kernel⟩, List.mem_of_getElem? (i := 28) (by decide +kernel), List.mem_of_getElem? (i := 347) (by decide +kernel), List.mem_of_getElem? (i := 348) (by decide +kernel)⟩
theorem lw_p7 : lw_okq (⟨"WatchBeats$Text", "letterAt", "(I)I"⟩, 5) := ⟨⟨by decide +kernel, by decide +kernel⟩, List.mem_of_getElem? (i := 181) (by decide +kernel), List.mem_of_getElem? (i := 396) (by decide +kernel), List.mem_of_getElem? (i := 397) (by decide +kernel)⟩
theorem lw_p8 : lw_okq (⟨"WatchBeats$Text", "signAt", "(I)I"⟩, 5) := ⟨⟨by decide +kernel, by decide +kernel⟩, List.mem_of_getElem? (i := 181) (by decide +kernel), List.mem_of_getElem? (i := 400) (by decide +kernel), List.mem_of_getElem? (i := 401) (by decide +kernel)⟩
theorem lw_p9 : lw_okq (⟨"WatchBeats$Text", "digitsEnd", "(I)I"⟩, 5) := ⟨⟨by decide +kernel, by decide +kernel⟩, List.mem_of_getElem? (i := 181) (by decide +kernel), List.mem_of_getElem? (i := 406) (by decide +kernel), List.mem_of_getElem? (i := 407) (by decide +kernel)⟩
theorem lw_p10 : lw_okq (⟨"WatchBeats$Text", "number", "(II)I"⟩, 5) := ⟨⟨by decide +kernel, by decide +kernel⟩, List.mem_of_getElem? (i := 181) (by decide +kernel), List.mem_of_getElem? (i := 411) (by decide +kernel), List.mem_of_getElem? (i := 412) (by decide +kernel)⟩
theorem lw_p11 : lw_okq (⟨"WatchBeats", "isClauseDone", "(II)Z"⟩, 7) := ⟨⟨by decide +kernel, by decide +kernel⟩, List.mem_of_getElem? (i := 14) (by decide +kernel), List.mem_of_getElem? (i := 415) (by decide +kernel), List.mem_of_getElem? (i := 416) (by decide +kernel)⟩
theorem lw_p12 : lw_okq (⟨"WatchBeats", "thinkAhead", "(I)V"⟩, 7) := ⟨⟨by decide +kernel, by decide +kernel⟩, List.mem_of_getElem? (i := 14) (by decide +kernel), List.mem_of_getElem? (i := 427) (by decide +kernel), List.mem_of_getElem? (i := 428) (by decide +kernel)⟩
theorem lw_p13 : lw_okq (⟨"WatchBeats", "listenFromNow", "()V"⟩, 7) := ⟨⟨by decide +kernel, by decide +kernel⟩, List.mem_of_getElem? (i := 14) (by decide +kernel), List.mem_of_getElem? (i := 447) (by decide +kernel), List.mem_of_getElem? (i := 448) (by decide +kernel)⟩
theorem lw_p14 : lw_okq (⟨"WatchBeats", "evenest", "()I"⟩, 7) := ⟨⟨by decide +kernel, by decide +kernel⟩, List.mem_of_getElem? (i := 14) (by decide +kernel), List.mem_of_getElem? (i := 464) (by decide +kernel), List.mem_of_getElem? (i := 465) (by decide +kernel)⟩
theorem lw_p15 : lw_okq (⟨"WatchBeats", "listenWith", "(II)V"⟩, 7) := ⟨⟨by decide +kernel, by decide +kernel⟩, List.mem_of_getElem? (i := 14) (by decide +kernel), List.mem_of_getElem? (i := 468) (by decide +kernel), List.mem_of_getElem? (i := 469) (by decide +kernel)⟩
def lw_privs_1 : List (MethodName × Nat) := [(⟨"WatchBeats$Balance", "settle", "(I)V"⟩, 15), (⟨"WatchBeats$Balance", "bePushed", "()V"⟩, 15), (⟨"WatchBeats$Balance", "doPush", "(II)V"⟩, 15), (⟨"WatchBeats$Balance", "beDragged", "()V"⟩, 15), (⟨"WatchBeats$Balance", "swing", "()V"⟩, 15), (⟨"WatchBeats$Balance", "isLetGo", "(I)Z"⟩, 15), (⟨"WatchBeats$Balance", "beKicked", "()V"⟩, 15), (⟨"WatchBeats$Text", "letterAt", "(I)I"⟩, 5), (⟨"WatchBeats$Text", "signAt", "(I)I"⟩, 5), (⟨"WatchBeats$Text", "digitsEnd", "(I)I"⟩, 5), (⟨"WatchBeats$Text", "number", "(II)I"⟩, 5), (⟨"WatchBeats", "isClauseDone", "(II)Z"⟩, 7), (⟨"WatchBeats", "thinkAhead", "(I)V"⟩, 7), (⟨"WatchBeats", "listenFromNow", "()V"⟩, 7), (⟨"WatchBeats", "evenest", "()I"⟩, 7), (⟨"WatchBeats", "listenWith", "(II)V"⟩, 7)]
theorem lw_r1 : ∀ q ∈ lw_privs_1, lw_okq q := List.forall_mem_cons.mpr ⟨lw_p0, List.forall_mem_cons.mpr ⟨lw_p1, List.forall_mem_cons.mpr ⟨lw_p2, List.forall_mem_cons.mpr ⟨lw_p3, List.forall_mem_cons.mpr ⟨lw_p4, List.forall_mem_cons.mpr ⟨lw_p5, List.forall_mem_cons.mpr ⟨lw_p6, List.forall_mem_cons.mpr ⟨lw_p7, List.forall_mem_cons.mpr ⟨lw_p8, List.forall_mem_cons.mpr ⟨lw_p9, List.forall_mem_cons.mpr ⟨lw_p10, List.forall_mem_cons.mpr ⟨lw_p11, List.forall_mem_cons.mpr ⟨lw_p12, List.forall_mem_cons.mpr ⟨lw_p13, List.forall_mem_cons.mpr ⟨lw_p14, List.forall_mem_cons.mpr ⟨lw_p15, fun _ h => absurd h List.not_mem_nil⟩⟩⟩⟩⟩⟩⟩⟩⟩⟩⟩⟩⟩⟩⟩⟩
theorem lw_p16 : lw_okq (⟨"WatchBeats$Heard", "gapsAheadOf", "(I)I"⟩, 2) := ⟨⟨by decide +kernel, by decide +kernel⟩, List.mem_of_getElem? (i := 167) (by decide +kernel), List.mem_of_getElem? (i := 505) (by decide +kernel), List.mem_of_getElem? (i := 506) (by decide +kernel)⟩
theorem lw_p17 : lw_okq (⟨"WatchBeats", "goesAsSeen", "(I)Z"⟩, 7) := ⟨⟨by decide +kernel, by decide +kernel⟩, List.mem_of_getElem? (i := 14) (by decide +kernel), List.mem_of_getElem? (i := 521) (by decide +kernel), List.mem_of_getElem? (i := 522) (by decide +kernel)⟩
theorem lw_p18 : lw_okq (⟨"WatchBeats", "tapeAt", "(I)LWatchBeats$Tape;"⟩, 7) := ⟨⟨by decide +kernel, by decide +kernel⟩, List.mem_of_getElem? (i := 14) (by decide +kernel), List.mem_of_getElem? (i := 555) (by decide +kernel), List.mem_of_getElem? (i := 556) (by decide +kernel)⟩
theorem lw_p19 : lw_okq (⟨"WatchBeats", "judgement", "(LWatchBeats$Tape;I)I"⟩, 7) := ⟨⟨by decide +kernel, by decide +kernel⟩, List.mem_of_getElem? (i := 14) (by decide +kernel), List.mem_of_getElem? (i := 559) (by decide +kernel), List.mem_of_getElem? (i := 560) (by decide +kernel)⟩
theorem lw_p20 : lw_okq (⟨"WatchBeatsModel", "energyNow", "()J"⟩, 21) := ⟨⟨by decide +kernel, by decide +kernel⟩, List.mem_of_getElem? (i := 623) (by decide +kernel), List.mem_of_getElem? (i := 703) (by decide +kernel), List.mem_of_getElem? (i := 704) (by decide +kernel)⟩
theorem lw_p21 : lw_okq (⟨"WatchBeatsModel", "goes", "(I)V"⟩, 21) := ⟨⟨by decide +kernel, by decide +kernel⟩, List.mem_of_getElem? (i := 623) (by decide +kernel), List.mem_of_getElem? (i := 725) (by decide +kernel), List.mem_of_getElem? (i := 726) (by decide +kernel)⟩
theorem lw_p22 : lw_okq (⟨"WatchBeatsModel", "tick", "()V"⟩, 21) := ⟨⟨by decide +kernel, by decide +kernel⟩, List.mem_of_getElem? (i := 623) (by decide +kernel), List.mem_of_getElem? (i := 729) (by decide +kernel), List.mem_of_getElem? (i := 730) (by decide +kernel)⟩
theorem lw_p23 : lw_okq (⟨"WatchBeatsModel", "pushes", "()V"⟩, 21) := ⟨⟨by decide +kernel, by decide +kernel⟩, List.mem_of_getElem? (i := 623) (by decide +kernel), List.mem_of_getElem? (i := 733) (by decide +kernel), List.mem_of_getElem? (i := 734) (by decide +kernel)⟩
theorem lw_p24 : lw_okq (⟨"WatchBeatsModel", "accounts", "(IJ)J"⟩, 21) := ⟨⟨by decide +kernel, by decide +kernel⟩, List.mem_of_getElem? (i := 623) (by decide +kernel), List.mem_of_getElem? (i := 739) (by decide +kernel), List.mem_of_getElem? (i := 740) (by decide +kernel)⟩
theorem lw_p25 : lw_okq (⟨"WatchBeatsModel", "reads", "()V"⟩, 21) := ⟨⟨by decide +kernel, by decide +kernel⟩, List.mem_of_getElem? (i := 623) (by decide +kernel), List.mem_of_getElem? (i := 768) (by decide +kernel), List.mem_of_getElem? (i := 769) (by decide +kernel)⟩
theorem lw_p26 : lw_okq (⟨"WatchBeatsModel", "isFrom", "(II)Z"⟩, 21) := ⟨⟨by decide +kernel, by decide +kernel⟩, List.mem_of_getElem? (i := 623) (by decide +kernel), List.mem_of_getElem? (i := 775) (by decide +kernel), List.mem_of_getElem? (i := 776) (by decide +kernel)⟩
theorem lw_p27 : lw_okq (⟨"WatchBeatsModel", "does", "(I)Z"⟩, 21) := ⟨⟨by decide +kernel, by decide +kernel⟩, List.mem_of_getElem? (i := 623) (by decide +kernel), List.mem_of_getElem? (i := 779) (by decide +kernel), List.mem_of_getElem? (i := 780) (by decide +kernel)⟩
theorem lw_p28 : lw_okq (⟨"WatchBeatsModel", "lays", "()V"⟩, 21) := ⟨⟨by decide +kernel, by decide +kernel⟩, List.mem_of_getElem? (i := 623) (by decide +kernel), List.mem_of_getElem? (i := 790) (by decide +kernel), List.mem_of_getElem? (i := 791) (by decide +kernel)⟩
theorem lw_p29 : lw_okq (⟨"WatchBeatsModel", "back", "()V"⟩, 21) := ⟨⟨by decide +kernel, by decide +kernel⟩, List.mem_of_getElem? (i := 623) (by decide +kernel), List.mem_of_getElem? (i := 800) (by decide +kernel), List.mem_of_getElem? (i := 801) (by decide +kernel)⟩
theorem lw_p30 : lw_okq (⟨"WatchBeatsModel", "hears", "()V"⟩, 21) := ⟨⟨by decide +kernel, by decide +kernel⟩, List.mem_of_getElem? (i := 623) (by decide +kernel), List.mem_of_getElem? (i := 812) (by decide +kernel), List.mem_of_getElem? (i := 813) (by decide +kernel)⟩
theorem lw_p31 : lw_okq (⟨"WatchBeatsModel", "hears", "(II)V"⟩, 21) := ⟨⟨by decide +kernel, by decide +kernel⟩, List.mem_of_getElem? (i := 623) (by decide +kernel), List.mem_of_getElem? (i := 816) (by decide +kernel), List.mem_of_getElem? (i := 817) (by decide +kernel)⟩
def lw_privs_2 : List (MethodName × Nat) := [(⟨"WatchBeats$Heard", "gapsAheadOf", "(I)I"⟩, 2), (⟨"WatchBeats", "goesAsSeen", "(I)Z"⟩, 7), (⟨"WatchBeats", "tapeAt", "(I)LWatchBeats$Tape;"⟩, 7), (⟨"WatchBeats", "judgement", "(LWatchBeats$Tape;I)I"⟩, 7), (⟨"WatchBeatsModel", "energyNow", "()J"⟩, 21), (⟨"WatchBeatsModel", "goes", "(I)V"⟩, 21), (⟨"WatchBeatsModel", "tick", "()V"⟩, 21), (⟨"WatchBeatsModel", "pushes", "()V"⟩, 21), (⟨"WatchBeatsModel", "accounts", "(IJ)J"⟩, 21), (⟨"WatchBeatsModel", "reads", "()V"⟩, 21), (⟨"WatchBeatsModel", "isFrom", "(II)Z"⟩, 21), (⟨"WatchBeatsModel", "does", "(I)Z"⟩, 21), (⟨"WatchBeatsModel", "lays", "()V"⟩, 21), (⟨"WatchBeatsModel", "back", "()V"⟩, 21), (⟨"WatchBeatsModel", "hears", "()V"⟩, 21), (⟨"WatchBeatsModel", "hears", "(II)V"⟩, 21)]
theorem lw_r2 : ∀ q ∈ lw_privs_2, lw_okq q := List.forall_mem_cons.mpr ⟨lw_p16, List.forall_mem_cons.mpr ⟨lw_p17, List.forall_mem_cons.mpr ⟨lw_p18, List.forall_mem_cons.mpr ⟨lw_p19, List.forall_mem_cons.mpr ⟨lw_p20, List.forall_mem_cons.mpr ⟨lw_p21, List.forall_mem_cons.mpr ⟨lw_p22, List.forall_mem_cons.mpr ⟨lw_p23, List.forall_mem_cons.mpr ⟨lw_p24, List.forall_mem_cons.mpr ⟨lw_p25, List.forall_mem_cons.mpr ⟨lw_p26, List.forall_mem_cons.mpr ⟨lw_p27, List.forall_mem_cons.mpr ⟨lw_p28, List.forall_mem_cons.mpr ⟨lw_p29, List.forall_mem_cons.mpr ⟨lw_p30, List.forall_mem_cons.mpr ⟨lw_p31, fun _ h => absurd h List.not_mem_nil⟩⟩⟩⟩⟩⟩⟩⟩⟩⟩⟩⟩⟩⟩⟩⟩
theorem lw_p32 : lw_okq (⟨"WatchBeatsModel", "evenest", "()I"⟩, 21) := ⟨⟨by decide +kernel, by decide +kernel⟩, List.mem_of_getElem? (i := 623) (by decide +kernel), List.mem_of_getElem? (i := 824) (by decide +kernel), List.mem_of_getElem? (i := 825) (by decide +kernel)⟩
theorem lw_p33 : lw_okq (⟨"WatchBeatsModel", "uneven", "()I"⟩, 21) := ⟨⟨by decide +kernel, by decide +kernel⟩, List.mem_of_getElem? (i := 623) (by decide +kernel), List.mem_of_getElem? (i := 828) (by decide +kernel), List.mem_of_getElem? (i := 829) (by decide +kernel)⟩
theorem lw_p34 : lw_okq (⟨"WatchBeatsModel", "gaps", "()I"⟩, 21) := ⟨⟨by decide +kernel, by decide +kernel⟩, List.mem_of_getElem? (i := 623) (by decide +kernel), List.mem_of_getElem? (i := 832) (by decide +kernel), List.mem_of_getElem? (i := 833) (by decide +kernel)⟩
theorem lw_p35 : lw_okq (⟨"WatchBeatsModel", "gapOf", "(I)I"⟩, 21) := ⟨⟨by decide +kernel, by decide +kernel⟩, List.mem_of_getElem? (i := 623) (by decide +kernel), List.mem_of_getElem? (i := 836) (by decide +kernel), List.mem_of_getElem? (i := 837) (by decide +kernel)⟩
theorem lw_p36 : lw_okq (⟨"WatchBeatsModel", "isSeen", "()Z"⟩, 21) := ⟨⟨by decide +kernel, by decide +kernel⟩, List.mem_of_getElem? (i := 623) (by decide +kernel), List.mem_of_getElem? (i := 857) (by decide +kernel), List.mem_of_getElem? (i := 858) (by decide +kernel)⟩
def lw_privs_3 : List (MethodName × Nat) := [(⟨"WatchBeatsModel", "evenest", "()I"⟩, 21), (⟨"WatchBeatsModel", "uneven", "()I"⟩, 21), (⟨"WatchBeatsModel", "gaps", "()I"⟩, 21), (⟨"WatchBeatsModel", "gapOf", "(I)I"⟩, 21), (⟨"WatchBeatsModel", "isSeen", "()Z"⟩, 21)]
theorem lw_r3 : ∀ q ∈ lw_privs_3, lw_okq q := List.forall_mem_cons.mpr ⟨lw_p32, List.forall_mem_cons.mpr ⟨lw_p33, List.forall_mem_cons.mpr ⟨lw_p34, List.forall_mem_cons.mpr ⟨lw_p35, List.forall_mem_cons.mpr ⟨lw_p36, fun _ h => absurd h List.not_mem_nil⟩⟩⟩⟩⟩
def lw_privs : List (MethodName × Nat) := lw_privs_1 ++ (lw_privs_2 ++ (lw_privs_3))
def lw_tbl : List Cond := k2_sels lw_privs ++ tables_1
theorem lw_privs_ok : ∀ q ∈ lw_privs, lw_okq q := by
  show ∀ q ∈ lw_privs_1 ++ (lw_privs_2 ++ (lw_privs_3)), lw_okq q
  exact List.forall_mem_append.mpr ⟨lw_r1, List.forall_mem_append.mpr ⟨lw_r2, lw_r3⟩⟩
-- ===== end of PART A; then your names; then what follows =====
end
section
/-! ===== BEGIN printed: names, fields, word lists, decode rows ===== -/
def RX0 : String := "WatchBeats$Balance"
def TX0 : u_T := fun k => match k with
  | 0 => ("WatchBeats$Balance", "angle", "I", false)
  | 1 => ("WatchBeats$Balance", "speed", "I", false)
  | 2 => ("WatchBeats$Balance", "drag", "I", false)
  | 3 => ("WatchBeats$Balance", "offset", "I", false)
  | 4 => ("WatchBeats$Balance", "pallets", "I", false)
  | 5 => ("WatchBeats$Balance", "clock", "I", false)
  | 6 => ("WatchBeats$Balance", "beats", "I", false)
  | 7 => ("WatchBeats$Balance", "bangs", "I", false)
  | 8 => ("WatchBeats$Balance", "stiff", "I", false)
  | 9 => ("WatchBeats$Balance", "force", "I", false)
  | 10 => ("WatchBeats$Balance", "life", "I", false)
  | 11 => ("WatchBeats$Balance", "pushes", "LWatchBeats$Pushes;", true)
  | 12 => ("WatchBeats$Balance", "account", "[J", true)
  | 13 => ("WatchBeats$Balance", "settled", "J", false)
  | _ => ("WatchBeats$Balance", "isAccounted", "Z", true)
def tyX0 : Nat → FieldType := fun k => match k with
  | 0 => .int
  | 1 => .int
  | 2 => .int
  | 3 => .int
  | 4 => .int
  | 5 => .int
  | 6 => .int
  | 7 => .int
  | 8 => .int
  | 9 => .int
  | 10 => .int
  | 11 => .object "WatchBeats$Pushes"
  | 12 => .array .long
  | 13 => .long
  | _ => .boolean
abbrev wsX00 : List Cond := u_ws RX0 TX0 15
theorem nmX0 : ∀ a, a < 15 → ∀ b, b < 15 → a ≠ b → (TX0 a).2.1 ≠ (TX0 b).2.1 := by decide +kernel
theorem tyX0_ok : ∀ k, k < 15 → parseFieldDescriptor (TX0 k).2.2.1 = some (tyX0 k) := by decide +kernel
abbrev cX0_init : ByteArray := prog_2_method_1_code
def yX0_init : MethodName := ⟨RX0, "<init>", "(Z)V"⟩
abbrev cX0_copy : ByteArray := prog_2_method_2_code
def yX0_copy : MethodName := ⟨RX0, "copy", "(LWatchBeats$Balance;)V"⟩
abbrev cX0_valueOf : ByteArray := prog_2_method_3_code
def yX0_valueOf : MethodName := ⟨RX0, "valueOf", "(I)I"⟩
abbrev cX0_put : ByteArray := prog_2_method_4_code
def yX0_put : MethodName := ⟨RX0, "put", "(II)V"⟩
abbrev cX0_putByHand : ByteArray := prog_2_method_5_code
def yX0_putByHand : MethodName := ⟨RX0, "putByHand", "(II)V"⟩
abbrev cX0_energyNow : ByteArray := prog_2_method_6_code
def yX0_energyNow : MethodName := ⟨RX0, "energyNow", "()J"⟩
abbrev cX0_settle : ByteArray := prog_2_method_7_code
def yX0_settle : MethodName := ⟨RX0, "settle", "(I)V"⟩
abbrev cX0_tick : ByteArray := prog_2_method_8_code
def yX0_tick : MethodName := ⟨RX0, "tick", "()Z"⟩
abbrev cX0_bePushed : ByteArray := prog_2_method_9_code
def yX0_bePushed : MethodName := ⟨RX0, "bePushed", "()V"⟩
abbrev cX0_doPush : ByteArray := prog_2_method_10_code
def yX0_doPush : MethodName := ⟨RX0, "doPush", "(II)V"⟩
abbrev cX0_beDragged : ByteArray := prog_2_method_11_code
def yX0_beDragged : MethodName := ⟨RX0, "beDragged", "()V"⟩
abbrev cX0_swing : ByteArray := prog_2_method_12_code
def yX0_swing : MethodName := ⟨RX0, "swing", "()V"⟩
abbrev cX0_isLetGo : ByteArray := prog_2_method_13_code
def yX0_isLetGo : MethodName := ⟨RX0, "isLetGo", "(I)Z"⟩
abbrev cX0_beKicked : ByteArray := prog_2_method_14_code
def yX0_beKicked : MethodName := ⟨RX0, "beKicked", "()V"⟩
def RX1 : String := "WatchBeats$Heard"
def TX1 : u_T := fun k => match k with
  | 0 => ("WatchBeats$Heard", "at", "[I", true)
  | _ => ("WatchBeats$Heard", "beats", "I", false)
def tyX1 : Nat → FieldType := fun k => match k with
  | 0 => .array .int
  | _ => .int
abbrev wsX10 : List Cond := u_ws RX1 TX1 2
theorem nmX1 : ∀ a, a < 2 → ∀ b, b < 2 → a ≠ b → (TX1 a).2.1 ≠ (TX1 b).2.1 := by decide +kernel
theorem tyX1_ok : ∀ k, k < 2 → parseFieldDescriptor (TX1 k).2.2.1 = some (tyX1 k) := by decide +kernel
abbrev cX1_init : ByteArray := prog_3_method_1_code
def yX1_init : MethodName := ⟨RX1, "<init>", "()V"⟩
abbrev cX1_listen : ByteArray := prog_3_method_2_code
def yX1_listen : MethodName := ⟨RX1, "listen", "(LWatchBeats$Balance;)V"⟩
abbrev cX1_beatAt : ByteArray := prog_3_method_3_code
def yX1_beatAt : MethodName := ⟨RX1, "beatAt", "(I)I"⟩
abbrev cX1_gaps : ByteArray := prog_3_method_4_code
def yX1_gaps : MethodName := ⟨RX1, "gaps", "()I"⟩
abbrev cX1_gapAt : ByteArray := prog_3_method_5_code
def yX1_gapAt : MethodName := ⟨RX1, "gapAt", "(I)I"⟩
abbrev cX1_uneven : ByteArray := prog_3_method_6_code
def yX1_uneven : MethodName := ⟨RX1, "uneven", "()I"⟩
abbrev cX1_longestGap : ByteArray := prog_3_method_7_code
def yX1_longestGap : MethodName := ⟨RX1, "longestGap", "(I)I"⟩
abbrev cX1_gapsAheadOf : ByteArray := prog_3_method_8_code
def yX1_gapsAheadOf : MethodName := ⟨RX1, "gapsAheadOf", "(I)I"⟩
def RX2 : String := "WatchBeats$Pushes"
def TX2 : u_T := fun k => match k with
  | 0 => ("WatchBeats$Pushes", "times", "[I", true)
  | 1 => ("WatchBeats$Pushes", "whats", "[I", true)
  | 2 => ("WatchBeats$Pushes", "sizes", "[I", true)
  | _ => ("WatchBeats$Pushes", "waiting", "I", false)
def tyX2 : Nat → FieldType := fun k => match k with
  | 0 => .array .int
  | 1 => .array .int
  | 2 => .array .int
  | _ => .int
abbrev wsX20 : List Cond := u_ws RX2 TX2 4
theorem nmX2 : ∀ a, a < 4 → ∀ b, b < 4 → a ≠ b → (TX2 a).2.1 ≠ (TX2 b).2.1 := by decide +kernel
theorem tyX2_ok : ∀ k, k < 4 → parseFieldDescriptor (TX2 k).2.2.1 = some (tyX2 k) := by decide +kernel
abbrev cX2_init : ByteArray := prog_4_method_1_code
def yX2_init : MethodName := ⟨RX2, "<init>", "()V"⟩
abbrev cX2_add : ByteArray := prog_4_method_2_code
def yX2_add : MethodName := ⟨RX2, "add", "(III)V"⟩
abbrev cX2_removeFirst : ByteArray := prog_4_method_3_code
def yX2_removeFirst : MethodName := ⟨RX2, "removeFirst", "(I)V"⟩
abbrev cX2_copy : ByteArray := prog_4_method_4_code
def yX2_copy : MethodName := ⟨RX2, "copy", "(LWatchBeats$Pushes;)V"⟩
def RX3 : String := "WatchBeats$Rows"
def TX3 : u_T := fun k => match k with
  | 0 => ("WatchBeats$Rows", "first", "[I", true)
  | 1 => ("WatchBeats$Rows", "second", "[I", true)
  | _ => ("WatchBeats$Rows", "held", "I", false)
def tyX3 : Nat → FieldType := fun k => match k with
  | 0 => .array .int
  | 1 => .array .int
  | _ => .int
abbrev wsX30 : List Cond := u_ws RX3 TX3 3
theorem nmX3 : ∀ a, a < 3 → ∀ b, b < 3 → a ≠ b → (TX3 a).2.1 ≠ (TX3 b).2.1 := by decide +kernel
theorem tyX3_ok : ∀ k, k < 3 → parseFieldDescriptor (TX3 k).2.2.1 = some (tyX3 k) := by decide +kernel
abbrev cX3_init : ByteArray := prog_5_method_1_code
def yX3_init : MethodName := ⟨RX3, "<init>", "()V"⟩
abbrev cX3_add : ByteArray := prog_5_method_2_code
def yX3_add : MethodName := ⟨RX3, "add", "(II)V"⟩
abbrev cX3_greatestFirst : ByteArray := prog_5_method_3_code
def yX3_greatestFirst : MethodName := ⟨RX3, "greatestFirst", "()I"⟩
abbrev cX3_allows : ByteArray := prog_5_method_4_code
def yX3_allows : MethodName := ⟨RX3, "allows", "(II)Z"⟩
abbrev cX3_copy : ByteArray := prog_5_method_5_code
def yX3_copy : MethodName := ⟨RX3, "copy", "(LWatchBeats$Rows;)V"⟩
def RX4 : String := "WatchBeats$Tape"
def TX4 : u_T := fun k => match k with
  | 0 => ("WatchBeats$Tape", "sort", "I", false)
  | 1 => ("WatchBeats$Tape", "size", "I", false)
  | _ => ("WatchBeats$Tape", "items", "[J", true)
def tyX4 : Nat → FieldType := fun k => match k with
  | 0 => .int
  | 1 => .int
  | _ => .array .long
abbrev wsX40 : List Cond := u_ws RX4 TX4 3
theorem nmX4 : ∀ a, a < 3 → ∀ b, b < 3 → a ≠ b → (TX4 a).2.1 ≠ (TX4 b).2.1 := by decide +kernel
theorem tyX4_ok : ∀ k, k < 3 → parseFieldDescriptor (TX4 k).2.2.1 = some (tyX4 k) := by decide +kernel
abbrev cX4_init : ByteArray := prog_6_method_1_code
def yX4_init : MethodName := ⟨RX4, "<init>", "()V"⟩
abbrev cX4_clear : ByteArray := prog_6_method_2_code
def yX4_clear : MethodName := ⟨RX4, "clear", "(II)V"⟩
abbrev cX4_has : ByteArray := prog_6_method_3_code
def yX4_has : MethodName := ⟨RX4, "has", "(I)Z"⟩
abbrev cX4_hasRun : ByteArray := prog_6_method_4_code
def yX4_hasRun : MethodName := ⟨RX4, "hasRun", "(II)Z"⟩
abbrev cX4_asItem : ByteArray := prog_6_method_5_code
def yX4_asItem : MethodName := ⟨RX4, "asItem", "(J)J"⟩
def RX5 : String := "WatchBeats$Text"
def TX5 : u_T := fun k => match k with
  | 0 => ("WatchBeats$Text", "signs", "[B", true)
  | 1 => ("WatchBeats$Text", "length", "I", false)
  | 2 => ("WatchBeats$Text", "whats", "[I", true)
  | 3 => ("WatchBeats$Text", "numbers", "[I", true)
  | _ => ("WatchBeats$Text", "clauses", "I", false)
def tyX5 : Nat → FieldType := fun k => match k with
  | 0 => .array .byte
  | 1 => .int
  | 2 => .array .int
  | 3 => .array .int
  | _ => .int
abbrev wsX50 : List Cond := u_ws RX5 TX5 5
theorem nmX5 : ∀ a, a < 5 → ∀ b, b < 5 → a ≠ b → (TX5 a).2.1 ≠ (TX5 b).2.1 := by decide +kernel
theorem tyX5_ok : ∀ k, k < 5 → parseFieldDescriptor (TX5 k).2.2.1 = some (tyX5 k) := by decide +kernel
abbrev cX5_init : ByteArray := prog_7_method_1_code
def yX5_init : MethodName := ⟨RX5, "<init>", "()V"⟩
abbrev cX5_add : ByteArray := prog_7_method_2_code
def yX5_add : MethodName := ⟨RX5, "add", "(I)V"⟩
abbrev cX5_parse : ByteArray := prog_7_method_3_code
def yX5_parse : MethodName := ⟨RX5, "parse", "()I"⟩
abbrev cX5_signAt : ByteArray := prog_7_method_4_code
def yX5_signAt : MethodName := ⟨RX5, "signAt", "(I)I"⟩
abbrev cX5_letterAt : ByteArray := prog_7_method_5_code
def yX5_letterAt : MethodName := ⟨RX5, "letterAt", "(I)I"⟩
abbrev cX5_digitsEnd : ByteArray := prog_7_method_6_code
def yX5_digitsEnd : MethodName := ⟨RX5, "digitsEnd", "(I)I"⟩
abbrev cX5_number : ByteArray := prog_7_method_7_code
def yX5_number : MethodName := ⟨RX5, "number", "(II)I"⟩
def RX6 : String := "WatchBeats$Train"
def TX6 : u_T := fun k => match k with
  | 0 => ("WatchBeats$Train", "teeth", "[I", true)
  | _ => ("WatchBeats$Train", "wheels", "I", false)
def tyX6 : Nat → FieldType := fun k => match k with
  | 0 => .array .int
  | _ => .int
abbrev wsX60 : List Cond := u_ws RX6 TX6 2
theorem nmX6 : ∀ a, a < 2 → ∀ b, b < 2 → a ≠ b → (TX6 a).2.1 ≠ (TX6 b).2.1 := by decide +kernel
theorem tyX6_ok : ∀ k, k < 2 → parseFieldDescriptor (TX6 k).2.2.1 = some (tyX6 k) := by decide +kernel
abbrev cX6_init : ByteArray := prog_8_method_1_code
def yX6_init : MethodName := ⟨RX6, "<init>", "()V"⟩
abbrev cX6_add : ByteArray := prog_8_method_2_code
def yX6_add : MethodName := ⟨RX6, "add", "(I)V"⟩
abbrev cX6_beatsOfOneTurn : ByteArray := prog_8_method_3_code
def yX6_beatsOfOneTurn : MethodName := ⟨RX6, "beatsOfOneTurn", "(I)J"⟩
abbrev cX6_copy : ByteArray := prog_8_method_4_code
def yX6_copy : MethodName := ⟨RX6, "copy", "(LWatchBeats$Train;)V"⟩
def RX7 : String := "WatchBeats$Whole"
def TX7 : u_T := fun k => match k with
  | 0 => ("WatchBeats$Whole", "balance", "LWatchBeats$Balance;", true)
  | 1 => ("WatchBeats$Whole", "train", "LWatchBeats$Train;", true)
  | 2 => ("WatchBeats$Whole", "seen", "LWatchBeats$Rows;", true)
  | _ => ("WatchBeats$Whole", "book", "LWatchBeats$Rows;", true)
def tyX7 : Nat → FieldType := fun k => match k with
  | 0 => .object "WatchBeats$Balance"
  | 1 => .object "WatchBeats$Train"
  | 2 => .object "WatchBeats$Rows"
  | _ => .object "WatchBeats$Rows"
abbrev wsX70 : List Cond := u_ws RX7 TX7 4
theorem nmX7 : ∀ a, a < 4 → ∀ b, b < 4 → a ≠ b → (TX7 a).2.1 ≠ (TX7 b).2.1 := by decide +kernel
theorem tyX7_ok : ∀ k, k < 4 → parseFieldDescriptor (TX7 k).2.2.1 = some (tyX7 k) := by decide +kernel
abbrev cX7_init : ByteArray := prog_9_method_1_code
def yX7_init : MethodName := ⟨RX7, "<init>", "()V"⟩
abbrev cX7_copy : ByteArray := prog_9_method_2_code
def yX7_copy : MethodName := ⟨RX7, "copy", "(LWatchBeats$Whole;)V"⟩
def RX8 : String := "WatchBeats"
def TX8 : u_T := fun k => match k with
  | 0 => ("WatchBeats", "now", "LWatchBeats$Whole;", true)
  | 1 => ("WatchBeats", "kept", "LWatchBeats$Whole;", true)
  | 2 => ("WatchBeats", "isKept", "Z", false)
  | 3 => ("WatchBeats", "thought", "LWatchBeats$Balance;", true)
  | 4 => ("WatchBeats", "heardAhead", "LWatchBeats$Heard;", true)
  | 5 => ("WatchBeats", "text", "LWatchBeats$Text;", true)
  | _ => ("WatchBeats", "tapes", "[LWatchBeats$Tape;", true)
def tyX8 : Nat → FieldType := fun k => match k with
  | 0 => .object "WatchBeats$Whole"
  | 1 => .object "WatchBeats$Whole"
  | 2 => .boolean
  | 3 => .object "WatchBeats$Balance"
  | 4 => .object "WatchBeats$Heard"
  | 5 => .object "WatchBeats$Text"
  | _ => .array (.object "WatchBeats$Tape")
abbrev wsX80 : List Cond := u_ws RX8 TX8 7
theorem nmX8 : ∀ a, a < 7 → ∀ b, b < 7 → a ≠ b → (TX8 a).2.1 ≠ (TX8 b).2.1 := by decide +kernel
theorem tyX8_ok : ∀ k, k < 7 → parseFieldDescriptor (TX8 k).2.2.1 = some (tyX8 k) := by decide +kernel
abbrev cX8_init : ByteArray := prog_1_method_1_code
def yX8_init : MethodName := ⟨RX8, "<init>", "()V"⟩
abbrev cX8_set : ByteArray := prog_1_method_2_code
def yX8_set : MethodName := ⟨RX8, "set", "(II)I"⟩
abbrev cX8_told : ByteArray := prog_1_method_3_code
def yX8_told : MethodName := ⟨RX8, "told", "(I)I"⟩
abbrev cX8_push : ByteArray := prog_1_method_4_code
def yX8_push : MethodName := ⟨RX8, "push", "(III)I"⟩
abbrev cX8_pushOf : ByteArray := prog_1_method_5_code
def yX8_pushOf : MethodName := ⟨RX8, "pushOf", "(II)I"⟩
abbrev cX8_go : ByteArray := prog_1_method_6_code
def yX8_go : MethodName := ⟨RX8, "go", "(I)I"⟩
abbrev cX8_wheel : ByteArray := prog_1_method_7_code
def yX8_wheel : MethodName := ⟨RX8, "wheel", "(I)I"⟩
abbrev cX8_turns : ByteArray := prog_1_method_8_code
def yX8_turns : MethodName := ⟨RX8, "turns", "(II)J"⟩
abbrev cX8_energy : ByteArray := prog_1_method_9_code
def yX8_energy : MethodName := ⟨RX8, "energy", "(I)J"⟩
abbrev cX8_feed : ByteArray := prog_1_method_10_code
def yX8_feed : MethodName := ⟨RX8, "feed", "(I)I"⟩
abbrev cX8_read : ByteArray := prog_1_method_11_code
def yX8_read : MethodName := ⟨RX8, "read", "()I"⟩
abbrev cX8_ahead : ByteArray := prog_1_method_12_code
def yX8_ahead : MethodName := ⟨RX8, "ahead", "(II)I"⟩
abbrev cX8_energyAt : ByteArray := prog_1_method_13_code
def yX8_energyAt : MethodName := ⟨RX8, "energyAt", "(I)J"⟩
abbrev cX8_heard : ByteArray := prog_1_method_14_code
def yX8_heard : MethodName := ⟨RX8, "heard", "(I)I"⟩
abbrev cX8_beat : ByteArray := prog_1_method_15_code
def yX8_beat : MethodName := ⟨RX8, "beat", "(I)I"⟩
abbrev cX8_gap : ByteArray := prog_1_method_16_code
def yX8_gap : MethodName := ⟨RX8, "gap", "(I)I"⟩
abbrev cX8_longest : ByteArray := prog_1_method_17_code
def yX8_longest : MethodName := ⟨RX8, "longest", "(II)I"⟩
abbrev cX8_see : ByteArray := prog_1_method_18_code
def yX8_see : MethodName := ⟨RX8, "see", "(II)I"⟩
abbrev cX8_fits : ByteArray := prog_1_method_19_code
def yX8_fits : MethodName := ⟨RX8, "fits", "(I)I"⟩
abbrev cX8_odds : ByteArray := prog_1_method_20_code
def yX8_odds : MethodName := ⟨RX8, "odds", "(II)J"⟩
abbrev cX8_mean : ByteArray := prog_1_method_21_code
def yX8_mean : MethodName := ⟨RX8, "mean", "(I)J"⟩
abbrev cX8_book : ByteArray := prog_1_method_22_code
def yX8_book : MethodName := ⟨RX8, "book", "(II)I"⟩
abbrev cX8_looked : ByteArray := prog_1_method_23_code
def yX8_looked : MethodName := ⟨RX8, "looked", "()I"⟩
abbrev cX8_judge : ByteArray := prog_1_method_24_code
def yX8_judge : MethodName := ⟨RX8, "judge", "(II)I"⟩
abbrev cX8_image : ByteArray := prog_1_method_25_code
def yX8_image : MethodName := ⟨RX8, "image", "()I"⟩
abbrev cX8_undo : ByteArray := prog_1_method_26_code
def yX8_undo : MethodName := ⟨RX8, "undo", "()I"⟩
abbrev cX8_count : ByteArray := prog_1_method_27_code
def yX8_count : MethodName := ⟨RX8, "count", "(I)I"⟩
abbrev cX8_tape : ByteArray := prog_1_method_28_code
def yX8_tape : MethodName := ⟨RX8, "tape", "(III)I"⟩
abbrev cX8_item : ByteArray := prog_1_method_29_code
def yX8_item : MethodName := ⟨RX8, "item", "(IIJ)I"⟩
abbrev cX8_peek : ByteArray := prog_1_method_30_code
def yX8_peek : MethodName := ⟨RX8, "peek", "(II)J"⟩
abbrev cX8_shift : ByteArray := prog_1_method_31_code
def yX8_shift : MethodName := ⟨RX8, "shift", "(IIIII)I"⟩
abbrev cX8_isBetween : ByteArray := prog_1_method_32_code
def yX8_isBetween : MethodName := ⟨RX8, "isBetween", "(III)Z"⟩
abbrev cX8_isSettable : ByteArray := prog_1_method_33_code
def yX8_isSettable : MethodName := ⟨RX8, "isSettable", "(II)Z"⟩
abbrev cX8_isPushable : ByteArray := prog_1_method_34_code
def yX8_isPushable : MethodName := ⟨RX8, "isPushable", "(II)Z"⟩
abbrev cX8_partOfFraction : ByteArray := prog_1_method_35_code
def yX8_partOfFraction : MethodName := ⟨RX8, "partOfFraction", "(JJI)J"⟩
abbrev cX8_commonDivisor : ByteArray := prog_1_method_36_code
def yX8_commonDivisor : MethodName := ⟨RX8, "commonDivisor", "(JJ)J"⟩
abbrev cX8_isClauseDone : ByteArray := prog_1_method_37_code
def yX8_isClauseDone : MethodName := ⟨RX8, "isClauseDone", "(II)Z"⟩
abbrev cX8_thinkAhead : ByteArray := prog_1_method_38_code
def yX8_thinkAhead : MethodName := ⟨RX8, "thinkAhead", "(I)V"⟩
abbrev cX8_listenFromNow : ByteArray := prog_1_method_39_code
def yX8_listenFromNow : MethodName := ⟨RX8, "listenFromNow", "()V"⟩
abbrev cX8_listenWith : ByteArray := prog_1_method_40_code
def yX8_listenWith : MethodName := ⟨RX8, "listenWith", "(II)V"⟩
abbrev cX8_evenest : ByteArray := prog_1_method_41_code
def yX8_evenest : MethodName := ⟨RX8, "evenest", "()I"⟩
abbrev cX8_goesAsSeen : ByteArray := prog_1_method_42_code
def yX8_goesAsSeen : MethodName := ⟨RX8, "goesAsSeen", "(I)Z"⟩
abbrev cX8_judgement : ByteArray := prog_1_method_43_code
def yX8_judgement : MethodName := ⟨RX8, "judgement", "(LWatchBeats$Tape;I)I"⟩
abbrev cX8_tapeAt : ByteArray := prog_1_method_44_code
def yX8_tapeAt : MethodName := ⟨RX8, "tapeAt", "(I)LWatchBeats$Tape;"⟩
def RX9 : String := "WatchBeatsModel"
def TX9 : u_T := fun k => match k with
  | 0 => ("WatchBeatsModel", "now", "[I", true)
  | 1 => ("WatchBeatsModel", "old", "[I", true)
  | 2 => ("WatchBeatsModel", "ahead", "[I", true)
  | 3 => ("WatchBeatsModel", "imaged", "Z", false)
  | 4 => ("WatchBeatsModel", "account", "[J", true)
  | 5 => ("WatchBeatsModel", "oldAccount", "[J", true)
  | 6 => ("WatchBeatsModel", "aheadAccount", "[J", true)
  | 7 => ("WatchBeatsModel", "beats", "I", false)
  | 8 => ("WatchBeatsModel", "begun", "I", false)
  | 9 => ("WatchBeatsModel", "beatAt", "[I", true)
  | 10 => ("WatchBeatsModel", "texts", "I", false)
  | 11 => ("WatchBeatsModel", "text", "[I", true)
  | 12 => ("WatchBeatsModel", "at", "I", false)
  | 13 => ("WatchBeatsModel", "fault", "I", false)
  | 14 => ("WatchBeatsModel", "clauses", "I", false)
  | 15 => ("WatchBeatsModel", "clause", "[I", true)
  | 16 => ("WatchBeatsModel", "number", "[I", true)
  | 17 => ("WatchBeatsModel", "sort", "[I", true)
  | 18 => ("WatchBeatsModel", "size", "[I", true)
  | 19 => ("WatchBeatsModel", "items", "[J", true)
  | _ => ("WatchBeatsModel", "moved", "[J", true)
def tyX9 : Nat → FieldType := fun k => match k with
  | 0 => .array .int
  | 1 => .array .int
  | 2 => .array .int
  | 3 => .boolean
  | 4 => .array .long
  | 5 => .array .long
  | 6 => .array .long
  | 7 => .int
  | 8 => .int
  | 9 => .array .int
  | 10 => .int
  | 11 => .array .int
  | 12 => .int
  | 13 => .int
  | 14 => .int
  | 15 => .array .int
  | 16 => .array .int
  | 17 => .array .int
  | 18 => .array .int
  | 19 => .array .long
  | _ => .array .long
abbrev wsX90 : List Cond := u_ws RX9 TX9 21
theorem nmX9 : ∀ a, a < 21 → ∀ b, b < 21 → a ≠ b → (TX9 a).2.1 ≠ (TX9 b).2.1 := by decide +kernel
theorem tyX9_ok : ∀ k, k < 21 → parseFieldDescriptor (TX9 k).2.2.1 = some (tyX9 k) := by decide +kernel
abbrev cX9_init : ByteArray := prog_11_method_1_code
def yX9_init : MethodName := ⟨RX9, "<init>", "()V"⟩
abbrev cX9_within : ByteArray := prog_11_method_2_code
def yX9_within : MethodName := ⟨RX9, "within", "(III)Z"⟩
abbrev cX9_isSo : ByteArray := prog_11_method_3_code
def yX9_isSo : MethodName := ⟨RX9, "isSo", "(II)Z"⟩
abbrev cX9_energyNow : ByteArray := prog_11_method_4_code
def yX9_energyNow : MethodName := ⟨RX9, "energyNow", "()J"⟩
abbrev cX9_set : ByteArray := prog_11_method_5_code
def yX9_set : MethodName := ⟨RX9, "set", "(II)I"⟩
abbrev cX9_told : ByteArray := prog_11_method_6_code
def yX9_told : MethodName := ⟨RX9, "told", "(I)I"⟩
abbrev cX9_push : ByteArray := prog_11_method_7_code
def yX9_push : MethodName := ⟨RX9, "push", "(III)I"⟩
abbrev cX9_pushOf : ByteArray := prog_11_method_8_code
def yX9_pushOf : MethodName := ⟨RX9, "pushOf", "(II)I"⟩
abbrev cX9_pushes : ByteArray := prog_11_method_9_code
def yX9_pushes : MethodName := ⟨RX9, "pushes", "()V"⟩
abbrev cX9_accounts : ByteArray := prog_11_method_10_code
def yX9_accounts : MethodName := ⟨RX9, "accounts", "(IJ)J"⟩
abbrev cX9_tick : ByteArray := prog_11_method_11_code
def yX9_tick : MethodName := ⟨RX9, "tick", "()V"⟩
abbrev cX9_goes : ByteArray := prog_11_method_12_code
def yX9_goes : MethodName := ⟨RX9, "goes", "(I)V"⟩
abbrev cX9_go : ByteArray := prog_11_method_13_code
def yX9_go : MethodName := ⟨RX9, "go", "(I)I"⟩
abbrev cX9_wheel : ByteArray := prog_11_method_14_code
def yX9_wheel : MethodName := ⟨RX9, "wheel", "(I)I"⟩
abbrev cX9_lowest : ByteArray := prog_11_method_15_code
def yX9_lowest : MethodName := ⟨RX9, "lowest", "(JJI)J"⟩
abbrev cX9_turns : ByteArray := prog_11_method_16_code
def yX9_turns : MethodName := ⟨RX9, "turns", "(II)J"⟩
abbrev cX9_energy : ByteArray := prog_11_method_17_code
def yX9_energy : MethodName := ⟨RX9, "energy", "(I)J"⟩
abbrev cX9_feed : ByteArray := prog_11_method_18_code
def yX9_feed : MethodName := ⟨RX9, "feed", "(I)I"⟩
abbrev cX9_isFrom : ByteArray := prog_11_method_19_code
def yX9_isFrom : MethodName := ⟨RX9, "isFrom", "(II)Z"⟩
abbrev cX9_letter : ByteArray := prog_11_method_20_code
def yX9_letter : MethodName := ⟨RX9, "letter", "(I)I"⟩
abbrev cX9_reads : ByteArray := prog_11_method_21_code
def yX9_reads : MethodName := ⟨RX9, "reads", "()V"⟩
abbrev cX9_does : ByteArray := prog_11_method_22_code
def yX9_does : MethodName := ⟨RX9, "does", "(I)Z"⟩
abbrev cX9_read : ByteArray := prog_11_method_23_code
def yX9_read : MethodName := ⟨RX9, "read", "()I"⟩
abbrev cX9_pours : ByteArray := prog_11_method_24_code
def yX9_pours : MethodName := ⟨RX9, "pours", "([I[I)V"⟩
abbrev cX9_poursLongs : ByteArray := prog_11_method_25_code
def yX9_poursLongs : MethodName := ⟨RX9, "poursLongs", "([J[J)V"⟩
abbrev cX9_lays : ByteArray := prog_11_method_26_code
def yX9_lays : MethodName := ⟨RX9, "lays", "()V"⟩
abbrev cX9_back : ByteArray := prog_11_method_27_code
def yX9_back : MethodName := ⟨RX9, "back", "()V"⟩
abbrev cX9_ahead : ByteArray := prog_11_method_28_code
def yX9_ahead : MethodName := ⟨RX9, "ahead", "(II)I"⟩
abbrev cX9_energyAt : ByteArray := prog_11_method_29_code
def yX9_energyAt : MethodName := ⟨RX9, "energyAt", "(I)J"⟩
abbrev cX9_hears : ByteArray := prog_11_method_30_code
def yX9_hears : MethodName := ⟨RX9, "hears", "(II)V"⟩
abbrev cX9_hears_ : ByteArray := prog_11_method_31_code
def yX9_hears_ : MethodName := ⟨RX9, "hears", "()V"⟩
abbrev cX9_heard : ByteArray := prog_11_method_32_code
def yX9_heard : MethodName := ⟨RX9, "heard", "(I)I"⟩
abbrev cX9_gaps : ByteArray := prog_11_method_33_code
def yX9_gaps : MethodName := ⟨RX9, "gaps", "()I"⟩
abbrev cX9_gapOf : ByteArray := prog_11_method_34_code
def yX9_gapOf : MethodName := ⟨RX9, "gapOf", "(I)I"⟩
abbrev cX9_uneven : ByteArray := prog_11_method_35_code
def yX9_uneven : MethodName := ⟨RX9, "uneven", "()I"⟩
abbrev cX9_evenest : ByteArray := prog_11_method_36_code
def yX9_evenest : MethodName := ⟨RX9, "evenest", "()I"⟩
abbrev cX9_beat : ByteArray := prog_11_method_37_code
def yX9_beat : MethodName := ⟨RX9, "beat", "(I)I"⟩
abbrev cX9_gap : ByteArray := prog_11_method_38_code
def yX9_gap : MethodName := ⟨RX9, "gap", "(I)I"⟩
abbrev cX9_longest : ByteArray := prog_11_method_39_code
def yX9_longest : MethodName := ⟨RX9, "longest", "(II)I"⟩
abbrev cX9_see : ByteArray := prog_11_method_40_code
def yX9_see : MethodName := ⟨RX9, "see", "(II)I"⟩
abbrev cX9_isSeen : ByteArray := prog_11_method_41_code
def yX9_isSeen : MethodName := ⟨RX9, "isSeen", "()Z"⟩
abbrev cX9_fits : ByteArray := prog_11_method_42_code
def yX9_fits : MethodName := ⟨RX9, "fits", "(I)I"⟩
abbrev cX9_odds : ByteArray := prog_11_method_43_code
def yX9_odds : MethodName := ⟨RX9, "odds", "(II)J"⟩
abbrev cX9_mean : ByteArray := prog_11_method_44_code
def yX9_mean : MethodName := ⟨RX9, "mean", "(I)J"⟩
abbrev cX9_book : ByteArray := prog_11_method_45_code
def yX9_book : MethodName := ⟨RX9, "book", "(II)I"⟩
abbrev cX9_looked : ByteArray := prog_11_method_46_code
def yX9_looked : MethodName := ⟨RX9, "looked", "()I"⟩
abbrev cX9_isTape : ByteArray := prog_11_method_47_code
def yX9_isTape : MethodName := ⟨RX9, "isTape", "(I)Z"⟩
abbrev cX9_judge : ByteArray := prog_11_method_48_code
def yX9_judge : MethodName := ⟨RX9, "judge", "(II)I"⟩
abbrev cX9_image : ByteArray := prog_11_method_49_code
def yX9_image : MethodName := ⟨RX9, "image", "()I"⟩
abbrev cX9_undo : ByteArray := prog_11_method_50_code
def yX9_undo : MethodName := ⟨RX9, "undo", "()I"⟩
abbrev cX9_count : ByteArray := prog_11_method_51_code
def yX9_count : MethodName := ⟨RX9, "count", "(I)I"⟩
abbrev cX9_tape : ByteArray := prog_11_method_52_code
def yX9_tape : MethodName := ⟨RX9, "tape", "(III)I"⟩
abbrev cX9_item : ByteArray := prog_11_method_53_code
def yX9_item : MethodName := ⟨RX9, "item", "(IIJ)I"⟩
abbrev cX9_peek : ByteArray := prog_11_method_54_code
def yX9_peek : MethodName := ⟨RX9, "peek", "(II)J"⟩
abbrev cX9_shift : ByteArray := prog_11_method_55_code
def yX9_shift : MethodName := ⟨RX9, "shift", "(IIIII)I"⟩
def RJ9 : String := "java/lang/Math"
def TJ9 : u_T := fun k => match k with
  | _ => ("", "", "", false)
def tyJ9 : Nat → FieldType := fun k => match k with
  | _ => .int
abbrev wsJ90 : List Cond := u_ws RJ9 TJ9 0
theorem nmJ9 : ∀ a, a < 0 → ∀ b, b < 0 → a ≠ b → (TJ9 a).2.1 ≠ (TJ9 b).2.1 := by decide +kernel
theorem tyJ9_ok : ∀ k, k < 0 → parseFieldDescriptor (TJ9 k).2.2.1 = some (tyJ9 k) := by decide +kernel
abbrev cJ9_abs_0f7a4 : ByteArray := prog_12_method_59_code
def yJ9_abs_0f7a4 : MethodName := ⟨RJ9, "abs", "(I)I"⟩
abbrev cJ9_max_7cf53 : ByteArray := prog_12_method_65_code
def yJ9_max_7cf53 : MethodName := ⟨RJ9, "max", "(II)I"⟩
abbrev cJ9_min_7cf53 : ByteArray := prog_12_method_69_code
def yJ9_min_7cf53 : MethodName := ⟨RJ9, "min", "(II)I"⟩
def RJ10 : String := "java/lang/System"
def TJ10 : u_T := fun k => match k with
  | _ => ("", "", "", false)
def tyJ10 : Nat → FieldType := fun k => match k with
  | _ => .int
abbrev wsJ100 : List Cond := u_ws RJ10 TJ10 0
theorem nmJ10 : ∀ a, a < 0 → ∀ b, b < 0 → a ≠ b → (TJ10 a).2.1 ≠ (TJ10 b).2.1 := by decide +kernel
theorem tyJ10_ok : ∀ k, k < 0 → parseFieldDescriptor (TJ10 k).2.2.1 = some (tyJ10 k) := by decide +kernel
def RL : String := "WatchBeatsLaw"
abbrev cL_law : ByteArray := code
def yL_law : MethodName := ⟨RL, "law", "([I)Z"⟩
abbrev vwCl : List vw_C := [(RX0, TX0, 15), (RX1, TX1, 2), (RX2, TX2, 4), (RX3, TX3, 3), (RX4, TX4, 3), (RX5, TX5, 5), (RX6, TX6, 2), (RX7, TX7, 4), (RX8, TX8, 7), (RX9, TX9, 21)]
end
section
/-- the tables' words that a callee may be handed -/
def GG : List Cond := lw_tbl.filter goodWord
theorem GG_tbl : ∀ w ∈ GG, w ∈ lw_tbl := fun _ h => (List.mem_filter.mp h).1
theorem GG_i (i : Nat) {w : Cond} (h : lw_tbl[i]? = some w) (g : goodWord w = true) : w ∈ GG := List.mem_filter.mpr ⟨List.mem_of_getElem? h, g⟩
theorem GG_good {w : Cond} (h : w ∈ GG) : goodWord w = true := (List.mem_filter.mp h).2
/-- a callee's words among a caller's: its own code, and all of GG -/
theorem GG_call {x c : Cond} (hc : c ∈ GG) : GoodIn (x :: GG) (c :: GG) := by
  intro w hw
  have h : w ∈ GG := (List.mem_cons.mp hw).elim (fun e => by rw [e]; exact hc) id
  exact ⟨List.mem_cons_of_mem _ h, good_of_word (GG_good h)⟩
theorem GG_top {c : Cond} (hc : c ∈ GG) : GoodIn lw_tbl (c :: GG) := by
  intro w hw
  have h : w ∈ GG := (List.mem_cons.mp hw).elim (fun e => by rw [e]; exact hc) id
  exact ⟨GG_tbl w h, good_of_word (GG_good h)⟩
theorem k_0 : (Cond.selects RX0 yX0_settle yX0_settle) ∈ GG := GG_i 0 (rfl) (by decide +kernel)
theorem k_1 : (Cond.selects RX0 yX0_bePushed yX0_bePushed) ∈ GG := GG_i 1 (rfl) (by decide +kernel)
theorem k_2 : (Cond.selects RX0 yX0_doPush yX0_doPush) ∈ GG := GG_i 2 (rfl) (by decide +kernel)
theorem k_3 : (Cond.selects RX0 yX0_beDragged yX0_beDragged) ∈ GG := GG_i 3 (rfl) (by decide +kernel)
theorem k_4 : (Cond.selects RX0 yX0_swing yX0_swing) ∈ GG := GG_i 4 (rfl) (by decide +kernel)
theorem k_5 : (Cond.selects RX0 yX0_isLetGo yX0_isLetGo) ∈ GG := GG_i 5 (rfl) (by decide +kernel)
theorem k_6 : (Cond.selects RX0 yX0_beKicked yX0_beKicked) ∈ GG := GG_i 6 (rfl) (by decide +kernel)
theorem k_7 : (Cond.selects RX5 yX5_letterAt yX5_letterAt) ∈ GG := GG_i 7 (rfl) (by decide +kernel)
theorem k_8 : (Cond.selects RX5 yX5_signAt yX5_signAt) ∈ GG := GG_i 8 (rfl) (by decide +kernel)
theorem k_9 : (Cond.selects RX5 yX5_digitsEnd yX5_digitsEnd) ∈ GG := GG_i 9 (rfl) (by decide +kernel)
theorem k_10 : (Cond.selects RX5 yX5_number yX5_number) ∈ GG := GG_i 10 (rfl) (by decide +kernel)
theorem k_11 : (Cond.selects RX8 yX8_isClauseDone yX8_isClauseDone) ∈ GG := GG_i 11 (rfl) (by decide +kernel)
theorem k_12 : (Cond.selects RX8 yX8_thinkAhead yX8_thinkAhead) ∈ GG := GG_i 12 (rfl) (by decide +kernel)
theorem k_13 : (Cond.selects RX8 yX8_listenFromNow yX8_listenFromNow) ∈ GG := GG_i 13 (rfl) (by decide +kernel)
theorem k_14 : (Cond.selects RX8 yX8_evenest yX8_evenest) ∈ GG := GG_i 14 (rfl) (by decide +kernel)
theorem k_15 : (Cond.selects RX8 yX8_listenWith yX8_listenWith) ∈ GG := GG_i 15 (rfl) (by decide +kernel)
theorem k_16 : (Cond.selects RX1 yX1_gapsAheadOf yX1_gapsAheadOf) ∈ GG := GG_i 16 (rfl) (by decide +kernel)
theorem k_17 : (Cond.selects RX8 yX8_goesAsSeen yX8_goesAsSeen) ∈ GG := GG_i 17 (rfl) (by decide +kernel)
theorem k_18 : (Cond.selects RX8 yX8_tapeAt yX8_tapeAt) ∈ GG := GG_i 18 (rfl) (by decide +kernel)
theorem k_19 : (Cond.selects RX8 yX8_judgement yX8_judgement) ∈ GG := GG_i 19 (rfl) (by decide +kernel)
theorem k_20 : (Cond.selects RX9 yX9_energyNow yX9_energyNow) ∈ GG := GG_i 20 (rfl) (by decide +kernel)
theorem k_21 : (Cond.selects RX9 yX9_goes yX9_goes) ∈ GG := GG_i 21 (rfl) (by decide +kernel)
theorem k_22 : (Cond.selects RX9 yX9_tick yX9_tick) ∈ GG := GG_i 22 (rfl) (by decide +kernel)
theorem k_23 : (Cond.selects RX9 yX9_pushes yX9_pushes) ∈ GG := GG_i 23 (rfl) (by decide +kernel)
theorem k_24 : (Cond.selects RX9 yX9_accounts yX9_accounts) ∈ GG := GG_i 24 (rfl) (by decide +kernel)
theorem k_25 : (Cond.selects RX9 yX9_reads yX9_reads) ∈ GG := GG_i 25 (rfl) (by decide +kernel)
theorem k_26 : (Cond.selects RX9 yX9_isFrom yX9_isFrom) ∈ GG := GG_i 26 (rfl) (by decide +kernel)
theorem k_27 : (Cond.selects RX9 yX9_does yX9_does) ∈ GG := GG_i 27 (rfl) (by decide +kernel)
theorem k_28 : (Cond.selects RX9 yX9_lays yX9_lays) ∈ GG := GG_i 28 (rfl) (by decide +kernel)
theorem k_29 : (Cond.selects RX9 yX9_back yX9_back) ∈ GG := GG_i 29 (rfl) (by decide +kernel)
theorem k_30 : (Cond.selects RX9 yX9_hears_ yX9_hears_) ∈ GG := GG_i 30 (rfl) (by decide +kernel)
theorem k_31 : (Cond.selects RX9 yX9_hears yX9_hears) ∈ GG := GG_i 31 (rfl) (by decide +kernel)
theorem k_32 : (Cond.selects RX9 yX9_evenest yX9_evenest) ∈ GG := GG_i 32 (rfl) (by decide +kernel)
theorem k_33 : (Cond.selects RX9 yX9_uneven yX9_uneven) ∈ GG := GG_i 33 (rfl) (by decide +kernel)
theorem k_34 : (Cond.selects RX9 yX9_gaps yX9_gaps) ∈ GG := GG_i 34 (rfl) (by decide +kernel)
theorem k_35 : (Cond.selects RX9 yX9_gapOf yX9_gapOf) ∈ GG := GG_i 35 (rfl) (by decide +kernel)
theorem k_36 : (Cond.selects RX9 yX9_isSeen yX9_isSeen) ∈ GG := GG_i 36 (rfl) (by decide +kernel)
theorem k_37 : (Cond.initialized RL) ∈ GG := GG_i 37 (rfl) (by decide +kernel)
theorem k_38 : (Cond.initialized RX8) ∈ GG := GG_i 38 (rfl) (by decide +kernel)
theorem k_39 : (Cond.initialized RX7) ∈ GG := GG_i 39 (rfl) (by decide +kernel)
theorem k_40 : (Cond.initialized RX0) ∈ GG := GG_i 40 (rfl) (by decide +kernel)
theorem k_41 : (Cond.initialized RX2) ∈ GG := GG_i 41 (rfl) (by decide +kernel)
theorem k_42 : (Cond.initialized RX6) ∈ GG := GG_i 42 (rfl) (by decide +kernel)
theorem k_43 : (Cond.initialized RX3) ∈ GG := GG_i 43 (rfl) (by decide +kernel)
theorem k_44 : (Cond.initialized RX1) ∈ GG := GG_i 44 (rfl) (by decide +kernel)
theorem k_45 : (Cond.initialized RX5) ∈ GG := GG_i 45 (rfl) (by decide +kernel)
theorem k_46 : (Cond.initialized RX4) ∈ GG := GG_i 46 (rfl) (by decide +kernel)
theorem k_47 : (Cond.initialized RX9) ∈ GG := GG_i 47 (rfl) (by decide +kernel)
theorem k_48 : (Cond.initialized RJ9) ∈ GG := GG_i 48 (rfl) (by decide +kernel)
theorem k_49 : (Cond.initialized RJ10) ∈ GG := GG_i 49 (rfl) (by decide +kernel)
theorem k_50 : (Cond.classLink RL 7 RX8) ∈ GG := GG_i 50 (rfl) (by decide +kernel)
theorem k_51 : (Cond.instantiable RX8 7) ∈ GG := GG_i 51 (rfl) (by decide +kernel)
theorem k_52 : (Cond.methodLink RL 9 yX8_init) ∈ GG := GG_i 52 (rfl) (by decide +kernel)
theorem k_53 : (Cond.instanceMethod yX8_init) ∈ GG := GG_i 53 (rfl) (by decide +kernel)
theorem k_54 : (Cond.code yX8_init cX8_init 2 none) ∈ GG := GG_i 54 (rfl) (by decide +kernel)
theorem k_55 : (Cond.methodLink RX8 3 objectInit) ∈ GG := GG_i 55 (rfl) (by decide +kernel)
theorem k_56 : (Cond.instanceMethod objectInit) ∈ GG := GG_i 56 (rfl) (by decide +kernel)
theorem k_57 : (Cond.code objectInit ⟨#[0xb1]⟩ 1 none) ∈ GG := GG_i 57 (rfl) (by decide +kernel)
theorem k_58 : (Cond.classLink RX8 9 RX7) ∈ GG := GG_i 58 (rfl) (by decide +kernel)
theorem k_59 : (Cond.instantiable RX7 4) ∈ GG := GG_i 59 (rfl) (by decide +kernel)
theorem k_61 : (Cond.instanceMethod yX7_init) ∈ GG := GG_i 61 (rfl) (by decide +kernel)
theorem k_62 : (Cond.code yX7_init cX7_init 1 none) ∈ GG := GG_i 62 (rfl) (by decide +kernel)
theorem k_63 : (Cond.methodLink RX7 1 objectInit) ∈ GG := GG_i 63 (rfl) (by decide +kernel)
theorem k_64 : (Cond.classLink RX7 7 RX0) ∈ GG := GG_i 64 (rfl) (by decide +kernel)
theorem k_65 : (Cond.instantiable RX0 15) ∈ GG := GG_i 65 (rfl) (by decide +kernel)
theorem k_66 : (Cond.methodLink RX7 9 yX0_init) ∈ GG := GG_i 66 (rfl) (by decide +kernel)
theorem k_67 : (Cond.instanceMethod yX0_init) ∈ GG := GG_i 67 (rfl) (by decide +kernel)
theorem k_68 : (Cond.code yX0_init cX0_init 2 none) ∈ GG := GG_i 68 (rfl) (by decide +kernel)
theorem k_69 : (Cond.methodLink RX0 3 objectInit) ∈ GG := GG_i 69 (rfl) (by decide +kernel)
theorem k_70 : (Cond.classLink RX0 21 RX2) ∈ GG := GG_i 70 (rfl) (by decide +kernel)
theorem k_71 : (Cond.instantiable RX2 4) ∈ GG := GG_i 71 (rfl) (by decide +kernel)
theorem k_73 : (Cond.instanceMethod yX2_init) ∈ GG := GG_i 73 (rfl) (by decide +kernel)
theorem k_74 : (Cond.code yX2_init cX2_init 1 none) ∈ GG := GG_i 74 (rfl) (by decide +kernel)
theorem k_75 : (Cond.methodLink RX2 3 objectInit) ∈ GG := GG_i 75 (rfl) (by decide +kernel)
theorem k_76 : (Cond.fieldLink RX2 9 "WatchBeats$Pushes" "times" "[I") ∈ GG := GG_i 76 (rfl) (by decide +kernel)
theorem k_77 : (Cond.fieldLink RX8 100 "WatchBeats$Pushes" "times" "[I") ∈ GG := GG_i 77 (rfl) (by decide +kernel)
theorem k_78 : (Cond.fieldLink RX0 101 "WatchBeats$Pushes" "times" "[I") ∈ GG := GG_i 78 (rfl) (by decide +kernel)
theorem k_79 : (Cond.fieldLink RX2 15 "WatchBeats$Pushes" "whats" "[I") ∈ GG := GG_i 79 (rfl) (by decide +kernel)
theorem k_80 : (Cond.fieldLink RX8 104 "WatchBeats$Pushes" "whats" "[I") ∈ GG := GG_i 80 (rfl) (by decide +kernel)
theorem k_81 : (Cond.fieldLink RX0 105 "WatchBeats$Pushes" "whats" "[I") ∈ GG := GG_i 81 (rfl) (by decide +kernel)
theorem k_82 : (Cond.fieldLink RX2 18 "WatchBeats$Pushes" "sizes" "[I") ∈ GG := GG_i 82 (rfl) (by decide +kernel)
theorem k_83 : (Cond.fieldLink RX8 107 "WatchBeats$Pushes" "sizes" "[I") ∈ GG := GG_i 83 (rfl) (by decide +kernel)
theorem k_84 : (Cond.fieldLink RX0 108 "WatchBeats$Pushes" "sizes" "[I") ∈ GG := GG_i 84 (rfl) (by decide +kernel)
theorem k_85 : (Cond.fieldLink RX2 21 "WatchBeats$Pushes" "waiting" "I") ∈ GG := GG_i 85 (rfl) (by decide +kernel)
theorem k_86 : (Cond.fieldLink RX0 68 "WatchBeats$Pushes" "waiting" "I") ∈ GG := GG_i 86 (rfl) (by decide +kernel)
theorem k_87 : (Cond.fieldLink RX8 91 "WatchBeats$Pushes" "waiting" "I") ∈ GG := GG_i 87 (rfl) (by decide +kernel)
theorem k_88 : (Cond.laysFinal "WatchBeats$Pushes" "WatchBeats$Pushes" "times" "[I") ∈ GG := GG_i 88 (rfl) (by decide +kernel)
theorem k_90 : (Cond.laysFinal "WatchBeats$Pushes" "WatchBeats$Pushes" "whats" "[I") ∈ GG := GG_i 90 (rfl) (by decide +kernel)
theorem k_92 : (Cond.laysFinal "WatchBeats$Pushes" "WatchBeats$Pushes" "sizes" "[I") ∈ GG := GG_i 92 (rfl) (by decide +kernel)
theorem k_94 : (Cond.lays "WatchBeats$Pushes" "WatchBeats$Pushes" "waiting" "I") ∈ GG := GG_i 94 (rfl) (by decide +kernel)
theorem k_97 : (Cond.arrayClass .int) ∈ GG := GG_i 97 (rfl) (by decide +kernel)
theorem k_98 : (Cond.fieldLink RX0 36 "WatchBeats$Balance" "angle" "I") ∈ GG := GG_i 98 (rfl) (by decide +kernel)
theorem k_99 : (Cond.fieldLink RX8 298 "WatchBeats$Balance" "angle" "I") ∈ GG := GG_i 99 (rfl) (by decide +kernel)
theorem k_100 : (Cond.fieldLink RX0 39 "WatchBeats$Balance" "speed" "I") ∈ GG := GG_i 100 (rfl) (by decide +kernel)
theorem k_101 : (Cond.fieldLink RX0 42 "WatchBeats$Balance" "drag" "I") ∈ GG := GG_i 101 (rfl) (by decide +kernel)
theorem k_102 : (Cond.fieldLink RX0 45 "WatchBeats$Balance" "offset" "I") ∈ GG := GG_i 102 (rfl) (by decide +kernel)
theorem k_103 : (Cond.fieldLink RX8 285 "WatchBeats$Balance" "offset" "I") ∈ GG := GG_i 103 (rfl) (by decide +kernel)
theorem k_104 : (Cond.fieldLink RX0 48 "WatchBeats$Balance" "pallets" "I") ∈ GG := GG_i 104 (rfl) (by decide +kernel)
theorem k_105 : (Cond.fieldLink RX0 51 "WatchBeats$Balance" "clock" "I") ∈ GG := GG_i 105 (rfl) (by decide +kernel)
theorem k_106 : (Cond.fieldLink RX8 76 "WatchBeats$Balance" "clock" "I") ∈ GG := GG_i 106 (rfl) (by decide +kernel)
theorem k_107 : (Cond.fieldLink RX0 54 "WatchBeats$Balance" "beats" "I") ∈ GG := GG_i 107 (rfl) (by decide +kernel)
theorem k_108 : (Cond.fieldLink RX8 119 "WatchBeats$Balance" "beats" "I") ∈ GG := GG_i 108 (rfl) (by decide +kernel)
theorem k_109 : (Cond.fieldLink RX0 57 "WatchBeats$Balance" "bangs" "I") ∈ GG := GG_i 109 (rfl) (by decide +kernel)
theorem k_110 : (Cond.fieldLink RX0 9 "WatchBeats$Balance" "stiff" "I") ∈ GG := GG_i 110 (rfl) (by decide +kernel)
theorem k_111 : (Cond.fieldLink RX0 15 "WatchBeats$Balance" "force" "I") ∈ GG := GG_i 111 (rfl) (by decide +kernel)
theorem k_112 : (Cond.fieldLink RX0 18 "WatchBeats$Balance" "life" "I") ∈ GG := GG_i 112 (rfl) (by decide +kernel)
theorem k_113 : (Cond.fieldLink RX0 24 "WatchBeats$Balance" "pushes" "LWatchBeats$Pushes;") ∈ GG := GG_i 113 (rfl) (by decide +kernel)
theorem k_114 : (Cond.fieldLink RX8 87 "WatchBeats$Balance" "pushes" "LWatchBeats$Pushes;") ∈ GG := GG_i 114 (rfl) (by decide +kernel)
theorem k_115 : (Cond.fieldLink RX0 28 "WatchBeats$Balance" "account" "[J") ∈ GG := GG_i 115 (rfl) (by decide +kernel)
theorem k_116 : (Cond.fieldLink RX8 134 "WatchBeats$Balance" "account" "[J") ∈ GG := GG_i 116 (rfl) (by decide +kernel)
theorem k_117 : (Cond.fieldLink RX0 60 "WatchBeats$Balance" "settled" "J") ∈ GG := GG_i 117 (rfl) (by decide +kernel)
theorem k_118 : (Cond.fieldLink RX0 32 "WatchBeats$Balance" "isAccounted" "Z") ∈ GG := GG_i 118 (rfl) (by decide +kernel)
theorem k_119 : (Cond.lays "WatchBeats$Balance" "WatchBeats$Balance" "angle" "I") ∈ GG := GG_i 119 (rfl) (by decide +kernel)
theorem k_121 : (Cond.lays "WatchBeats$Balance" "WatchBeats$Balance" "speed" "I") ∈ GG := GG_i 121 (rfl) (by decide +kernel)
theorem k_123 : (Cond.lays "WatchBeats$Balance" "WatchBeats$Balance" "drag" "I") ∈ GG := GG_i 123 (rfl) (by decide +kernel)
theorem k_125 : (Cond.lays "WatchBeats$Balance" "WatchBeats$Balance" "offset" "I") ∈ GG := GG_i 125 (rfl) (by decide +kernel)
theorem k_127 : (Cond.lays "WatchBeats$Balance" "WatchBeats$Balance" "pallets" "I") ∈ GG := GG_i 127 (rfl) (by decide +kernel)
theorem k_129 : (Cond.lays "WatchBeats$Balance" "WatchBeats$Balance" "clock" "I") ∈ GG := GG_i 129 (rfl) (by decide +kernel)
theorem k_131 : (Cond.lays "WatchBeats$Balance" "WatchBeats$Balance" "beats" "I") ∈ GG := GG_i 131 (rfl) (by decide +kernel)
theorem k_133 : (Cond.lays "WatchBeats$Balance" "WatchBeats$Balance" "bangs" "I") ∈ GG := GG_i 133 (rfl) (by decide +kernel)
theorem k_135 : (Cond.lays "WatchBeats$Balance" "WatchBeats$Balance" "stiff" "I") ∈ GG := GG_i 135 (rfl) (by decide +kernel)
theorem k_137 : (Cond.lays "WatchBeats$Balance" "WatchBeats$Balance" "force" "I") ∈ GG := GG_i 137 (rfl) (by decide +kernel)
theorem k_139 : (Cond.lays "WatchBeats$Balance" "WatchBeats$Balance" "life" "I") ∈ GG := GG_i 139 (rfl) (by decide +kernel)
theorem k_141 : (Cond.laysFinal "WatchBeats$Balance" "WatchBeats$Balance" "pushes" "LWatchBeats$Pushes;") ∈ GG := GG_i 141 (rfl) (by decide +kernel)
theorem k_143 : (Cond.laysFinal "WatchBeats$Balance" "WatchBeats$Balance" "account" "[J") ∈ GG := GG_i 143 (rfl) (by decide +kernel)
theorem k_145 : (Cond.lays "WatchBeats$Balance" "WatchBeats$Balance" "settled" "J") ∈ GG := GG_i 145 (rfl) (by decide +kernel)
theorem k_147 : (Cond.laysFinal "WatchBeats$Balance" "WatchBeats$Balance" "isAccounted" "Z") ∈ GG := GG_i 147 (rfl) (by decide +kernel)
theorem k_150 : (Cond.arrayClass .long) ∈ GG := GG_i 150 (rfl) (by decide +kernel)
theorem k_151 : (Cond.classLink RX7 18 RX6) ∈ GG := GG_i 151 (rfl) (by decide +kernel)
theorem k_152 : (Cond.instantiable RX6 2) ∈ GG := GG_i 152 (rfl) (by decide +kernel)
theorem k_154 : (Cond.instanceMethod yX6_init) ∈ GG := GG_i 154 (rfl) (by decide +kernel)
theorem k_155 : (Cond.code yX6_init cX6_init 1 none) ∈ GG := GG_i 155 (rfl) (by decide +kernel)
theorem k_156 : (Cond.methodLink RX6 3 objectInit) ∈ GG := GG_i 156 (rfl) (by decide +kernel)
theorem k_157 : (Cond.fieldLink RX6 9 "WatchBeats$Train" "teeth" "[I") ∈ GG := GG_i 157 (rfl) (by decide +kernel)
theorem k_158 : (Cond.fieldLink RX6 15 "WatchBeats$Train" "wheels" "I") ∈ GG := GG_i 158 (rfl) (by decide +kernel)
theorem k_159 : (Cond.fieldLink RX8 70 "WatchBeats$Train" "wheels" "I") ∈ GG := GG_i 159 (rfl) (by decide +kernel)
theorem k_160 : (Cond.laysFinal "WatchBeats$Train" "WatchBeats$Train" "teeth" "[I") ∈ GG := GG_i 160 (rfl) (by decide +kernel)
theorem k_162 : (Cond.lays "WatchBeats$Train" "WatchBeats$Train" "wheels" "I") ∈ GG := GG_i 162 (rfl) (by decide +kernel)
theorem k_165 : (Cond.classLink RX7 25 RX3) ∈ GG := GG_i 165 (rfl) (by decide +kernel)
theorem k_166 : (Cond.instantiable RX3 3) ∈ GG := GG_i 166 (rfl) (by decide +kernel)
theorem k_168 : (Cond.instanceMethod yX3_init) ∈ GG := GG_i 168 (rfl) (by decide +kernel)
theorem k_169 : (Cond.code yX3_init cX3_init 1 none) ∈ GG := GG_i 169 (rfl) (by decide +kernel)
theorem k_170 : (Cond.methodLink RX3 3 objectInit) ∈ GG := GG_i 170 (rfl) (by decide +kernel)
theorem k_171 : (Cond.fieldLink RX3 9 "WatchBeats$Rows" "first" "[I") ∈ GG := GG_i 171 (rfl) (by decide +kernel)
theorem k_172 : (Cond.fieldLink RX8 207 "WatchBeats$Rows" "first" "[I") ∈ GG := GG_i 172 (rfl) (by decide +kernel)
theorem k_173 : (Cond.fieldLink RX3 15 "WatchBeats$Rows" "second" "[I") ∈ GG := GG_i 173 (rfl) (by decide +kernel)
theorem k_174 : (Cond.fieldLink RX8 210 "WatchBeats$Rows" "second" "[I") ∈ GG := GG_i 174 (rfl) (by decide +kernel)
theorem k_175 : (Cond.fieldLink RX3 18 "WatchBeats$Rows" "held" "I") ∈ GG := GG_i 175 (rfl) (by decide +kernel)
theorem k_176 : (Cond.fieldLink RX8 188 "WatchBeats$Rows" "held" "I") ∈ GG := GG_i 176 (rfl) (by decide +kernel)
theorem k_177 : (Cond.laysFinal "WatchBeats$Rows" "WatchBeats$Rows" "first" "[I") ∈ GG := GG_i 177 (rfl) (by decide +kernel)
theorem k_179 : (Cond.laysFinal "WatchBeats$Rows" "WatchBeats$Rows" "second" "[I") ∈ GG := GG_i 179 (rfl) (by decide +kernel)
theorem k_181 : (Cond.lays "WatchBeats$Rows" "WatchBeats$Rows" "held" "I") ∈ GG := GG_i 181 (rfl) (by decide +kernel)
theorem k_184 : (Cond.fieldLink RX7 12 "WatchBeats$Whole" "balance" "LWatchBeats$Balance;") ∈ GG := GG_i 184 (rfl) (by decide +kernel)
theorem k_185 : (Cond.fieldLink RX8 55 "WatchBeats$Whole" "balance" "LWatchBeats$Balance;") ∈ GG := GG_i 185 (rfl) (by decide +kernel)
theorem k_186 : (Cond.fieldLink RX7 21 "WatchBeats$Whole" "train" "LWatchBeats$Train;") ∈ GG := GG_i 186 (rfl) (by decide +kernel)
theorem k_187 : (Cond.fieldLink RX8 66 "WatchBeats$Whole" "train" "LWatchBeats$Train;") ∈ GG := GG_i 187 (rfl) (by decide +kernel)
theorem k_188 : (Cond.fieldLink RX7 28 "WatchBeats$Whole" "seen" "LWatchBeats$Rows;") ∈ GG := GG_i 188 (rfl) (by decide +kernel)
theorem k_189 : (Cond.fieldLink RX8 184 "WatchBeats$Whole" "seen" "LWatchBeats$Rows;") ∈ GG := GG_i 189 (rfl) (by decide +kernel)
theorem k_190 : (Cond.fieldLink RX7 32 "WatchBeats$Whole" "book" "LWatchBeats$Rows;") ∈ GG := GG_i 190 (rfl) (by decide +kernel)
theorem k_191 : (Cond.fieldLink RX8 204 "WatchBeats$Whole" "book" "LWatchBeats$Rows;") ∈ GG := GG_i 191 (rfl) (by decide +kernel)
theorem k_192 : (Cond.laysFinal "WatchBeats$Whole" "WatchBeats$Whole" "balance" "LWatchBeats$Balance;") ∈ GG := GG_i 192 (rfl) (by decide +kernel)
theorem k_194 : (Cond.laysFinal "WatchBeats$Whole" "WatchBeats$Whole" "train" "LWatchBeats$Train;") ∈ GG := GG_i 194 (rfl) (by decide +kernel)
theorem k_196 : (Cond.laysFinal "WatchBeats$Whole" "WatchBeats$Whole" "seen" "LWatchBeats$Rows;") ∈ GG := GG_i 196 (rfl) (by decide +kernel)
theorem k_198 : (Cond.laysFinal "WatchBeats$Whole" "WatchBeats$Whole" "book" "LWatchBeats$Rows;") ∈ GG := GG_i 198 (rfl) (by decide +kernel)
theorem k_201 : (Cond.classLink RX8 21 RX0) ∈ GG := GG_i 201 (rfl) (by decide +kernel)
theorem k_202 : (Cond.methodLink RX8 23 yX0_init) ∈ GG := GG_i 202 (rfl) (by decide +kernel)
theorem k_203 : (Cond.classLink RX8 30 RX1) ∈ GG := GG_i 203 (rfl) (by decide +kernel)
theorem k_204 : (Cond.instantiable RX1 2) ∈ GG := GG_i 204 (rfl) (by decide +kernel)
theorem k_206 : (Cond.instanceMethod yX1_init) ∈ GG := GG_i 206 (rfl) (by decide +kernel)
theorem k_207 : (Cond.code yX1_init cX1_init 1 none) ∈ GG := GG_i 207 (rfl) (by decide +kernel)
theorem k_208 : (Cond.methodLink RX1 3 objectInit) ∈ GG := GG_i 208 (rfl) (by decide +kernel)
theorem k_209 : (Cond.fieldLink RX1 9 "WatchBeats$Heard" "at" "[I") ∈ GG := GG_i 209 (rfl) (by decide +kernel)
theorem k_210 : (Cond.fieldLink RX1 15 "WatchBeats$Heard" "beats" "I") ∈ GG := GG_i 210 (rfl) (by decide +kernel)
theorem k_211 : (Cond.fieldLink RX8 171 "WatchBeats$Heard" "beats" "I") ∈ GG := GG_i 211 (rfl) (by decide +kernel)
theorem k_212 : (Cond.laysFinal "WatchBeats$Heard" "WatchBeats$Heard" "at" "[I") ∈ GG := GG_i 212 (rfl) (by decide +kernel)
theorem k_214 : (Cond.lays "WatchBeats$Heard" "WatchBeats$Heard" "beats" "I") ∈ GG := GG_i 214 (rfl) (by decide +kernel)
theorem k_217 : (Cond.classLink RX8 37 RX5) ∈ GG := GG_i 217 (rfl) (by decide +kernel)
theorem k_218 : (Cond.instantiable RX5 5) ∈ GG := GG_i 218 (rfl) (by decide +kernel)
theorem k_220 : (Cond.instanceMethod yX5_init) ∈ GG := GG_i 220 (rfl) (by decide +kernel)
theorem k_221 : (Cond.code yX5_init cX5_init 1 none) ∈ GG := GG_i 221 (rfl) (by decide +kernel)
theorem k_222 : (Cond.methodLink RX5 3 objectInit) ∈ GG := GG_i 222 (rfl) (by decide +kernel)
theorem k_223 : (Cond.fieldLink RX5 9 "WatchBeats$Text" "signs" "[B") ∈ GG := GG_i 223 (rfl) (by decide +kernel)
theorem k_224 : (Cond.fieldLink RX5 22 "WatchBeats$Text" "length" "I") ∈ GG := GG_i 224 (rfl) (by decide +kernel)
theorem k_225 : (Cond.fieldLink RX8 138 "WatchBeats$Text" "length" "I") ∈ GG := GG_i 225 (rfl) (by decide +kernel)
theorem k_226 : (Cond.fieldLink RX5 15 "WatchBeats$Text" "whats" "[I") ∈ GG := GG_i 226 (rfl) (by decide +kernel)
theorem k_227 : (Cond.fieldLink RX8 149 "WatchBeats$Text" "whats" "[I") ∈ GG := GG_i 227 (rfl) (by decide +kernel)
theorem k_228 : (Cond.fieldLink RX5 19 "WatchBeats$Text" "numbers" "[I") ∈ GG := GG_i 228 (rfl) (by decide +kernel)
theorem k_229 : (Cond.fieldLink RX8 150 "WatchBeats$Text" "numbers" "[I") ∈ GG := GG_i 229 (rfl) (by decide +kernel)
theorem k_230 : (Cond.fieldLink RX5 26 "WatchBeats$Text" "clauses" "I") ∈ GG := GG_i 230 (rfl) (by decide +kernel)
theorem k_231 : (Cond.fieldLink RX8 146 "WatchBeats$Text" "clauses" "I") ∈ GG := GG_i 231 (rfl) (by decide +kernel)
theorem k_232 : (Cond.laysFinal "WatchBeats$Text" "WatchBeats$Text" "signs" "[B") ∈ GG := GG_i 232 (rfl) (by decide +kernel)
theorem k_234 : (Cond.lays "WatchBeats$Text" "WatchBeats$Text" "length" "I") ∈ GG := GG_i 234 (rfl) (by decide +kernel)
theorem k_236 : (Cond.laysFinal "WatchBeats$Text" "WatchBeats$Text" "whats" "[I") ∈ GG := GG_i 236 (rfl) (by decide +kernel)
theorem k_238 : (Cond.laysFinal "WatchBeats$Text" "WatchBeats$Text" "numbers" "[I") ∈ GG := GG_i 238 (rfl) (by decide +kernel)
theorem k_240 : (Cond.lays "WatchBeats$Text" "WatchBeats$Text" "clauses" "I") ∈ GG := GG_i 240 (rfl) (by decide +kernel)
theorem k_243 : (Cond.arrayClass .byte) ∈ GG := GG_i 243 (rfl) (by decide +kernel)
theorem k_244 : (Cond.classLink RX8 44 RX4) ∈ GG := GG_i 244 (rfl) (by decide +kernel)
theorem k_246 : (Cond.instantiable RX4 3) ∈ GG := GG_i 246 (rfl) (by decide +kernel)
theorem k_248 : (Cond.instanceMethod yX4_init) ∈ GG := GG_i 248 (rfl) (by decide +kernel)
theorem k_249 : (Cond.code yX4_init cX4_init 1 none) ∈ GG := GG_i 249 (rfl) (by decide +kernel)
theorem k_250 : (Cond.methodLink RX4 3 objectInit) ∈ GG := GG_i 250 (rfl) (by decide +kernel)
theorem k_251 : (Cond.fieldLink RX4 9 "WatchBeats$Tape" "sort" "I") ∈ GG := GG_i 251 (rfl) (by decide +kernel)
theorem k_252 : (Cond.fieldLink RX8 217 "WatchBeats$Tape" "sort" "I") ∈ GG := GG_i 252 (rfl) (by decide +kernel)
theorem k_253 : (Cond.fieldLink RX4 19 "WatchBeats$Tape" "size" "I") ∈ GG := GG_i 253 (rfl) (by decide +kernel)
theorem k_254 : (Cond.fieldLink RX8 304 "WatchBeats$Tape" "size" "I") ∈ GG := GG_i 254 (rfl) (by decide +kernel)
theorem k_255 : (Cond.fieldLink RX4 15 "WatchBeats$Tape" "items" "[J") ∈ GG := GG_i 255 (rfl) (by decide +kernel)
theorem k_256 : (Cond.fieldLink RX8 238 "WatchBeats$Tape" "items" "[J") ∈ GG := GG_i 256 (rfl) (by decide +kernel)
theorem k_257 : (Cond.lays "WatchBeats$Tape" "WatchBeats$Tape" "sort" "I") ∈ GG := GG_i 257 (rfl) (by decide +kernel)
theorem k_259 : (Cond.lays "WatchBeats$Tape" "WatchBeats$Tape" "size" "I") ∈ GG := GG_i 259 (rfl) (by decide +kernel)
theorem k_261 : (Cond.laysFinal "WatchBeats$Tape" "WatchBeats$Tape" "items" "[J") ∈ GG := GG_i 261 (rfl) (by decide +kernel)
theorem k_264 : (Cond.fieldLink RX8 12 "WatchBeats" "now" "LWatchBeats$Whole;") ∈ GG := GG_i 264 (rfl) (by decide +kernel)
theorem k_265 : (Cond.fieldLink RX8 18 "WatchBeats" "kept" "LWatchBeats$Whole;") ∈ GG := GG_i 265 (rfl) (by decide +kernel)
theorem k_266 : (Cond.fieldLink RX8 228 "WatchBeats" "isKept" "Z") ∈ GG := GG_i 266 (rfl) (by decide +kernel)
theorem k_267 : (Cond.fieldLink RX8 26 "WatchBeats" "thought" "LWatchBeats$Balance;") ∈ GG := GG_i 267 (rfl) (by decide +kernel)
theorem k_268 : (Cond.fieldLink RX8 33 "WatchBeats" "heardAhead" "LWatchBeats$Heard;") ∈ GG := GG_i 268 (rfl) (by decide +kernel)
theorem k_269 : (Cond.fieldLink RX8 40 "WatchBeats" "text" "LWatchBeats$Text;") ∈ GG := GG_i 269 (rfl) (by decide +kernel)
theorem k_270 : (Cond.fieldLink RX8 46 "WatchBeats" "tapes" "[LWatchBeats$Tape;") ∈ GG := GG_i 270 (rfl) (by decide +kernel)
theorem k_271 : (Cond.laysFinal "WatchBeats" "WatchBeats" "now" "LWatchBeats$Whole;") ∈ GG := GG_i 271 (rfl) (by decide +kernel)
theorem k_273 : (Cond.laysFinal "WatchBeats" "WatchBeats" "kept" "LWatchBeats$Whole;") ∈ GG := GG_i 273 (rfl) (by decide +kernel)
theorem k_275 : (Cond.lays "WatchBeats" "WatchBeats" "isKept" "Z") ∈ GG := GG_i 275 (rfl) (by decide +kernel)
theorem k_277 : (Cond.laysFinal "WatchBeats" "WatchBeats" "thought" "LWatchBeats$Balance;") ∈ GG := GG_i 277 (rfl) (by decide +kernel)
theorem k_279 : (Cond.laysFinal "WatchBeats" "WatchBeats" "heardAhead" "LWatchBeats$Heard;") ∈ GG := GG_i 279 (rfl) (by decide +kernel)
theorem k_281 : (Cond.laysFinal "WatchBeats" "WatchBeats" "text" "LWatchBeats$Text;") ∈ GG := GG_i 281 (rfl) (by decide +kernel)
theorem k_283 : (Cond.laysFinal "WatchBeats" "WatchBeats" "tapes" "[LWatchBeats$Tape;") ∈ GG := GG_i 283 (rfl) (by decide +kernel)
theorem k_286 : (Cond.methodLink RL 13 yX8_set) ∈ GG := GG_i 286 (rfl) (by decide +kernel)
theorem k_287 : (Cond.instanceMethod yX8_set) ∈ GG := GG_i 287 (rfl) (by decide +kernel)
theorem k_288 : (Cond.selects RX8 yX8_set yX8_set) ∈ GG := GG_i 288 (rfl) (by decide +kernel)
theorem k_289 : (Cond.code yX8_set cX8_set 4 (some .int)) ∈ GG := GG_i 289 (rfl) (by decide +kernel)
theorem k_290 : (Cond.methodLink RX8 51 yX8_isSettable) ∈ GG := GG_i 290 (rfl) (by decide +kernel)
theorem k_291 : (Cond.static yX8_isSettable) ∈ GG := GG_i 291 (rfl) (by decide +kernel)
theorem k_292 : (Cond.code yX8_isSettable cX8_isSettable 2 (some .boolean)) ∈ GG := GG_i 292 (rfl) (by decide +kernel)
theorem k_293 : (Cond.fieldLink RX8 254 "WatchBeats" "LEAST" "[I") ∈ GG := GG_i 293 (rfl) (by decide +kernel)
theorem k_295 : (Cond.fieldLink RX8 257 "WatchBeats" "MOST" "[I") ∈ GG := GG_i 295 (rfl) (by decide +kernel)
theorem k_297 : (Cond.methodLink RX8 80 yX8_isBetween) ∈ GG := GG_i 297 (rfl) (by decide +kernel)
theorem k_298 : (Cond.static yX8_isBetween) ∈ GG := GG_i 298 (rfl) (by decide +kernel)
theorem k_299 : (Cond.code yX8_isBetween cX8_isBetween 3 (some .boolean)) ∈ GG := GG_i 299 (rfl) (by decide +kernel)
theorem k_300 : (Cond.methodLink RX8 58 yX0_valueOf) ∈ GG := GG_i 300 (rfl) (by decide +kernel)
theorem k_301 : (Cond.instanceMethod yX0_valueOf) ∈ GG := GG_i 301 (rfl) (by decide +kernel)
theorem k_302 : (Cond.selects RX0 yX0_valueOf yX0_valueOf) ∈ GG := GG_i 302 (rfl) (by decide +kernel)
theorem k_303 : (Cond.code yX0_valueOf cX0_valueOf 2 (some .int)) ∈ GG := GG_i 303 (rfl) (by decide +kernel)
theorem k_304 : (Cond.methodLink RX8 62 yX0_putByHand) ∈ GG := GG_i 304 (rfl) (by decide +kernel)
theorem k_305 : (Cond.instanceMethod yX0_putByHand) ∈ GG := GG_i 305 (rfl) (by decide +kernel)
theorem k_306 : (Cond.selects RX0 yX0_putByHand yX0_putByHand) ∈ GG := GG_i 306 (rfl) (by decide +kernel)
theorem k_307 : (Cond.code yX0_putByHand cX0_putByHand 3 none) ∈ GG := GG_i 307 (rfl) (by decide +kernel)
theorem k_308 : (Cond.methodLink RX0 71 yX0_put) ∈ GG := GG_i 308 (rfl) (by decide +kernel)
theorem k_309 : (Cond.instanceMethod yX0_put) ∈ GG := GG_i 309 (rfl) (by decide +kernel)
theorem k_310 : (Cond.selects RX0 yX0_put yX0_put) ∈ GG := GG_i 310 (rfl) (by decide +kernel)
theorem k_311 : (Cond.code yX0_put cX0_put 3 none) ∈ GG := GG_i 311 (rfl) (by decide +kernel)
theorem k_312 : (Cond.methodLink RX0 75 yX0_settle) ∈ GG := GG_i 312 (rfl) (by decide +kernel)
theorem k_314 : (Cond.instanceMethod yX0_settle) ∈ GG := GG_i 314 (rfl) (by decide +kernel)
theorem k_315 : (Cond.code yX0_settle cX0_settle 4 none) ∈ GG := GG_i 315 (rfl) (by decide +kernel)
theorem k_316 : (Cond.methodLink RX0 81 yX0_energyNow) ∈ GG := GG_i 316 (rfl) (by decide +kernel)
theorem k_317 : (Cond.instanceMethod yX0_energyNow) ∈ GG := GG_i 317 (rfl) (by decide +kernel)
theorem k_318 : (Cond.selects RX0 yX0_energyNow yX0_energyNow) ∈ GG := GG_i 318 (rfl) (by decide +kernel)
theorem k_319 : (Cond.code yX0_energyNow cX0_energyNow 1 (some .long)) ∈ GG := GG_i 319 (rfl) (by decide +kernel)
theorem k_320 : (Cond.constantLong RX0 79 (32)) ∈ GG := GG_i 320 (rfl) (by decide +kernel)
theorem k_321 : (Cond.methodLink RL 18 yX8_told) ∈ GG := GG_i 321 (rfl) (by decide +kernel)
theorem k_322 : (Cond.instanceMethod yX8_told) ∈ GG := GG_i 322 (rfl) (by decide +kernel)
theorem k_323 : (Cond.selects RX8 yX8_told yX8_told) ∈ GG := GG_i 323 (rfl) (by decide +kernel)
theorem k_324 : (Cond.code yX8_told cX8_told 2 (some .int)) ∈ GG := GG_i 324 (rfl) (by decide +kernel)
theorem k_325 : (Cond.methodLink RL 23 yX8_push) ∈ GG := GG_i 325 (rfl) (by decide +kernel)
theorem k_326 : (Cond.instanceMethod yX8_push) ∈ GG := GG_i 326 (rfl) (by decide +kernel)
theorem k_327 : (Cond.selects RX8 yX8_push yX8_push) ∈ GG := GG_i 327 (rfl) (by decide +kernel)
theorem k_328 : (Cond.code yX8_push cX8_push 4 (some .int)) ∈ GG := GG_i 328 (rfl) (by decide +kernel)
theorem k_329 : (Cond.constant RX8 79 (99999)) ∈ GG := GG_i 329 (rfl) (by decide +kernel)
theorem k_330 : (Cond.methodLink RX8 84 yX8_isPushable) ∈ GG := GG_i 330 (rfl) (by decide +kernel)
theorem k_331 : (Cond.static yX8_isPushable) ∈ GG := GG_i 331 (rfl) (by decide +kernel)
theorem k_332 : (Cond.code yX8_isPushable cX8_isPushable 2 (some .boolean)) ∈ GG := GG_i 332 (rfl) (by decide +kernel)
theorem k_333 : (Cond.fieldLink RX8 260 "WatchBeats" "PUSH_LEAST" "[I") ∈ GG := GG_i 333 (rfl) (by decide +kernel)
theorem k_335 : (Cond.fieldLink RX8 263 "WatchBeats" "PUSH_MOST" "[I") ∈ GG := GG_i 335 (rfl) (by decide +kernel)
theorem k_337 : (Cond.methodLink RX8 96 yX2_add) ∈ GG := GG_i 337 (rfl) (by decide +kernel)
theorem k_338 : (Cond.instanceMethod yX2_add) ∈ GG := GG_i 338 (rfl) (by decide +kernel)
theorem k_339 : (Cond.selects RX2 yX2_add yX2_add) ∈ GG := GG_i 339 (rfl) (by decide +kernel)
theorem k_340 : (Cond.code yX2_add cX2_add 5 none) ∈ GG := GG_i 340 (rfl) (by decide +kernel)
theorem k_341 : (Cond.methodLink RL 28 yX8_pushOf) ∈ GG := GG_i 341 (rfl) (by decide +kernel)
theorem k_342 : (Cond.instanceMethod yX8_pushOf) ∈ GG := GG_i 342 (rfl) (by decide +kernel)
theorem k_343 : (Cond.selects RX8 yX8_pushOf yX8_pushOf) ∈ GG := GG_i 343 (rfl) (by decide +kernel)
theorem k_344 : (Cond.code yX8_pushOf cX8_pushOf 4 (some .int)) ∈ GG := GG_i 344 (rfl) (by decide +kernel)
theorem k_345 : (Cond.methodLink RL 32 yX8_go) ∈ GG := GG_i 345 (rfl) (by decide +kernel)
theorem k_346 : (Cond.instanceMethod yX8_go) ∈ GG := GG_i 346 (rfl) (by decide +kernel)
theorem k_347 : (Cond.selects RX8 yX8_go yX8_go) ∈ GG := GG_i 347 (rfl) (by decide +kernel)
theorem k_348 : (Cond.code yX8_go cX8_go 4 (some .int)) ∈ GG := GG_i 348 (rfl) (by decide +kernel)
theorem k_349 : (Cond.methodLink RX8 110 yX0_tick) ∈ GG := GG_i 349 (rfl) (by decide +kernel)
theorem k_350 : (Cond.instanceMethod yX0_tick) ∈ GG := GG_i 350 (rfl) (by decide +kernel)
theorem k_351 : (Cond.selects RX0 yX0_tick yX0_tick) ∈ GG := GG_i 351 (rfl) (by decide +kernel)
theorem k_352 : (Cond.code yX0_tick cX0_tick 3 (some .boolean)) ∈ GG := GG_i 352 (rfl) (by decide +kernel)
theorem k_353 : (Cond.methodLink RX0 85 yX0_bePushed) ∈ GG := GG_i 353 (rfl) (by decide +kernel)
theorem k_355 : (Cond.instanceMethod yX0_bePushed) ∈ GG := GG_i 355 (rfl) (by decide +kernel)
theorem k_356 : (Cond.code yX0_bePushed cX0_bePushed 2 none) ∈ GG := GG_i 356 (rfl) (by decide +kernel)
theorem k_357 : (Cond.methodLink RX0 111 yX0_doPush) ∈ GG := GG_i 357 (rfl) (by decide +kernel)
theorem k_359 : (Cond.instanceMethod yX0_doPush) ∈ GG := GG_i 359 (rfl) (by decide +kernel)
theorem k_360 : (Cond.code yX0_doPush cX0_doPush 3 none) ∈ GG := GG_i 360 (rfl) (by decide +kernel)
theorem k_361 : (Cond.methodLink RX0 117 Lib.Math.min.name) ∈ GG := GG_i 361 (rfl) (by decide +kernel)
theorem k_362 : (Cond.static Lib.Math.min.name) ∈ GG := GG_i 362 (rfl) (by decide +kernel)
theorem k_363 : (Cond.code Lib.Math.min.name Lib.Math.min.code 2 (some .int)) ∈ GG := GG_i 363 (rfl) (by decide +kernel)
theorem k_364 : (Cond.methodLink RX0 123 Lib.Math.max.name) ∈ GG := GG_i 364 (rfl) (by decide +kernel)
theorem k_365 : (Cond.static Lib.Math.max.name) ∈ GG := GG_i 365 (rfl) (by decide +kernel)
theorem k_366 : (Cond.code Lib.Math.max.name Lib.Math.max.code 2 (some .int)) ∈ GG := GG_i 366 (rfl) (by decide +kernel)
theorem k_367 : (Cond.methodLink RX0 114 yX2_removeFirst) ∈ GG := GG_i 367 (rfl) (by decide +kernel)
theorem k_368 : (Cond.instanceMethod yX2_removeFirst) ∈ GG := GG_i 368 (rfl) (by decide +kernel)
theorem k_369 : (Cond.selects RX2 yX2_removeFirst yX2_removeFirst) ∈ GG := GG_i 369 (rfl) (by decide +kernel)
theorem k_370 : (Cond.code yX2_removeFirst cX2_removeFirst 3 none) ∈ GG := GG_i 370 (rfl) (by decide +kernel)
theorem k_371 : (Cond.methodLink RX0 88 yX0_beDragged) ∈ GG := GG_i 371 (rfl) (by decide +kernel)
theorem k_373 : (Cond.instanceMethod yX0_beDragged) ∈ GG := GG_i 373 (rfl) (by decide +kernel)
theorem k_374 : (Cond.code yX0_beDragged cX0_beDragged 1 none) ∈ GG := GG_i 374 (rfl) (by decide +kernel)
theorem k_375 : (Cond.methodLink RX0 91 yX0_swing) ∈ GG := GG_i 375 (rfl) (by decide +kernel)
theorem k_377 : (Cond.instanceMethod yX0_swing) ∈ GG := GG_i 377 (rfl) (by decide +kernel)
theorem k_378 : (Cond.code yX0_swing cX0_swing 1 none) ∈ GG := GG_i 378 (rfl) (by decide +kernel)
theorem k_379 : (Cond.methodLink RX0 94 yX0_isLetGo) ∈ GG := GG_i 379 (rfl) (by decide +kernel)
set_option maxRecDepth 100000 in
theorem k_381 : (Cond.instanceMethod yX0_isLetGo) ∈ GG := GG_i 381 (rfl) (by decide +kernel)
set_option maxRecDepth 100000 in
theorem k_382 : (Cond.code yX0_isLetGo cX0_isLetGo 2 (some .boolean)) ∈ GG := GG_i 382 (rfl) (by decide +kernel)
set_option maxRecDepth 100000 in
theorem k_383 : (Cond.methodLink RX0 98 yX0_beKicked) ∈ GG := GG_i 383 (rfl) (by decide +kernel)
set_option maxRecDepth 100000 in
theorem k_385 : (Cond.instanceMethod yX0_beKicked) ∈ GG := GG_i 385 (rfl) (by decide +kernel)
set_option maxRecDepth 100000 in
theorem k_386 : (Cond.code yX0_beKicked cX0_beKicked 2 none) ∈ GG := GG_i 386 (rfl) (by decide +kernel)
set_option maxRecDepth 100000 in
theorem k_387 : (Cond.methodLink RL 36 yX8_wheel) ∈ GG := GG_i 387 (rfl) (by decide +kernel)
set_option maxRecDepth 100000 in
theorem k_388 : (Cond.instanceMethod yX8_wheel) ∈ GG := GG_i 388 (rfl) (by decide +kernel)
set_option maxRecDepth 100000 in
theorem k_389 : (Cond.selects RX8 yX8_wheel yX8_wheel) ∈ GG := GG_i 389 (rfl) (by decide +kernel)
set_option maxRecDepth 100000 in
theorem k_390 : (Cond.code yX8_wheel cX8_wheel 2 (some .int)) ∈ GG := GG_i 390 (rfl) (by decide +kernel)
set_option maxRecDepth 100000 in
theorem k_391 : (Cond.methodLink RX8 114 yX6_add) ∈ GG := GG_i 391 (rfl) (by decide +kernel)
set_option maxRecDepth 100000 in
theorem k_392 : (Cond.instanceMethod yX6_add) ∈ GG := GG_i 392 (rfl) (by decide +kernel)
set_option maxRecDepth 100000 in
theorem k_393 : (Cond.selects RX6 yX6_add yX6_add) ∈ GG := GG_i 393 (rfl) (by decide +kernel)
set_option maxRecDepth 100000 in
theorem k_394 : (Cond.code yX6_add cX6_add 2 none) ∈ GG := GG_i 394 (rfl) (by decide +kernel)
set_option maxRecDepth 100000 in
theorem k_395 : (Cond.methodLink RL 40 yX8_turns) ∈ GG := GG_i 395 (rfl) (by decide +kernel)
set_option maxRecDepth 100000 in
theorem k_396 : (Cond.instanceMethod yX8_turns) ∈ GG := GG_i 396 (rfl) (by decide +kernel)
set_option maxRecDepth 100000 in
theorem k_397 : (Cond.selects RX8 yX8_turns yX8_turns) ∈ GG := GG_i 397 (rfl) (by decide +kernel)
set_option maxRecDepth 100000 in
theorem k_398 : (Cond.code yX8_turns cX8_turns 3 (some .long)) ∈ GG := GG_i 398 (rfl) (by decide +kernel)
set_option maxRecDepth 100000 in
theorem k_399 : (Cond.constantLong RX8 117 (-9223372036854775808)) ∈ GG := GG_i 399 (rfl) (by decide +kernel)
set_option maxRecDepth 100000 in
theorem k_400 : (Cond.methodLink RX8 122 yX6_beatsOfOneTurn) ∈ GG := GG_i 400 (rfl) (by decide +kernel)
set_option maxRecDepth 100000 in
theorem k_401 : (Cond.instanceMethod yX6_beatsOfOneTurn) ∈ GG := GG_i 401 (rfl) (by decide +kernel)
set_option maxRecDepth 100000 in
theorem k_402 : (Cond.selects RX6 yX6_beatsOfOneTurn yX6_beatsOfOneTurn) ∈ GG := GG_i 402 (rfl) (by decide +kernel)
set_option maxRecDepth 100000 in
theorem k_403 : (Cond.code yX6_beatsOfOneTurn cX6_beatsOfOneTurn 5 (some .long)) ∈ GG := GG_i 403 (rfl) (by decide +kernel)
set_option maxRecDepth 100000 in
theorem k_404 : (Cond.constantLong RX6 19 (2)) ∈ GG := GG_i 404 (rfl) (by decide +kernel)
set_option maxRecDepth 100000 in
theorem k_405 : (Cond.methodLink RX8 126 yX8_partOfFraction) ∈ GG := GG_i 405 (rfl) (by decide +kernel)
set_option maxRecDepth 100000 in
theorem k_406 : (Cond.static yX8_partOfFraction) ∈ GG := GG_i 406 (rfl) (by decide +kernel)
set_option maxRecDepth 100000 in
theorem k_407 : (Cond.code yX8_partOfFraction cX8_partOfFraction 7 (some .long)) ∈ GG := GG_i 407 (rfl) (by decide +kernel)
set_option maxRecDepth 100000 in
theorem k_408 : (Cond.methodLink RX8 266 yX8_commonDivisor) ∈ GG := GG_i 408 (rfl) (by decide +kernel)
set_option maxRecDepth 100000 in
theorem k_409 : (Cond.static yX8_commonDivisor) ∈ GG := GG_i 409 (rfl) (by decide +kernel)
set_option maxRecDepth 100000 in
theorem k_410 : (Cond.code yX8_commonDivisor cX8_commonDivisor 7 (some .long)) ∈ GG := GG_i 410 (rfl) (by decide +kernel)
set_option maxRecDepth 100000 in
theorem k_411 : (Cond.methodLink RL 45 yX8_energy) ∈ GG := GG_i 411 (rfl) (by decide +kernel)
set_option maxRecDepth 100000 in
theorem k_412 : (Cond.instanceMethod yX8_energy) ∈ GG := GG_i 412 (rfl) (by decide +kernel)
set_option maxRecDepth 100000 in
theorem k_413 : (Cond.selects RX8 yX8_energy yX8_energy) ∈ GG := GG_i 413 (rfl) (by decide +kernel)
set_option maxRecDepth 100000 in
theorem k_414 : (Cond.code yX8_energy cX8_energy 2 (some .long)) ∈ GG := GG_i 414 (rfl) (by decide +kernel)
set_option maxRecDepth 100000 in
theorem k_415 : (Cond.methodLink RX8 130 yX0_energyNow) ∈ GG := GG_i 415 (rfl) (by decide +kernel)
set_option maxRecDepth 100000 in
theorem k_416 : (Cond.methodLink RL 50 yX8_feed) ∈ GG := GG_i 416 (rfl) (by decide +kernel)
set_option maxRecDepth 100000 in
theorem k_417 : (Cond.instanceMethod yX8_feed) ∈ GG := GG_i 417 (rfl) (by decide +kernel)
set_option maxRecDepth 100000 in
theorem k_418 : (Cond.selects RX8 yX8_feed yX8_feed) ∈ GG := GG_i 418 (rfl) (by decide +kernel)
set_option maxRecDepth 100000 in
theorem k_419 : (Cond.code yX8_feed cX8_feed 2 (some .int)) ∈ GG := GG_i 419 (rfl) (by decide +kernel)
set_option maxRecDepth 100000 in
theorem k_420 : (Cond.methodLink RX8 141 yX5_add) ∈ GG := GG_i 420 (rfl) (by decide +kernel)
set_option maxRecDepth 100000 in
theorem k_421 : (Cond.instanceMethod yX5_add) ∈ GG := GG_i 421 (rfl) (by decide +kernel)
set_option maxRecDepth 100000 in
theorem k_422 : (Cond.selects RX5 yX5_add yX5_add) ∈ GG := GG_i 422 (rfl) (by decide +kernel)
set_option maxRecDepth 100000 in
theorem k_423 : (Cond.code yX5_add cX5_add 2 none) ∈ GG := GG_i 423 (rfl) (by decide +kernel)
set_option maxRecDepth 100000 in
theorem k_424 : (Cond.methodLink RL 54 yX8_read) ∈ GG := GG_i 424 (rfl) (by decide +kernel)
set_option maxRecDepth 100000 in
theorem k_425 : (Cond.instanceMethod yX8_read) ∈ GG := GG_i 425 (rfl) (by decide +kernel)
set_option maxRecDepth 100000 in
theorem k_426 : (Cond.selects RX8 yX8_read yX8_read) ∈ GG := GG_i 426 (rfl) (by decide +kernel)
set_option maxRecDepth 100000 in
theorem k_427 : (Cond.code yX8_read cX8_read 4 (some .int)) ∈ GG := GG_i 427 (rfl) (by decide +kernel)
set_option maxRecDepth 100000 in
theorem k_428 : (Cond.methodLink RX8 142 yX5_parse) ∈ GG := GG_i 428 (rfl) (by decide +kernel)
set_option maxRecDepth 100000 in
theorem k_429 : (Cond.instanceMethod yX5_parse) ∈ GG := GG_i 429 (rfl) (by decide +kernel)
set_option maxRecDepth 100000 in
theorem k_430 : (Cond.selects RX5 yX5_parse yX5_parse) ∈ GG := GG_i 430 (rfl) (by decide +kernel)
set_option maxRecDepth 100000 in
theorem k_431 : (Cond.code yX5_parse cX5_parse 6 (some .int)) ∈ GG := GG_i 431 (rfl) (by decide +kernel)
set_option maxRecDepth 100000 in
theorem k_432 : (Cond.methodLink RX5 29 yX5_letterAt) ∈ GG := GG_i 432 (rfl) (by decide +kernel)
set_option maxRecDepth 100000 in
theorem k_434 : (Cond.instanceMethod yX5_letterAt) ∈ GG := GG_i 434 (rfl) (by decide +kernel)
set_option maxRecDepth 100000 in
theorem k_435 : (Cond.code yX5_letterAt cX5_letterAt 4 (some .int)) ∈ GG := GG_i 435 (rfl) (by decide +kernel)
set_option maxRecDepth 100000 in
theorem k_436 : (Cond.methodLink RX5 33 yX5_signAt) ∈ GG := GG_i 436 (rfl) (by decide +kernel)
set_option maxRecDepth 100000 in
theorem k_438 : (Cond.instanceMethod yX5_signAt) ∈ GG := GG_i 438 (rfl) (by decide +kernel)
set_option maxRecDepth 100000 in
theorem k_439 : (Cond.code yX5_signAt cX5_signAt 2 (some .int)) ∈ GG := GG_i 439 (rfl) (by decide +kernel)
set_option maxRecDepth 100000 in
theorem k_442 : (Cond.methodLink RX5 36 yX5_digitsEnd) ∈ GG := GG_i 442 (rfl) (by decide +kernel)
set_option maxRecDepth 100000 in
theorem k_444 : (Cond.instanceMethod yX5_digitsEnd) ∈ GG := GG_i 444 (rfl) (by decide +kernel)
set_option maxRecDepth 100000 in
theorem k_445 : (Cond.code yX5_digitsEnd cX5_digitsEnd 3 (some .int)) ∈ GG := GG_i 445 (rfl) (by decide +kernel)
set_option maxRecDepth 100000 in
theorem k_447 : (Cond.methodLink RX5 39 yX5_number) ∈ GG := GG_i 447 (rfl) (by decide +kernel)
set_option maxRecDepth 100000 in
theorem k_449 : (Cond.instanceMethod yX5_number) ∈ GG := GG_i 449 (rfl) (by decide +kernel)
set_option maxRecDepth 100000 in
theorem k_450 : (Cond.code yX5_number cX5_number 5 (some .int)) ∈ GG := GG_i 450 (rfl) (by decide +kernel)
set_option maxRecDepth 100000 in
theorem k_451 : (Cond.methodLink RX8 153 yX8_isClauseDone) ∈ GG := GG_i 451 (rfl) (by decide +kernel)
set_option maxRecDepth 100000 in
theorem k_453 : (Cond.instanceMethod yX8_isClauseDone) ∈ GG := GG_i 453 (rfl) (by decide +kernel)
set_option maxRecDepth 100000 in
theorem k_454 : (Cond.code yX8_isClauseDone cX8_isClauseDone 3 (some .boolean)) ∈ GG := GG_i 454 (rfl) (by decide +kernel)
set_option maxRecDepth 100000 in
theorem k_455 : (Cond.methodLink RX8 270 yX8_wheel) ∈ GG := GG_i 455 (rfl) (by decide +kernel)
set_option maxRecDepth 100000 in
theorem k_456 : (Cond.methodLink RX8 273 yX8_go) ∈ GG := GG_i 456 (rfl) (by decide +kernel)
set_option maxRecDepth 100000 in
theorem k_457 : (Cond.methodLink RL 59 yX8_ahead) ∈ GG := GG_i 457 (rfl) (by decide +kernel)
set_option maxRecDepth 100000 in
theorem k_458 : (Cond.instanceMethod yX8_ahead) ∈ GG := GG_i 458 (rfl) (by decide +kernel)
set_option maxRecDepth 100000 in
theorem k_459 : (Cond.selects RX8 yX8_ahead yX8_ahead) ∈ GG := GG_i 459 (rfl) (by decide +kernel)
set_option maxRecDepth 100000 in
theorem k_460 : (Cond.code yX8_ahead cX8_ahead 3 (some .int)) ∈ GG := GG_i 460 (rfl) (by decide +kernel)
set_option maxRecDepth 100000 in
theorem k_461 : (Cond.fieldLink RX8 156 "WatchBeats" "TOLD_AHEAD" "[I") ∈ GG := GG_i 461 (rfl) (by decide +kernel)
set_option maxRecDepth 100000 in
theorem k_463 : (Cond.methodLink RX8 159 yX8_thinkAhead) ∈ GG := GG_i 463 (rfl) (by decide +kernel)
set_option maxRecDepth 100000 in
theorem k_465 : (Cond.instanceMethod yX8_thinkAhead) ∈ GG := GG_i 465 (rfl) (by decide +kernel)
set_option maxRecDepth 100000 in
theorem k_466 : (Cond.code yX8_thinkAhead cX8_thinkAhead 3 none) ∈ GG := GG_i 466 (rfl) (by decide +kernel)
set_option maxRecDepth 100000 in
theorem k_467 : (Cond.methodLink RX8 276 yX0_copy) ∈ GG := GG_i 467 (rfl) (by decide +kernel)
set_option maxRecDepth 100000 in
theorem k_468 : (Cond.instanceMethod yX0_copy) ∈ GG := GG_i 468 (rfl) (by decide +kernel)
set_option maxRecDepth 100000 in
theorem k_469 : (Cond.selects RX0 yX0_copy yX0_copy) ∈ GG := GG_i 469 (rfl) (by decide +kernel)
set_option maxRecDepth 100000 in
theorem k_470 : (Cond.code yX0_copy cX0_copy 3 none) ∈ GG := GG_i 470 (rfl) (by decide +kernel)
set_option maxRecDepth 100000 in
theorem k_471 : (Cond.methodLink RX0 64 yX2_copy) ∈ GG := GG_i 471 (rfl) (by decide +kernel)
set_option maxRecDepth 100000 in
theorem k_472 : (Cond.instanceMethod yX2_copy) ∈ GG := GG_i 472 (rfl) (by decide +kernel)
set_option maxRecDepth 100000 in
theorem k_473 : (Cond.selects RX2 yX2_copy yX2_copy) ∈ GG := GG_i 473 (rfl) (by decide +kernel)
set_option maxRecDepth 100000 in
theorem k_474 : (Cond.code yX2_copy cX2_copy 3 none) ∈ GG := GG_i 474 (rfl) (by decide +kernel)
set_option maxRecDepth 100000 in
theorem k_475 : (Cond.methodLink RL 63 yX8_energyAt) ∈ GG := GG_i 475 (rfl) (by decide +kernel)
set_option maxRecDepth 100000 in
theorem k_476 : (Cond.instanceMethod yX8_energyAt) ∈ GG := GG_i 476 (rfl) (by decide +kernel)
set_option maxRecDepth 100000 in
theorem k_477 : (Cond.selects RX8 yX8_energyAt yX8_energyAt) ∈ GG := GG_i 477 (rfl) (by decide +kernel)
set_option maxRecDepth 100000 in
theorem k_478 : (Cond.code yX8_energyAt cX8_energyAt 2 (some .long)) ∈ GG := GG_i 478 (rfl) (by decide +kernel)
set_option maxRecDepth 100000 in
theorem k_479 : (Cond.methodLink RL 67 yX8_heard) ∈ GG := GG_i 479 (rfl) (by decide +kernel)
set_option maxRecDepth 100000 in
theorem k_480 : (Cond.instanceMethod yX8_heard) ∈ GG := GG_i 480 (rfl) (by decide +kernel)
set_option maxRecDepth 100000 in
theorem k_481 : (Cond.selects RX8 yX8_heard yX8_heard) ∈ GG := GG_i 481 (rfl) (by decide +kernel)
set_option maxRecDepth 100000 in
theorem k_482 : (Cond.code yX8_heard cX8_heard 2 (some .int)) ∈ GG := GG_i 482 (rfl) (by decide +kernel)
set_option maxRecDepth 100000 in
theorem k_483 : (Cond.methodLink RX8 162 yX8_listenFromNow) ∈ GG := GG_i 483 (rfl) (by decide +kernel)
set_option maxRecDepth 100000 in
theorem k_485 : (Cond.instanceMethod yX8_listenFromNow) ∈ GG := GG_i 485 (rfl) (by decide +kernel)
set_option maxRecDepth 100000 in
theorem k_486 : (Cond.code yX8_listenFromNow cX8_listenFromNow 1 none) ∈ GG := GG_i 486 (rfl) (by decide +kernel)
set_option maxRecDepth 100000 in
theorem k_487 : (Cond.methodLink RX8 279 yX1_listen) ∈ GG := GG_i 487 (rfl) (by decide +kernel)
set_option maxRecDepth 100000 in
theorem k_488 : (Cond.instanceMethod yX1_listen) ∈ GG := GG_i 488 (rfl) (by decide +kernel)
set_option maxRecDepth 100000 in
theorem k_489 : (Cond.selects RX1 yX1_listen yX1_listen) ∈ GG := GG_i 489 (rfl) (by decide +kernel)
set_option maxRecDepth 100000 in
theorem k_490 : (Cond.code yX1_listen cX1_listen 3 none) ∈ GG := GG_i 490 (rfl) (by decide +kernel)
set_option maxRecDepth 100000 in
theorem k_491 : (Cond.methodLink RX1 19 yX0_tick) ∈ GG := GG_i 491 (rfl) (by decide +kernel)
set_option maxRecDepth 100000 in
theorem k_492 : (Cond.methodLink RX8 165 yX1_beatAt) ∈ GG := GG_i 492 (rfl) (by decide +kernel)
set_option maxRecDepth 100000 in
theorem k_493 : (Cond.instanceMethod yX1_beatAt) ∈ GG := GG_i 493 (rfl) (by decide +kernel)
set_option maxRecDepth 100000 in
theorem k_494 : (Cond.selects RX1 yX1_beatAt yX1_beatAt) ∈ GG := GG_i 494 (rfl) (by decide +kernel)
set_option maxRecDepth 100000 in
theorem k_495 : (Cond.code yX1_beatAt cX1_beatAt 2 (some .int)) ∈ GG := GG_i 495 (rfl) (by decide +kernel)
set_option maxRecDepth 100000 in
theorem k_496 : (Cond.methodLink RL 71 yX8_beat) ∈ GG := GG_i 496 (rfl) (by decide +kernel)
set_option maxRecDepth 100000 in
theorem k_497 : (Cond.instanceMethod yX8_beat) ∈ GG := GG_i 497 (rfl) (by decide +kernel)
set_option maxRecDepth 100000 in
theorem k_498 : (Cond.selects RX8 yX8_beat yX8_beat) ∈ GG := GG_i 498 (rfl) (by decide +kernel)
set_option maxRecDepth 100000 in
theorem k_499 : (Cond.code yX8_beat cX8_beat 2 (some .int)) ∈ GG := GG_i 499 (rfl) (by decide +kernel)
set_option maxRecDepth 100000 in
theorem k_500 : (Cond.methodLink RX8 168 yX8_evenest) ∈ GG := GG_i 500 (rfl) (by decide +kernel)
set_option maxRecDepth 100000 in
theorem k_502 : (Cond.instanceMethod yX8_evenest) ∈ GG := GG_i 502 (rfl) (by decide +kernel)
set_option maxRecDepth 100000 in
theorem k_503 : (Cond.code yX8_evenest cX8_evenest 9 (some .int)) ∈ GG := GG_i 503 (rfl) (by decide +kernel)
set_option maxRecDepth 100000 in
theorem k_504 : (Cond.methodLink RX8 199 yX8_listenWith) ∈ GG := GG_i 504 (rfl) (by decide +kernel)
set_option maxRecDepth 100000 in
theorem k_506 : (Cond.instanceMethod yX8_listenWith) ∈ GG := GG_i 506 (rfl) (by decide +kernel)
set_option maxRecDepth 100000 in
theorem k_507 : (Cond.code yX8_listenWith cX8_listenWith 3 none) ∈ GG := GG_i 507 (rfl) (by decide +kernel)
set_option maxRecDepth 100000 in
theorem k_508 : (Cond.methodLink RX8 282 yX0_put) ∈ GG := GG_i 508 (rfl) (by decide +kernel)
set_option maxRecDepth 100000 in
theorem k_509 : (Cond.methodLink RX8 175 yX1_uneven) ∈ GG := GG_i 509 (rfl) (by decide +kernel)
set_option maxRecDepth 100000 in
theorem k_510 : (Cond.instanceMethod yX1_uneven) ∈ GG := GG_i 510 (rfl) (by decide +kernel)
set_option maxRecDepth 100000 in
theorem k_511 : (Cond.selects RX1 yX1_uneven yX1_uneven) ∈ GG := GG_i 511 (rfl) (by decide +kernel)
set_option maxRecDepth 100000 in
theorem k_512 : (Cond.code yX1_uneven cX1_uneven 4 (some .int)) ∈ GG := GG_i 512 (rfl) (by decide +kernel)
set_option maxRecDepth 100000 in
theorem k_513 : (Cond.methodLink RX1 31 yX1_gaps) ∈ GG := GG_i 513 (rfl) (by decide +kernel)
set_option maxRecDepth 100000 in
theorem k_514 : (Cond.instanceMethod yX1_gaps) ∈ GG := GG_i 514 (rfl) (by decide +kernel)
set_option maxRecDepth 100000 in
theorem k_515 : (Cond.selects RX1 yX1_gaps yX1_gaps) ∈ GG := GG_i 515 (rfl) (by decide +kernel)
set_option maxRecDepth 100000 in
theorem k_516 : (Cond.code yX1_gaps cX1_gaps 1 (some .int)) ∈ GG := GG_i 516 (rfl) (by decide +kernel)
set_option maxRecDepth 100000 in
theorem k_517 : (Cond.methodLink RX1 25 Lib.Math.max.name) ∈ GG := GG_i 517 (rfl) (by decide +kernel)
set_option maxRecDepth 100000 in
theorem k_518 : (Cond.methodLink RX1 39 yX1_gapAt) ∈ GG := GG_i 518 (rfl) (by decide +kernel)
set_option maxRecDepth 100000 in
theorem k_519 : (Cond.instanceMethod yX1_gapAt) ∈ GG := GG_i 519 (rfl) (by decide +kernel)
set_option maxRecDepth 100000 in
theorem k_520 : (Cond.selects RX1 yX1_gapAt yX1_gapAt) ∈ GG := GG_i 520 (rfl) (by decide +kernel)
set_option maxRecDepth 100000 in
theorem k_521 : (Cond.code yX1_gapAt cX1_gapAt 2 (some .int)) ∈ GG := GG_i 521 (rfl) (by decide +kernel)
set_option maxRecDepth 100000 in
theorem k_522 : (Cond.methodLink RX1 35 yX1_beatAt) ∈ GG := GG_i 522 (rfl) (by decide +kernel)
set_option maxRecDepth 100000 in
theorem k_523 : (Cond.methodLink RX8 288 Lib.Math.abs.name) ∈ GG := GG_i 523 (rfl) (by decide +kernel)
set_option maxRecDepth 100000 in
theorem k_524 : (Cond.static Lib.Math.abs.name) ∈ GG := GG_i 524 (rfl) (by decide +kernel)
set_option maxRecDepth 100000 in
theorem k_525 : (Cond.code Lib.Math.abs.name Lib.Math.abs.code 1 (some .int)) ∈ GG := GG_i 525 (rfl) (by decide +kernel)
set_option maxRecDepth 100000 in
theorem k_526 : (Cond.constantLong RX8 293 (1000)) ∈ GG := GG_i 526 (rfl) (by decide +kernel)
set_option maxRecDepth 100000 in
theorem k_527 : (Cond.methodLink RX8 172 yX1_gaps) ∈ GG := GG_i 527 (rfl) (by decide +kernel)
set_option maxRecDepth 100000 in
theorem k_528 : (Cond.methodLink RL 75 yX8_gap) ∈ GG := GG_i 528 (rfl) (by decide +kernel)
set_option maxRecDepth 100000 in
theorem k_529 : (Cond.instanceMethod yX8_gap) ∈ GG := GG_i 529 (rfl) (by decide +kernel)
set_option maxRecDepth 100000 in
theorem k_530 : (Cond.selects RX8 yX8_gap yX8_gap) ∈ GG := GG_i 530 (rfl) (by decide +kernel)
set_option maxRecDepth 100000 in
theorem k_531 : (Cond.code yX8_gap cX8_gap 2 (some .int)) ∈ GG := GG_i 531 (rfl) (by decide +kernel)
set_option maxRecDepth 100000 in
theorem k_532 : (Cond.methodLink RX8 178 yX1_gapAt) ∈ GG := GG_i 532 (rfl) (by decide +kernel)
set_option maxRecDepth 100000 in
theorem k_533 : (Cond.methodLink RL 79 yX8_longest) ∈ GG := GG_i 533 (rfl) (by decide +kernel)
set_option maxRecDepth 100000 in
theorem k_534 : (Cond.instanceMethod yX8_longest) ∈ GG := GG_i 534 (rfl) (by decide +kernel)
set_option maxRecDepth 100000 in
theorem k_535 : (Cond.selects RX8 yX8_longest yX8_longest) ∈ GG := GG_i 535 (rfl) (by decide +kernel)
set_option maxRecDepth 100000 in
theorem k_536 : (Cond.code yX8_longest cX8_longest 4 (some .int)) ∈ GG := GG_i 536 (rfl) (by decide +kernel)
set_option maxRecDepth 100000 in
theorem k_537 : (Cond.methodLink RX8 181 yX1_longestGap) ∈ GG := GG_i 537 (rfl) (by decide +kernel)
set_option maxRecDepth 100000 in
theorem k_538 : (Cond.instanceMethod yX1_longestGap) ∈ GG := GG_i 538 (rfl) (by decide +kernel)
set_option maxRecDepth 100000 in
theorem k_539 : (Cond.selects RX1 yX1_longestGap yX1_longestGap) ∈ GG := GG_i 539 (rfl) (by decide +kernel)
set_option maxRecDepth 100000 in
theorem k_540 : (Cond.code yX1_longestGap cX1_longestGap 4 (some .int)) ∈ GG := GG_i 540 (rfl) (by decide +kernel)
set_option maxRecDepth 100000 in
theorem k_541 : (Cond.methodLink RX1 42 yX1_gapsAheadOf) ∈ GG := GG_i 541 (rfl) (by decide +kernel)
set_option maxRecDepth 100000 in
theorem k_543 : (Cond.instanceMethod yX1_gapsAheadOf) ∈ GG := GG_i 543 (rfl) (by decide +kernel)
set_option maxRecDepth 100000 in
theorem k_544 : (Cond.code yX1_gapsAheadOf cX1_gapsAheadOf 7 (some .int)) ∈ GG := GG_i 544 (rfl) (by decide +kernel)
set_option maxRecDepth 100000 in
theorem k_545 : (Cond.methodLink RL 83 yX8_see) ∈ GG := GG_i 545 (rfl) (by decide +kernel)
set_option maxRecDepth 100000 in
theorem k_546 : (Cond.instanceMethod yX8_see) ∈ GG := GG_i 546 (rfl) (by decide +kernel)
set_option maxRecDepth 100000 in
theorem k_547 : (Cond.selects RX8 yX8_see yX8_see) ∈ GG := GG_i 547 (rfl) (by decide +kernel)
set_option maxRecDepth 100000 in
theorem k_548 : (Cond.code yX8_see cX8_see 3 (some .int)) ∈ GG := GG_i 548 (rfl) (by decide +kernel)
set_option maxRecDepth 100000 in
theorem k_549 : (Cond.methodLink RX8 193 yX3_add) ∈ GG := GG_i 549 (rfl) (by decide +kernel)
set_option maxRecDepth 100000 in
theorem k_550 : (Cond.instanceMethod yX3_add) ∈ GG := GG_i 550 (rfl) (by decide +kernel)
set_option maxRecDepth 100000 in
theorem k_551 : (Cond.selects RX3 yX3_add yX3_add) ∈ GG := GG_i 551 (rfl) (by decide +kernel)
set_option maxRecDepth 100000 in
theorem k_552 : (Cond.code yX3_add cX3_add 3 none) ∈ GG := GG_i 552 (rfl) (by decide +kernel)
set_option maxRecDepth 100000 in
theorem k_553 : (Cond.methodLink RL 87 yX8_fits) ∈ GG := GG_i 553 (rfl) (by decide +kernel)
set_option maxRecDepth 100000 in
theorem k_554 : (Cond.instanceMethod yX8_fits) ∈ GG := GG_i 554 (rfl) (by decide +kernel)
set_option maxRecDepth 100000 in
theorem k_555 : (Cond.selects RX8 yX8_fits yX8_fits) ∈ GG := GG_i 555 (rfl) (by decide +kernel)
set_option maxRecDepth 100000 in
theorem k_556 : (Cond.code yX8_fits cX8_fits 5 (some .int)) ∈ GG := GG_i 556 (rfl) (by decide +kernel)
set_option maxRecDepth 100000 in
theorem k_557 : (Cond.methodLink RX8 195 yX8_goesAsSeen) ∈ GG := GG_i 557 (rfl) (by decide +kernel)
set_option maxRecDepth 100000 in
theorem k_559 : (Cond.instanceMethod yX8_goesAsSeen) ∈ GG := GG_i 559 (rfl) (by decide +kernel)
set_option maxRecDepth 100000 in
theorem k_560 : (Cond.code yX8_goesAsSeen cX8_goesAsSeen 4 (some .boolean)) ∈ GG := GG_i 560 (rfl) (by decide +kernel)
set_option maxRecDepth 100000 in
theorem k_561 : (Cond.methodLink RX8 295 yX3_greatestFirst) ∈ GG := GG_i 561 (rfl) (by decide +kernel)
set_option maxRecDepth 100000 in
theorem k_562 : (Cond.instanceMethod yX3_greatestFirst) ∈ GG := GG_i 562 (rfl) (by decide +kernel)
set_option maxRecDepth 100000 in
theorem k_563 : (Cond.selects RX3 yX3_greatestFirst yX3_greatestFirst) ∈ GG := GG_i 563 (rfl) (by decide +kernel)
set_option maxRecDepth 100000 in
theorem k_564 : (Cond.code yX3_greatestFirst cX3_greatestFirst 3 (some .int)) ∈ GG := GG_i 564 (rfl) (by decide +kernel)
set_option maxRecDepth 100000 in
theorem k_565 : (Cond.methodLink RX3 22 Lib.Math.max.name) ∈ GG := GG_i 565 (rfl) (by decide +kernel)
set_option maxRecDepth 100000 in
theorem k_566 : (Cond.methodLink RX8 301 yX3_allows) ∈ GG := GG_i 566 (rfl) (by decide +kernel)
set_option maxRecDepth 100000 in
theorem k_567 : (Cond.instanceMethod yX3_allows) ∈ GG := GG_i 567 (rfl) (by decide +kernel)
set_option maxRecDepth 100000 in
theorem k_568 : (Cond.selects RX3 yX3_allows yX3_allows) ∈ GG := GG_i 568 (rfl) (by decide +kernel)
set_option maxRecDepth 100000 in
theorem k_569 : (Cond.code yX3_allows cX3_allows 4 (some .boolean)) ∈ GG := GG_i 569 (rfl) (by decide +kernel)
set_option maxRecDepth 100000 in
theorem k_570 : (Cond.methodLink RL 91 yX8_odds) ∈ GG := GG_i 570 (rfl) (by decide +kernel)
set_option maxRecDepth 100000 in
theorem k_571 : (Cond.instanceMethod yX8_odds) ∈ GG := GG_i 571 (rfl) (by decide +kernel)
set_option maxRecDepth 100000 in
theorem k_572 : (Cond.selects RX8 yX8_odds yX8_odds) ∈ GG := GG_i 572 (rfl) (by decide +kernel)
set_option maxRecDepth 100000 in
theorem k_573 : (Cond.code yX8_odds cX8_odds 5 (some .long)) ∈ GG := GG_i 573 (rfl) (by decide +kernel)
set_option maxRecDepth 100000 in
theorem k_574 : (Cond.constantLong RX8 202 (11)) ∈ GG := GG_i 574 (rfl) (by decide +kernel)
set_option maxRecDepth 100000 in
theorem k_575 : (Cond.methodLink RL 95 yX8_mean) ∈ GG := GG_i 575 (rfl) (by decide +kernel)
set_option maxRecDepth 100000 in
theorem k_576 : (Cond.instanceMethod yX8_mean) ∈ GG := GG_i 576 (rfl) (by decide +kernel)
set_option maxRecDepth 100000 in
theorem k_577 : (Cond.selects RX8 yX8_mean yX8_mean) ∈ GG := GG_i 577 (rfl) (by decide +kernel)
set_option maxRecDepth 100000 in
theorem k_578 : (Cond.code yX8_mean cX8_mean 3 (some .long)) ∈ GG := GG_i 578 (rfl) (by decide +kernel)
set_option maxRecDepth 100000 in
theorem k_579 : (Cond.methodLink RL 99 yX8_book) ∈ GG := GG_i 579 (rfl) (by decide +kernel)
set_option maxRecDepth 100000 in
theorem k_580 : (Cond.instanceMethod yX8_book) ∈ GG := GG_i 580 (rfl) (by decide +kernel)
set_option maxRecDepth 100000 in
theorem k_581 : (Cond.selects RX8 yX8_book yX8_book) ∈ GG := GG_i 581 (rfl) (by decide +kernel)
set_option maxRecDepth 100000 in
theorem k_582 : (Cond.code yX8_book cX8_book 3 (some .int)) ∈ GG := GG_i 582 (rfl) (by decide +kernel)
set_option maxRecDepth 100000 in
theorem k_583 : (Cond.methodLink RL 103 yX8_looked) ∈ GG := GG_i 583 (rfl) (by decide +kernel)
set_option maxRecDepth 100000 in
theorem k_584 : (Cond.instanceMethod yX8_looked) ∈ GG := GG_i 584 (rfl) (by decide +kernel)
set_option maxRecDepth 100000 in
theorem k_585 : (Cond.selects RX8 yX8_looked yX8_looked) ∈ GG := GG_i 585 (rfl) (by decide +kernel)
set_option maxRecDepth 100000 in
theorem k_586 : (Cond.code yX8_looked cX8_looked 2 (some .int)) ∈ GG := GG_i 586 (rfl) (by decide +kernel)
set_option maxRecDepth 100000 in
theorem k_587 : (Cond.methodLink RL 107 yX8_judge) ∈ GG := GG_i 587 (rfl) (by decide +kernel)
set_option maxRecDepth 100000 in
theorem k_588 : (Cond.instanceMethod yX8_judge) ∈ GG := GG_i 588 (rfl) (by decide +kernel)
set_option maxRecDepth 100000 in
theorem k_589 : (Cond.selects RX8 yX8_judge yX8_judge) ∈ GG := GG_i 589 (rfl) (by decide +kernel)
set_option maxRecDepth 100000 in
theorem k_590 : (Cond.code yX8_judge cX8_judge 4 (some .int)) ∈ GG := GG_i 590 (rfl) (by decide +kernel)
set_option maxRecDepth 100000 in
theorem k_591 : (Cond.methodLink RX8 213 yX8_tapeAt) ∈ GG := GG_i 591 (rfl) (by decide +kernel)
set_option maxRecDepth 100000 in
theorem k_593 : (Cond.instanceMethod yX8_tapeAt) ∈ GG := GG_i 593 (rfl) (by decide +kernel)
set_option maxRecDepth 100000 in
theorem k_594 : (Cond.code yX8_tapeAt cX8_tapeAt 2 (some (.object "WatchBeats$Tape"))) ∈ GG := GG_i 594 (rfl) (by decide +kernel)
set_option maxRecDepth 100000 in
theorem k_595 : (Cond.methodLink RX8 220 yX8_judgement) ∈ GG := GG_i 595 (rfl) (by decide +kernel)
set_option maxRecDepth 100000 in
theorem k_597 : (Cond.instanceMethod yX8_judgement) ∈ GG := GG_i 597 (rfl) (by decide +kernel)
set_option maxRecDepth 100000 in
theorem k_598 : (Cond.code yX8_judgement cX8_judgement 4 (some .int)) ∈ GG := GG_i 598 (rfl) (by decide +kernel)
set_option maxRecDepth 100000 in
theorem k_599 : (Cond.methodLink RX8 235 yX4_has) ∈ GG := GG_i 599 (rfl) (by decide +kernel)
set_option maxRecDepth 100000 in
theorem k_600 : (Cond.instanceMethod yX4_has) ∈ GG := GG_i 600 (rfl) (by decide +kernel)
set_option maxRecDepth 100000 in
theorem k_601 : (Cond.selects RX4 yX4_has yX4_has) ∈ GG := GG_i 601 (rfl) (by decide +kernel)
set_option maxRecDepth 100000 in
theorem k_602 : (Cond.code yX4_has cX4_has 2 (some .boolean)) ∈ GG := GG_i 602 (rfl) (by decide +kernel)
set_option maxRecDepth 100000 in
theorem k_603 : (Cond.methodLink RL 111 yX8_image) ∈ GG := GG_i 603 (rfl) (by decide +kernel)
set_option maxRecDepth 100000 in
theorem k_604 : (Cond.instanceMethod yX8_image) ∈ GG := GG_i 604 (rfl) (by decide +kernel)
set_option maxRecDepth 100000 in
theorem k_605 : (Cond.selects RX8 yX8_image yX8_image) ∈ GG := GG_i 605 (rfl) (by decide +kernel)
set_option maxRecDepth 100000 in
theorem k_606 : (Cond.code yX8_image cX8_image 1 (some .int)) ∈ GG := GG_i 606 (rfl) (by decide +kernel)
set_option maxRecDepth 100000 in
theorem k_607 : (Cond.methodLink RX8 224 yX7_copy) ∈ GG := GG_i 607 (rfl) (by decide +kernel)
set_option maxRecDepth 100000 in
theorem k_608 : (Cond.instanceMethod yX7_copy) ∈ GG := GG_i 608 (rfl) (by decide +kernel)
set_option maxRecDepth 100000 in
theorem k_609 : (Cond.selects RX7 yX7_copy yX7_copy) ∈ GG := GG_i 609 (rfl) (by decide +kernel)
set_option maxRecDepth 100000 in
theorem k_610 : (Cond.code yX7_copy cX7_copy 2 none) ∈ GG := GG_i 610 (rfl) (by decide +kernel)
set_option maxRecDepth 100000 in
theorem k_611 : (Cond.methodLink RX7 35 yX0_copy) ∈ GG := GG_i 611 (rfl) (by decide +kernel)
set_option maxRecDepth 100000 in
theorem k_612 : (Cond.methodLink RX7 39 yX6_copy) ∈ GG := GG_i 612 (rfl) (by decide +kernel)
set_option maxRecDepth 100000 in
theorem k_613 : (Cond.instanceMethod yX6_copy) ∈ GG := GG_i 613 (rfl) (by decide +kernel)
set_option maxRecDepth 100000 in
theorem k_614 : (Cond.selects RX6 yX6_copy yX6_copy) ∈ GG := GG_i 614 (rfl) (by decide +kernel)
set_option maxRecDepth 100000 in
theorem k_615 : (Cond.code yX6_copy cX6_copy 3 none) ∈ GG := GG_i 615 (rfl) (by decide +kernel)
set_option maxRecDepth 100000 in
theorem k_616 : (Cond.methodLink RX7 42 yX3_copy) ∈ GG := GG_i 616 (rfl) (by decide +kernel)
set_option maxRecDepth 100000 in
theorem k_617 : (Cond.instanceMethod yX3_copy) ∈ GG := GG_i 617 (rfl) (by decide +kernel)
set_option maxRecDepth 100000 in
theorem k_618 : (Cond.selects RX3 yX3_copy yX3_copy) ∈ GG := GG_i 618 (rfl) (by decide +kernel)
set_option maxRecDepth 100000 in
theorem k_619 : (Cond.code yX3_copy cX3_copy 3 none) ∈ GG := GG_i 619 (rfl) (by decide +kernel)
set_option maxRecDepth 100000 in
theorem k_620 : (Cond.methodLink RL 115 yX8_undo) ∈ GG := GG_i 620 (rfl) (by decide +kernel)
set_option maxRecDepth 100000 in
theorem k_621 : (Cond.instanceMethod yX8_undo) ∈ GG := GG_i 621 (rfl) (by decide +kernel)
set_option maxRecDepth 100000 in
theorem k_622 : (Cond.selects RX8 yX8_undo yX8_undo) ∈ GG := GG_i 622 (rfl) (by decide +kernel)
set_option maxRecDepth 100000 in
theorem k_623 : (Cond.code yX8_undo cX8_undo 1 (some .int)) ∈ GG := GG_i 623 (rfl) (by decide +kernel)
set_option maxRecDepth 100000 in
theorem k_624 : (Cond.methodLink RL 119 yX8_count) ∈ GG := GG_i 624 (rfl) (by decide +kernel)
set_option maxRecDepth 100000 in
theorem k_625 : (Cond.instanceMethod yX8_count) ∈ GG := GG_i 625 (rfl) (by decide +kernel)
set_option maxRecDepth 100000 in
theorem k_626 : (Cond.selects RX8 yX8_count yX8_count) ∈ GG := GG_i 626 (rfl) (by decide +kernel)
set_option maxRecDepth 100000 in
theorem k_627 : (Cond.code yX8_count cX8_count 2 (some .int)) ∈ GG := GG_i 627 (rfl) (by decide +kernel)
set_option maxRecDepth 100000 in
theorem k_628 : (Cond.methodLink RL 123 yX8_tape) ∈ GG := GG_i 628 (rfl) (by decide +kernel)
set_option maxRecDepth 100000 in
theorem k_629 : (Cond.instanceMethod yX8_tape) ∈ GG := GG_i 629 (rfl) (by decide +kernel)
set_option maxRecDepth 100000 in
theorem k_630 : (Cond.selects RX8 yX8_tape yX8_tape) ∈ GG := GG_i 630 (rfl) (by decide +kernel)
set_option maxRecDepth 100000 in
theorem k_631 : (Cond.code yX8_tape cX8_tape 5 (some .int)) ∈ GG := GG_i 631 (rfl) (by decide +kernel)
set_option maxRecDepth 100000 in
theorem k_632 : (Cond.methodLink RX8 232 yX4_clear) ∈ GG := GG_i 632 (rfl) (by decide +kernel)
set_option maxRecDepth 100000 in
theorem k_633 : (Cond.instanceMethod yX4_clear) ∈ GG := GG_i 633 (rfl) (by decide +kernel)
set_option maxRecDepth 100000 in
theorem k_634 : (Cond.selects RX4 yX4_clear yX4_clear) ∈ GG := GG_i 634 (rfl) (by decide +kernel)
set_option maxRecDepth 100000 in
theorem k_635 : (Cond.code yX4_clear cX4_clear 4 none) ∈ GG := GG_i 635 (rfl) (by decide +kernel)
set_option maxRecDepth 100000 in
theorem k_636 : (Cond.methodLink RL 129 yX8_item) ∈ GG := GG_i 636 (rfl) (by decide +kernel)
set_option maxRecDepth 100000 in
theorem k_637 : (Cond.instanceMethod yX8_item) ∈ GG := GG_i 637 (rfl) (by decide +kernel)
set_option maxRecDepth 100000 in
theorem k_638 : (Cond.selects RX8 yX8_item yX8_item) ∈ GG := GG_i 638 (rfl) (by decide +kernel)
set_option maxRecDepth 100000 in
theorem k_639 : (Cond.code yX8_item cX8_item 6 (some .int)) ∈ GG := GG_i 639 (rfl) (by decide +kernel)
set_option maxRecDepth 100000 in
theorem k_640 : (Cond.methodLink RX8 241 yX4_asItem) ∈ GG := GG_i 640 (rfl) (by decide +kernel)
set_option maxRecDepth 100000 in
theorem k_641 : (Cond.instanceMethod yX4_asItem) ∈ GG := GG_i 641 (rfl) (by decide +kernel)
set_option maxRecDepth 100000 in
theorem k_642 : (Cond.selects RX4 yX4_asItem yX4_asItem) ∈ GG := GG_i 642 (rfl) (by decide +kernel)
set_option maxRecDepth 100000 in
theorem k_643 : (Cond.code yX4_asItem cX4_asItem 3 (some .long)) ∈ GG := GG_i 643 (rfl) (by decide +kernel)
set_option maxRecDepth 100000 in
theorem k_644 : (Cond.methodLink RL 134 yX8_peek) ∈ GG := GG_i 644 (rfl) (by decide +kernel)
set_option maxRecDepth 100000 in
theorem k_645 : (Cond.instanceMethod yX8_peek) ∈ GG := GG_i 645 (rfl) (by decide +kernel)
set_option maxRecDepth 100000 in
theorem k_646 : (Cond.selects RX8 yX8_peek yX8_peek) ∈ GG := GG_i 646 (rfl) (by decide +kernel)
set_option maxRecDepth 100000 in
theorem k_647 : (Cond.code yX8_peek cX8_peek 4 (some .long)) ∈ GG := GG_i 647 (rfl) (by decide +kernel)
set_option maxRecDepth 100000 in
theorem k_648 : (Cond.methodLink RL 138 yX8_shift) ∈ GG := GG_i 648 (rfl) (by decide +kernel)
set_option maxRecDepth 100000 in
theorem k_649 : (Cond.instanceMethod yX8_shift) ∈ GG := GG_i 649 (rfl) (by decide +kernel)
set_option maxRecDepth 100000 in
theorem k_650 : (Cond.selects RX8 yX8_shift yX8_shift) ∈ GG := GG_i 650 (rfl) (by decide +kernel)
set_option maxRecDepth 100000 in
theorem k_651 : (Cond.code yX8_shift cX8_shift 8 (some .int)) ∈ GG := GG_i 651 (rfl) (by decide +kernel)
set_option maxRecDepth 100000 in
theorem k_652 : (Cond.methodLink RX8 245 yX4_hasRun) ∈ GG := GG_i 652 (rfl) (by decide +kernel)
set_option maxRecDepth 100000 in
theorem k_653 : (Cond.instanceMethod yX4_hasRun) ∈ GG := GG_i 653 (rfl) (by decide +kernel)
set_option maxRecDepth 100000 in
theorem k_654 : (Cond.selects RX4 yX4_hasRun yX4_hasRun) ∈ GG := GG_i 654 (rfl) (by decide +kernel)
set_option maxRecDepth 100000 in
theorem k_655 : (Cond.code yX4_hasRun cX4_hasRun 3 (some .boolean)) ∈ GG := GG_i 655 (rfl) (by decide +kernel)
set_option maxRecDepth 100000 in
theorem k_656 : (Cond.methodLink RX8 248 arraycopyName) ∈ GG := GG_i 656 (rfl) (by decide +kernel)
set_option maxRecDepth 100000 in
theorem k_657 : (Cond.static arraycopyName) ∈ GG := GG_i 657 (rfl) (by decide +kernel)
set_option maxRecDepth 100000 in
theorem k_658 : (Cond.native arraycopyName) ∈ GG := GG_i 658 (rfl) (by decide +kernel)
set_option maxRecDepth 100000 in
theorem k_659 : (Cond.classLink RL 10 RX9) ∈ GG := GG_i 659 (rfl) (by decide +kernel)
set_option maxRecDepth 100000 in
theorem k_660 : (Cond.instantiable RX9 21) ∈ GG := GG_i 660 (rfl) (by decide +kernel)
set_option maxRecDepth 100000 in
theorem k_661 : (Cond.methodLink RL 12 yX9_init) ∈ GG := GG_i 661 (rfl) (by decide +kernel)
set_option maxRecDepth 100000 in
theorem k_662 : (Cond.instanceMethod yX9_init) ∈ GG := GG_i 662 (rfl) (by decide +kernel)
set_option maxRecDepth 100000 in
theorem k_663 : (Cond.code yX9_init cX9_init 1 none) ∈ GG := GG_i 663 (rfl) (by decide +kernel)
set_option maxRecDepth 100000 in
theorem k_664 : (Cond.methodLink RX9 3 objectInit) ∈ GG := GG_i 664 (rfl) (by decide +kernel)
set_option maxRecDepth 100000 in
theorem k_665 : (Cond.fieldLink RX9 9 "WatchBeatsModel" "now" "[I") ∈ GG := GG_i 665 (rfl) (by decide +kernel)
set_option maxRecDepth 100000 in
theorem k_666 : (Cond.fieldLink RX9 15 "WatchBeatsModel" "old" "[I") ∈ GG := GG_i 666 (rfl) (by decide +kernel)
set_option maxRecDepth 100000 in
theorem k_667 : (Cond.fieldLink RX9 18 "WatchBeatsModel" "ahead" "[I") ∈ GG := GG_i 667 (rfl) (by decide +kernel)
set_option maxRecDepth 100000 in
theorem k_668 : (Cond.fieldLink RX9 188 "WatchBeatsModel" "imaged" "Z") ∈ GG := GG_i 668 (rfl) (by decide +kernel)
set_option maxRecDepth 100000 in
theorem k_669 : (Cond.fieldLink RX9 21 "WatchBeatsModel" "account" "[J") ∈ GG := GG_i 669 (rfl) (by decide +kernel)
set_option maxRecDepth 100000 in
theorem k_670 : (Cond.fieldLink RX9 25 "WatchBeatsModel" "oldAccount" "[J") ∈ GG := GG_i 670 (rfl) (by decide +kernel)
set_option maxRecDepth 100000 in
theorem k_671 : (Cond.fieldLink RX9 28 "WatchBeatsModel" "aheadAccount" "[J") ∈ GG := GG_i 671 (rfl) (by decide +kernel)
set_option maxRecDepth 100000 in
theorem k_672 : (Cond.fieldLink RX9 86 "WatchBeatsModel" "beats" "I") ∈ GG := GG_i 672 (rfl) (by decide +kernel)
set_option maxRecDepth 100000 in
theorem k_673 : (Cond.fieldLink RX9 90 "WatchBeatsModel" "begun" "I") ∈ GG := GG_i 673 (rfl) (by decide +kernel)
set_option maxRecDepth 100000 in
theorem k_674 : (Cond.fieldLink RX9 31 "WatchBeatsModel" "beatAt" "[I") ∈ GG := GG_i 674 (rfl) (by decide +kernel)
set_option maxRecDepth 100000 in
theorem k_675 : (Cond.fieldLink RX9 108 "WatchBeatsModel" "texts" "I") ∈ GG := GG_i 675 (rfl) (by decide +kernel)
set_option maxRecDepth 100000 in
theorem k_676 : (Cond.fieldLink RX9 34 "WatchBeatsModel" "text" "[I") ∈ GG := GG_i 676 (rfl) (by decide +kernel)
set_option maxRecDepth 100000 in
theorem k_677 : (Cond.fieldLink RX9 111 "WatchBeatsModel" "at" "I") ∈ GG := GG_i 677 (rfl) (by decide +kernel)
set_option maxRecDepth 100000 in
theorem k_678 : (Cond.fieldLink RX9 118 "WatchBeatsModel" "fault" "I") ∈ GG := GG_i 678 (rfl) (by decide +kernel)
set_option maxRecDepth 100000 in
theorem k_679 : (Cond.fieldLink RX9 124 "WatchBeatsModel" "clauses" "I") ∈ GG := GG_i 679 (rfl) (by decide +kernel)
set_option maxRecDepth 100000 in
theorem k_680 : (Cond.fieldLink RX9 37 "WatchBeatsModel" "clause" "[I") ∈ GG := GG_i 680 (rfl) (by decide +kernel)
set_option maxRecDepth 100000 in
theorem k_681 : (Cond.fieldLink RX9 40 "WatchBeatsModel" "number" "[I") ∈ GG := GG_i 681 (rfl) (by decide +kernel)
set_option maxRecDepth 100000 in
theorem k_682 : (Cond.fieldLink RX9 43 "WatchBeatsModel" "sort" "[I") ∈ GG := GG_i 682 (rfl) (by decide +kernel)
set_option maxRecDepth 100000 in
theorem k_683 : (Cond.fieldLink RX9 46 "WatchBeatsModel" "size" "[I") ∈ GG := GG_i 683 (rfl) (by decide +kernel)
set_option maxRecDepth 100000 in
theorem k_684 : (Cond.fieldLink RX9 49 "WatchBeatsModel" "items" "[J") ∈ GG := GG_i 684 (rfl) (by decide +kernel)
set_option maxRecDepth 100000 in
theorem k_685 : (Cond.fieldLink RX9 52 "WatchBeatsModel" "moved" "[J") ∈ GG := GG_i 685 (rfl) (by decide +kernel)
set_option maxRecDepth 100000 in
theorem k_686 : (Cond.laysFinal "WatchBeatsModel" "WatchBeatsModel" "now" "[I") ∈ GG := GG_i 686 (rfl) (by decide +kernel)
set_option maxRecDepth 100000 in
theorem k_688 : (Cond.laysFinal "WatchBeatsModel" "WatchBeatsModel" "old" "[I") ∈ GG := GG_i 688 (rfl) (by decide +kernel)
set_option maxRecDepth 100000 in
theorem k_690 : (Cond.laysFinal "WatchBeatsModel" "WatchBeatsModel" "ahead" "[I") ∈ GG := GG_i 690 (rfl) (by decide +kernel)
set_option maxRecDepth 100000 in
theorem k_692 : (Cond.lays "WatchBeatsModel" "WatchBeatsModel" "imaged" "Z") ∈ GG := GG_i 692 (rfl) (by decide +kernel)
set_option maxRecDepth 100000 in
theorem k_694 : (Cond.laysFinal "WatchBeatsModel" "WatchBeatsModel" "account" "[J") ∈ GG := GG_i 694 (rfl) (by decide +kernel)
set_option maxRecDepth 100000 in
theorem k_696 : (Cond.laysFinal "WatchBeatsModel" "WatchBeatsModel" "oldAccount" "[J") ∈ GG := GG_i 696 (rfl) (by decide +kernel)
set_option maxRecDepth 100000 in
theorem k_698 : (Cond.laysFinal "WatchBeatsModel" "WatchBeatsModel" "aheadAccount" "[J") ∈ GG := GG_i 698 (rfl) (by decide +kernel)
set_option maxRecDepth 100000 in
theorem k_700 : (Cond.lays "WatchBeatsModel" "WatchBeatsModel" "beats" "I") ∈ GG := GG_i 700 (rfl) (by decide +kernel)
set_option maxRecDepth 100000 in
theorem k_702 : (Cond.lays "WatchBeatsModel" "WatchBeatsModel" "begun" "I") ∈ GG := GG_i 702 (rfl) (by decide +kernel)
set_option maxRecDepth 100000 in
theorem k_704 : (Cond.laysFinal "WatchBeatsModel" "WatchBeatsModel" "beatAt" "[I") ∈ GG := GG_i 704 (rfl) (by decide +kernel)
set_option maxRecDepth 100000 in
theorem k_706 : (Cond.lays "WatchBeatsModel" "WatchBeatsModel" "texts" "I") ∈ GG := GG_i 706 (rfl) (by decide +kernel)
set_option maxRecDepth 100000 in
theorem k_708 : (Cond.laysFinal "WatchBeatsModel" "WatchBeatsModel" "text" "[I") ∈ GG := GG_i 708 (rfl) (by decide +kernel)
set_option maxRecDepth 100000 in
theorem k_710 : (Cond.lays "WatchBeatsModel" "WatchBeatsModel" "at" "I") ∈ GG := GG_i 710 (rfl) (by decide +kernel)
set_option maxRecDepth 100000 in
theorem k_712 : (Cond.lays "WatchBeatsModel" "WatchBeatsModel" "fault" "I") ∈ GG := GG_i 712 (rfl) (by decide +kernel)
set_option maxRecDepth 100000 in
theorem k_714 : (Cond.lays "WatchBeatsModel" "WatchBeatsModel" "clauses" "I") ∈ GG := GG_i 714 (rfl) (by decide +kernel)
set_option maxRecDepth 100000 in
theorem k_716 : (Cond.laysFinal "WatchBeatsModel" "WatchBeatsModel" "clause" "[I") ∈ GG := GG_i 716 (rfl) (by decide +kernel)
set_option maxRecDepth 100000 in
theorem k_718 : (Cond.laysFinal "WatchBeatsModel" "WatchBeatsModel" "number" "[I") ∈ GG := GG_i 718 (rfl) (by decide +kernel)
set_option maxRecDepth 100000 in
theorem k_720 : (Cond.laysFinal "WatchBeatsModel" "WatchBeatsModel" "sort" "[I") ∈ GG := GG_i 720 (rfl) (by decide +kernel)
set_option maxRecDepth 100000 in
theorem k_722 : (Cond.laysFinal "WatchBeatsModel" "WatchBeatsModel" "size" "[I") ∈ GG := GG_i 722 (rfl) (by decide +kernel)
set_option maxRecDepth 100000 in
theorem k_724 : (Cond.laysFinal "WatchBeatsModel" "WatchBeatsModel" "items" "[J") ∈ GG := GG_i 724 (rfl) (by decide +kernel)
set_option maxRecDepth 100000 in
theorem k_726 : (Cond.laysFinal "WatchBeatsModel" "WatchBeatsModel" "moved" "[J") ∈ GG := GG_i 726 (rfl) (by decide +kernel)
set_option maxRecDepth 100000 in
theorem k_729 : (Cond.methodLink RL 17 yX9_set) ∈ GG := GG_i 729 (rfl) (by decide +kernel)
set_option maxRecDepth 100000 in
theorem k_730 : (Cond.instanceMethod yX9_set) ∈ GG := GG_i 730 (rfl) (by decide +kernel)
set_option maxRecDepth 100000 in
theorem k_731 : (Cond.selects RX9 yX9_set yX9_set) ∈ GG := GG_i 731 (rfl) (by decide +kernel)
set_option maxRecDepth 100000 in
theorem k_732 : (Cond.code yX9_set cX9_set 6 (some .int)) ∈ GG := GG_i 732 (rfl) (by decide +kernel)
set_option maxRecDepth 100000 in
theorem k_733 : (Cond.methodLink RX9 55 yX9_within) ∈ GG := GG_i 733 (rfl) (by decide +kernel)
set_option maxRecDepth 100000 in
theorem k_734 : (Cond.static yX9_within) ∈ GG := GG_i 734 (rfl) (by decide +kernel)
set_option maxRecDepth 100000 in
theorem k_735 : (Cond.code yX9_within cX9_within 3 (some .boolean)) ∈ GG := GG_i 735 (rfl) (by decide +kernel)
set_option maxRecDepth 100000 in
theorem k_736 : (Cond.methodLink RX9 61 yX9_isSo) ∈ GG := GG_i 736 (rfl) (by decide +kernel)
set_option maxRecDepth 100000 in
theorem k_737 : (Cond.static yX9_isSo) ∈ GG := GG_i 737 (rfl) (by decide +kernel)
set_option maxRecDepth 100000 in
theorem k_738 : (Cond.code yX9_isSo cX9_isSo 2 (some .boolean)) ∈ GG := GG_i 738 (rfl) (by decide +kernel)
set_option maxRecDepth 100000 in
theorem k_739 : (Cond.methodLink RX9 65 yX9_energyNow) ∈ GG := GG_i 739 (rfl) (by decide +kernel)
set_option maxRecDepth 100000 in
theorem k_741 : (Cond.instanceMethod yX9_energyNow) ∈ GG := GG_i 741 (rfl) (by decide +kernel)
set_option maxRecDepth 100000 in
theorem k_742 : (Cond.code yX9_energyNow cX9_energyNow 1 (some .long)) ∈ GG := GG_i 742 (rfl) (by decide +kernel)
set_option maxRecDepth 100000 in
theorem k_743 : (Cond.constantLong RX9 59 (32)) ∈ GG := GG_i 743 (rfl) (by decide +kernel)
set_option maxRecDepth 100000 in
theorem k_744 : (Cond.methodLink RL 22 yX9_told) ∈ GG := GG_i 744 (rfl) (by decide +kernel)
set_option maxRecDepth 100000 in
theorem k_745 : (Cond.instanceMethod yX9_told) ∈ GG := GG_i 745 (rfl) (by decide +kernel)
set_option maxRecDepth 100000 in
theorem k_746 : (Cond.selects RX9 yX9_told yX9_told) ∈ GG := GG_i 746 (rfl) (by decide +kernel)
set_option maxRecDepth 100000 in
theorem k_747 : (Cond.code yX9_told cX9_told 2 (some .int)) ∈ GG := GG_i 747 (rfl) (by decide +kernel)
set_option maxRecDepth 100000 in
theorem k_748 : (Cond.methodLink RL 27 yX9_push) ∈ GG := GG_i 748 (rfl) (by decide +kernel)
set_option maxRecDepth 100000 in
theorem k_749 : (Cond.instanceMethod yX9_push) ∈ GG := GG_i 749 (rfl) (by decide +kernel)
set_option maxRecDepth 100000 in
theorem k_750 : (Cond.selects RX9 yX9_push yX9_push) ∈ GG := GG_i 750 (rfl) (by decide +kernel)
set_option maxRecDepth 100000 in
theorem k_751 : (Cond.code yX9_push cX9_push 5 (some .int)) ∈ GG := GG_i 751 (rfl) (by decide +kernel)
set_option maxRecDepth 100000 in
theorem k_752 : (Cond.constant RX9 69 (99999)) ∈ GG := GG_i 752 (rfl) (by decide +kernel)
set_option maxRecDepth 100000 in
theorem k_753 : (Cond.methodLink RL 31 yX9_pushOf) ∈ GG := GG_i 753 (rfl) (by decide +kernel)
set_option maxRecDepth 100000 in
theorem k_754 : (Cond.instanceMethod yX9_pushOf) ∈ GG := GG_i 754 (rfl) (by decide +kernel)
set_option maxRecDepth 100000 in
theorem k_755 : (Cond.selects RX9 yX9_pushOf yX9_pushOf) ∈ GG := GG_i 755 (rfl) (by decide +kernel)
set_option maxRecDepth 100000 in
theorem k_756 : (Cond.code yX9_pushOf cX9_pushOf 7 (some .int)) ∈ GG := GG_i 756 (rfl) (by decide +kernel)
set_option maxRecDepth 100000 in
theorem k_757 : (Cond.methodLink RL 35 yX9_go) ∈ GG := GG_i 757 (rfl) (by decide +kernel)
set_option maxRecDepth 100000 in
theorem k_758 : (Cond.instanceMethod yX9_go) ∈ GG := GG_i 758 (rfl) (by decide +kernel)
set_option maxRecDepth 100000 in
theorem k_759 : (Cond.selects RX9 yX9_go yX9_go) ∈ GG := GG_i 759 (rfl) (by decide +kernel)
set_option maxRecDepth 100000 in
theorem k_760 : (Cond.code yX9_go cX9_go 2 (some .int)) ∈ GG := GG_i 760 (rfl) (by decide +kernel)
set_option maxRecDepth 100000 in
theorem k_761 : (Cond.methodLink RX9 96 yX9_goes) ∈ GG := GG_i 761 (rfl) (by decide +kernel)
set_option maxRecDepth 100000 in
theorem k_763 : (Cond.instanceMethod yX9_goes) ∈ GG := GG_i 763 (rfl) (by decide +kernel)
set_option maxRecDepth 100000 in
theorem k_764 : (Cond.code yX9_goes cX9_goes 3 none) ∈ GG := GG_i 764 (rfl) (by decide +kernel)
set_option maxRecDepth 100000 in
theorem k_765 : (Cond.methodLink RX9 93 yX9_tick) ∈ GG := GG_i 765 (rfl) (by decide +kernel)
set_option maxRecDepth 100000 in
theorem k_767 : (Cond.instanceMethod yX9_tick) ∈ GG := GG_i 767 (rfl) (by decide +kernel)
set_option maxRecDepth 100000 in
theorem k_768 : (Cond.code yX9_tick cX9_tick 9 none) ∈ GG := GG_i 768 (rfl) (by decide +kernel)
set_option maxRecDepth 100000 in
theorem k_769 : (Cond.methodLink RX9 79 yX9_pushes) ∈ GG := GG_i 769 (rfl) (by decide +kernel)
set_option maxRecDepth 100000 in
theorem k_771 : (Cond.instanceMethod yX9_pushes) ∈ GG := GG_i 771 (rfl) (by decide +kernel)
set_option maxRecDepth 100000 in
theorem k_772 : (Cond.code yX9_pushes cX9_pushes 7 none) ∈ GG := GG_i 772 (rfl) (by decide +kernel)
set_option maxRecDepth 100000 in
theorem k_773 : (Cond.methodLink RX9 70 Lib.Math.min.name) ∈ GG := GG_i 773 (rfl) (by decide +kernel)
set_option maxRecDepth 100000 in
theorem k_774 : (Cond.methodLink RX9 76 Lib.Math.max.name) ∈ GG := GG_i 774 (rfl) (by decide +kernel)
set_option maxRecDepth 100000 in
theorem k_775 : (Cond.methodLink RX9 82 yX9_accounts) ∈ GG := GG_i 775 (rfl) (by decide +kernel)
set_option maxRecDepth 100000 in
theorem k_777 : (Cond.instanceMethod yX9_accounts) ∈ GG := GG_i 777 (rfl) (by decide +kernel)
set_option maxRecDepth 100000 in
theorem k_778 : (Cond.code yX9_accounts cX9_accounts 6 (some .long)) ∈ GG := GG_i 778 (rfl) (by decide +kernel)
set_option maxRecDepth 100000 in
theorem k_779 : (Cond.methodLink RL 39 yX9_wheel) ∈ GG := GG_i 779 (rfl) (by decide +kernel)
set_option maxRecDepth 100000 in
theorem k_780 : (Cond.instanceMethod yX9_wheel) ∈ GG := GG_i 780 (rfl) (by decide +kernel)
set_option maxRecDepth 100000 in
theorem k_781 : (Cond.selects RX9 yX9_wheel yX9_wheel) ∈ GG := GG_i 781 (rfl) (by decide +kernel)
set_option maxRecDepth 100000 in
theorem k_782 : (Cond.code yX9_wheel cX9_wheel 2 (some .int)) ∈ GG := GG_i 782 (rfl) (by decide +kernel)
set_option maxRecDepth 100000 in
theorem k_783 : (Cond.methodLink RL 44 yX9_turns) ∈ GG := GG_i 783 (rfl) (by decide +kernel)
set_option maxRecDepth 100000 in
theorem k_784 : (Cond.instanceMethod yX9_turns) ∈ GG := GG_i 784 (rfl) (by decide +kernel)
set_option maxRecDepth 100000 in
theorem k_785 : (Cond.selects RX9 yX9_turns yX9_turns) ∈ GG := GG_i 785 (rfl) (by decide +kernel)
set_option maxRecDepth 100000 in
theorem k_786 : (Cond.code yX9_turns cX9_turns 6 (some .long)) ∈ GG := GG_i 786 (rfl) (by decide +kernel)
set_option maxRecDepth 100000 in
theorem k_787 : (Cond.constantLong RX9 100 (-9223372036854775808)) ∈ GG := GG_i 787 (rfl) (by decide +kernel)
set_option maxRecDepth 100000 in
theorem k_788 : (Cond.constantLong RX9 102 (2)) ∈ GG := GG_i 788 (rfl) (by decide +kernel)
set_option maxRecDepth 100000 in
theorem k_789 : (Cond.methodLink RX9 104 yX9_lowest) ∈ GG := GG_i 789 (rfl) (by decide +kernel)
set_option maxRecDepth 100000 in
theorem k_790 : (Cond.static yX9_lowest) ∈ GG := GG_i 790 (rfl) (by decide +kernel)
set_option maxRecDepth 100000 in
theorem k_791 : (Cond.code yX9_lowest cX9_lowest 11 (some .long)) ∈ GG := GG_i 791 (rfl) (by decide +kernel)
set_option maxRecDepth 100000 in
theorem k_792 : (Cond.methodLink RL 49 yX9_energy) ∈ GG := GG_i 792 (rfl) (by decide +kernel)
set_option maxRecDepth 100000 in
theorem k_793 : (Cond.instanceMethod yX9_energy) ∈ GG := GG_i 793 (rfl) (by decide +kernel)
set_option maxRecDepth 100000 in
theorem k_794 : (Cond.selects RX9 yX9_energy yX9_energy) ∈ GG := GG_i 794 (rfl) (by decide +kernel)
set_option maxRecDepth 100000 in
theorem k_795 : (Cond.code yX9_energy cX9_energy 2 (some .long)) ∈ GG := GG_i 795 (rfl) (by decide +kernel)
set_option maxRecDepth 100000 in
theorem k_796 : (Cond.methodLink RL 53 yX9_feed) ∈ GG := GG_i 796 (rfl) (by decide +kernel)
set_option maxRecDepth 100000 in
theorem k_797 : (Cond.instanceMethod yX9_feed) ∈ GG := GG_i 797 (rfl) (by decide +kernel)
set_option maxRecDepth 100000 in
theorem k_798 : (Cond.selects RX9 yX9_feed yX9_feed) ∈ GG := GG_i 798 (rfl) (by decide +kernel)
set_option maxRecDepth 100000 in
theorem k_799 : (Cond.code yX9_feed cX9_feed 2 (some .int)) ∈ GG := GG_i 799 (rfl) (by decide +kernel)
set_option maxRecDepth 100000 in
theorem k_800 : (Cond.methodLink RL 58 yX9_read) ∈ GG := GG_i 800 (rfl) (by decide +kernel)
set_option maxRecDepth 100000 in
theorem k_801 : (Cond.instanceMethod yX9_read) ∈ GG := GG_i 801 (rfl) (by decide +kernel)
set_option maxRecDepth 100000 in
theorem k_802 : (Cond.selects RX9 yX9_read yX9_read) ∈ GG := GG_i 802 (rfl) (by decide +kernel)
set_option maxRecDepth 100000 in
theorem k_803 : (Cond.code yX9_read cX9_read 3 (some .int)) ∈ GG := GG_i 803 (rfl) (by decide +kernel)
set_option maxRecDepth 100000 in
theorem k_804 : (Cond.methodLink RX9 136 yX9_reads) ∈ GG := GG_i 804 (rfl) (by decide +kernel)
set_option maxRecDepth 100000 in
theorem k_806 : (Cond.instanceMethod yX9_reads) ∈ GG := GG_i 806 (rfl) (by decide +kernel)
set_option maxRecDepth 100000 in
theorem k_807 : (Cond.code yX9_reads cX9_reads 5 none) ∈ GG := GG_i 807 (rfl) (by decide +kernel)
set_option maxRecDepth 100000 in
theorem k_808 : (Cond.methodLink RX9 114 yX9_letter) ∈ GG := GG_i 808 (rfl) (by decide +kernel)
set_option maxRecDepth 100000 in
theorem k_809 : (Cond.static yX9_letter) ∈ GG := GG_i 809 (rfl) (by decide +kernel)
set_option maxRecDepth 100000 in
theorem k_810 : (Cond.code yX9_letter cX9_letter 1 (some .int)) ∈ GG := GG_i 810 (rfl) (by decide +kernel)
set_option maxRecDepth 100000 in
theorem k_811 : (Cond.methodLink RX9 121 yX9_isFrom) ∈ GG := GG_i 811 (rfl) (by decide +kernel)
set_option maxRecDepth 100000 in
theorem k_813 : (Cond.instanceMethod yX9_isFrom) ∈ GG := GG_i 813 (rfl) (by decide +kernel)
set_option maxRecDepth 100000 in
theorem k_814 : (Cond.code yX9_isFrom cX9_isFrom 3 (some .boolean)) ∈ GG := GG_i 814 (rfl) (by decide +kernel)
set_option maxRecDepth 100000 in
theorem k_815 : (Cond.methodLink RX9 139 yX9_does) ∈ GG := GG_i 815 (rfl) (by decide +kernel)
set_option maxRecDepth 100000 in
theorem k_817 : (Cond.instanceMethod yX9_does) ∈ GG := GG_i 817 (rfl) (by decide +kernel)
set_option maxRecDepth 100000 in
theorem k_818 : (Cond.code yX9_does cX9_does 3 (some .boolean)) ∈ GG := GG_i 818 (rfl) (by decide +kernel)
set_option maxRecDepth 100000 in
theorem k_819 : (Cond.methodLink RX9 127 yX9_set) ∈ GG := GG_i 819 (rfl) (by decide +kernel)
set_option maxRecDepth 100000 in
theorem k_820 : (Cond.methodLink RX9 130 yX9_wheel) ∈ GG := GG_i 820 (rfl) (by decide +kernel)
set_option maxRecDepth 100000 in
theorem k_821 : (Cond.methodLink RX9 133 yX9_go) ∈ GG := GG_i 821 (rfl) (by decide +kernel)
set_option maxRecDepth 100000 in
theorem k_822 : (Cond.methodLink RL 62 yX9_ahead) ∈ GG := GG_i 822 (rfl) (by decide +kernel)
set_option maxRecDepth 100000 in
theorem k_823 : (Cond.instanceMethod yX9_ahead) ∈ GG := GG_i 823 (rfl) (by decide +kernel)
set_option maxRecDepth 100000 in
theorem k_824 : (Cond.selects RX9 yX9_ahead yX9_ahead) ∈ GG := GG_i 824 (rfl) (by decide +kernel)
set_option maxRecDepth 100000 in
theorem k_825 : (Cond.code yX9_ahead cX9_ahead 4 (some .int)) ∈ GG := GG_i 825 (rfl) (by decide +kernel)
set_option maxRecDepth 100000 in
theorem k_826 : (Cond.methodLink RX9 151 yX9_lays) ∈ GG := GG_i 826 (rfl) (by decide +kernel)
set_option maxRecDepth 100000 in
theorem k_828 : (Cond.instanceMethod yX9_lays) ∈ GG := GG_i 828 (rfl) (by decide +kernel)
set_option maxRecDepth 100000 in
theorem k_829 : (Cond.code yX9_lays cX9_lays 1 none) ∈ GG := GG_i 829 (rfl) (by decide +kernel)
set_option maxRecDepth 100000 in
theorem k_830 : (Cond.methodLink RX9 143 yX9_pours) ∈ GG := GG_i 830 (rfl) (by decide +kernel)
set_option maxRecDepth 100000 in
theorem k_831 : (Cond.static yX9_pours) ∈ GG := GG_i 831 (rfl) (by decide +kernel)
set_option maxRecDepth 100000 in
theorem k_832 : (Cond.code yX9_pours cX9_pours 3 none) ∈ GG := GG_i 832 (rfl) (by decide +kernel)
set_option maxRecDepth 100000 in
theorem k_833 : (Cond.methodLink RX9 147 yX9_poursLongs) ∈ GG := GG_i 833 (rfl) (by decide +kernel)
set_option maxRecDepth 100000 in
theorem k_834 : (Cond.static yX9_poursLongs) ∈ GG := GG_i 834 (rfl) (by decide +kernel)
set_option maxRecDepth 100000 in
theorem k_835 : (Cond.code yX9_poursLongs cX9_poursLongs 3 none) ∈ GG := GG_i 835 (rfl) (by decide +kernel)
set_option maxRecDepth 100000 in
theorem k_836 : (Cond.methodLink RX9 154 yX9_back) ∈ GG := GG_i 836 (rfl) (by decide +kernel)
set_option maxRecDepth 100000 in
theorem k_838 : (Cond.instanceMethod yX9_back) ∈ GG := GG_i 838 (rfl) (by decide +kernel)
set_option maxRecDepth 100000 in
theorem k_839 : (Cond.code yX9_back cX9_back 1 none) ∈ GG := GG_i 839 (rfl) (by decide +kernel)
set_option maxRecDepth 100000 in
theorem k_840 : (Cond.methodLink RL 66 yX9_energyAt) ∈ GG := GG_i 840 (rfl) (by decide +kernel)
set_option maxRecDepth 100000 in
theorem k_841 : (Cond.instanceMethod yX9_energyAt) ∈ GG := GG_i 841 (rfl) (by decide +kernel)
set_option maxRecDepth 100000 in
theorem k_842 : (Cond.selects RX9 yX9_energyAt yX9_energyAt) ∈ GG := GG_i 842 (rfl) (by decide +kernel)
set_option maxRecDepth 100000 in
theorem k_843 : (Cond.code yX9_energyAt cX9_energyAt 4 (some .long)) ∈ GG := GG_i 843 (rfl) (by decide +kernel)
set_option maxRecDepth 100000 in
theorem k_844 : (Cond.methodLink RL 70 yX9_heard) ∈ GG := GG_i 844 (rfl) (by decide +kernel)
set_option maxRecDepth 100000 in
theorem k_845 : (Cond.instanceMethod yX9_heard) ∈ GG := GG_i 845 (rfl) (by decide +kernel)
set_option maxRecDepth 100000 in
theorem k_846 : (Cond.selects RX9 yX9_heard yX9_heard) ∈ GG := GG_i 846 (rfl) (by decide +kernel)
set_option maxRecDepth 100000 in
theorem k_847 : (Cond.code yX9_heard cX9_heard 2 (some .int)) ∈ GG := GG_i 847 (rfl) (by decide +kernel)
set_option maxRecDepth 100000 in
theorem k_848 : (Cond.methodLink RX9 161 yX9_hears_) ∈ GG := GG_i 848 (rfl) (by decide +kernel)
set_option maxRecDepth 100000 in
theorem k_850 : (Cond.instanceMethod yX9_hears_) ∈ GG := GG_i 850 (rfl) (by decide +kernel)
set_option maxRecDepth 100000 in
theorem k_851 : (Cond.code yX9_hears_ cX9_hears_ 1 none) ∈ GG := GG_i 851 (rfl) (by decide +kernel)
set_option maxRecDepth 100000 in
theorem k_852 : (Cond.methodLink RX9 157 yX9_hears) ∈ GG := GG_i 852 (rfl) (by decide +kernel)
set_option maxRecDepth 100000 in
theorem k_854 : (Cond.instanceMethod yX9_hears) ∈ GG := GG_i 854 (rfl) (by decide +kernel)
set_option maxRecDepth 100000 in
theorem k_855 : (Cond.code yX9_hears cX9_hears 3 none) ∈ GG := GG_i 855 (rfl) (by decide +kernel)
set_option maxRecDepth 100000 in
theorem k_856 : (Cond.methodLink RL 74 yX9_beat) ∈ GG := GG_i 856 (rfl) (by decide +kernel)
set_option maxRecDepth 100000 in
theorem k_857 : (Cond.instanceMethod yX9_beat) ∈ GG := GG_i 857 (rfl) (by decide +kernel)
set_option maxRecDepth 100000 in
theorem k_858 : (Cond.selects RX9 yX9_beat yX9_beat) ∈ GG := GG_i 858 (rfl) (by decide +kernel)
set_option maxRecDepth 100000 in
theorem k_859 : (Cond.code yX9_beat cX9_beat 2 (some .int)) ∈ GG := GG_i 859 (rfl) (by decide +kernel)
set_option maxRecDepth 100000 in
theorem k_860 : (Cond.methodLink RX9 176 yX9_evenest) ∈ GG := GG_i 860 (rfl) (by decide +kernel)
set_option maxRecDepth 100000 in
theorem k_862 : (Cond.instanceMethod yX9_evenest) ∈ GG := GG_i 862 (rfl) (by decide +kernel)
set_option maxRecDepth 100000 in
theorem k_863 : (Cond.code yX9_evenest cX9_evenest 8 (some .int)) ∈ GG := GG_i 863 (rfl) (by decide +kernel)
set_option maxRecDepth 100000 in
theorem k_864 : (Cond.methodLink RX9 170 yX9_uneven) ∈ GG := GG_i 864 (rfl) (by decide +kernel)
set_option maxRecDepth 100000 in
theorem k_866 : (Cond.instanceMethod yX9_uneven) ∈ GG := GG_i 866 (rfl) (by decide +kernel)
set_option maxRecDepth 100000 in
theorem k_867 : (Cond.code yX9_uneven cX9_uneven 3 (some .int)) ∈ GG := GG_i 867 (rfl) (by decide +kernel)
set_option maxRecDepth 100000 in
theorem k_868 : (Cond.methodLink RX9 163 yX9_gaps) ∈ GG := GG_i 868 (rfl) (by decide +kernel)
set_option maxRecDepth 100000 in
theorem k_870 : (Cond.instanceMethod yX9_gaps) ∈ GG := GG_i 870 (rfl) (by decide +kernel)
set_option maxRecDepth 100000 in
theorem k_871 : (Cond.code yX9_gaps cX9_gaps 1 (some .int)) ∈ GG := GG_i 871 (rfl) (by decide +kernel)
set_option maxRecDepth 100000 in
theorem k_872 : (Cond.methodLink RX9 167 yX9_gapOf) ∈ GG := GG_i 872 (rfl) (by decide +kernel)
set_option maxRecDepth 100000 in
theorem k_874 : (Cond.instanceMethod yX9_gapOf) ∈ GG := GG_i 874 (rfl) (by decide +kernel)
set_option maxRecDepth 100000 in
theorem k_875 : (Cond.code yX9_gapOf cX9_gapOf 2 (some .int)) ∈ GG := GG_i 875 (rfl) (by decide +kernel)
set_option maxRecDepth 100000 in
theorem k_876 : (Cond.methodLink RX9 173 Lib.Math.abs.name) ∈ GG := GG_i 876 (rfl) (by decide +kernel)
set_option maxRecDepth 100000 in
theorem k_877 : (Cond.methodLink RL 78 yX9_gap) ∈ GG := GG_i 877 (rfl) (by decide +kernel)
set_option maxRecDepth 100000 in
theorem k_878 : (Cond.instanceMethod yX9_gap) ∈ GG := GG_i 878 (rfl) (by decide +kernel)
set_option maxRecDepth 100000 in
theorem k_879 : (Cond.selects RX9 yX9_gap yX9_gap) ∈ GG := GG_i 879 (rfl) (by decide +kernel)
set_option maxRecDepth 100000 in
theorem k_880 : (Cond.code yX9_gap cX9_gap 2 (some .int)) ∈ GG := GG_i 880 (rfl) (by decide +kernel)
set_option maxRecDepth 100000 in
theorem k_881 : (Cond.methodLink RL 82 yX9_longest) ∈ GG := GG_i 881 (rfl) (by decide +kernel)
set_option maxRecDepth 100000 in
theorem k_882 : (Cond.instanceMethod yX9_longest) ∈ GG := GG_i 882 (rfl) (by decide +kernel)
set_option maxRecDepth 100000 in
theorem k_883 : (Cond.selects RX9 yX9_longest yX9_longest) ∈ GG := GG_i 883 (rfl) (by decide +kernel)
set_option maxRecDepth 100000 in
theorem k_884 : (Cond.code yX9_longest cX9_longest 6 (some .int)) ∈ GG := GG_i 884 (rfl) (by decide +kernel)
set_option maxRecDepth 100000 in
theorem k_885 : (Cond.methodLink RL 86 yX9_see) ∈ GG := GG_i 885 (rfl) (by decide +kernel)
set_option maxRecDepth 100000 in
theorem k_886 : (Cond.instanceMethod yX9_see) ∈ GG := GG_i 886 (rfl) (by decide +kernel)
set_option maxRecDepth 100000 in
theorem k_887 : (Cond.selects RX9 yX9_see yX9_see) ∈ GG := GG_i 887 (rfl) (by decide +kernel)
set_option maxRecDepth 100000 in
theorem k_888 : (Cond.code yX9_see cX9_see 3 (some .int)) ∈ GG := GG_i 888 (rfl) (by decide +kernel)
set_option maxRecDepth 100000 in
theorem k_889 : (Cond.methodLink RL 90 yX9_fits) ∈ GG := GG_i 889 (rfl) (by decide +kernel)
set_option maxRecDepth 100000 in
theorem k_890 : (Cond.instanceMethod yX9_fits) ∈ GG := GG_i 890 (rfl) (by decide +kernel)
set_option maxRecDepth 100000 in
theorem k_891 : (Cond.selects RX9 yX9_fits yX9_fits) ∈ GG := GG_i 891 (rfl) (by decide +kernel)
set_option maxRecDepth 100000 in
theorem k_892 : (Cond.code yX9_fits cX9_fits 6 (some .int)) ∈ GG := GG_i 892 (rfl) (by decide +kernel)
set_option maxRecDepth 100000 in
theorem k_893 : (Cond.methodLink RX9 179 yX9_isSeen) ∈ GG := GG_i 893 (rfl) (by decide +kernel)
set_option maxRecDepth 100000 in
theorem k_895 : (Cond.instanceMethod yX9_isSeen) ∈ GG := GG_i 895 (rfl) (by decide +kernel)
set_option maxRecDepth 100000 in
theorem k_896 : (Cond.code yX9_isSeen cX9_isSeen 4 (some .boolean)) ∈ GG := GG_i 896 (rfl) (by decide +kernel)
set_option maxRecDepth 100000 in
theorem k_897 : (Cond.methodLink RL 94 yX9_odds) ∈ GG := GG_i 897 (rfl) (by decide +kernel)
set_option maxRecDepth 100000 in
theorem k_898 : (Cond.instanceMethod yX9_odds) ∈ GG := GG_i 898 (rfl) (by decide +kernel)
set_option maxRecDepth 100000 in
theorem k_899 : (Cond.selects RX9 yX9_odds yX9_odds) ∈ GG := GG_i 899 (rfl) (by decide +kernel)
set_option maxRecDepth 100000 in
theorem k_900 : (Cond.code yX9_odds cX9_odds 5 (some .long)) ∈ GG := GG_i 900 (rfl) (by decide +kernel)
set_option maxRecDepth 100000 in
theorem k_901 : (Cond.constantLong RX9 183 (11)) ∈ GG := GG_i 901 (rfl) (by decide +kernel)
set_option maxRecDepth 100000 in
theorem k_902 : (Cond.methodLink RL 98 yX9_mean) ∈ GG := GG_i 902 (rfl) (by decide +kernel)
set_option maxRecDepth 100000 in
theorem k_903 : (Cond.instanceMethod yX9_mean) ∈ GG := GG_i 903 (rfl) (by decide +kernel)
set_option maxRecDepth 100000 in
theorem k_904 : (Cond.selects RX9 yX9_mean yX9_mean) ∈ GG := GG_i 904 (rfl) (by decide +kernel)
set_option maxRecDepth 100000 in
theorem k_905 : (Cond.code yX9_mean cX9_mean 2 (some .long)) ∈ GG := GG_i 905 (rfl) (by decide +kernel)
set_option maxRecDepth 100000 in
theorem k_906 : (Cond.methodLink RL 102 yX9_book) ∈ GG := GG_i 906 (rfl) (by decide +kernel)
set_option maxRecDepth 100000 in
theorem k_907 : (Cond.instanceMethod yX9_book) ∈ GG := GG_i 907 (rfl) (by decide +kernel)
set_option maxRecDepth 100000 in
theorem k_908 : (Cond.selects RX9 yX9_book yX9_book) ∈ GG := GG_i 908 (rfl) (by decide +kernel)
set_option maxRecDepth 100000 in
theorem k_909 : (Cond.code yX9_book cX9_book 3 (some .int)) ∈ GG := GG_i 909 (rfl) (by decide +kernel)
set_option maxRecDepth 100000 in
theorem k_910 : (Cond.methodLink RL 106 yX9_looked) ∈ GG := GG_i 910 (rfl) (by decide +kernel)
set_option maxRecDepth 100000 in
theorem k_911 : (Cond.instanceMethod yX9_looked) ∈ GG := GG_i 911 (rfl) (by decide +kernel)
set_option maxRecDepth 100000 in
theorem k_912 : (Cond.selects RX9 yX9_looked yX9_looked) ∈ GG := GG_i 912 (rfl) (by decide +kernel)
set_option maxRecDepth 100000 in
theorem k_913 : (Cond.code yX9_looked cX9_looked 3 (some .int)) ∈ GG := GG_i 913 (rfl) (by decide +kernel)
set_option maxRecDepth 100000 in
theorem k_914 : (Cond.methodLink RL 110 yX9_judge) ∈ GG := GG_i 914 (rfl) (by decide +kernel)
set_option maxRecDepth 100000 in
theorem k_915 : (Cond.instanceMethod yX9_judge) ∈ GG := GG_i 915 (rfl) (by decide +kernel)
set_option maxRecDepth 100000 in
theorem k_916 : (Cond.selects RX9 yX9_judge yX9_judge) ∈ GG := GG_i 916 (rfl) (by decide +kernel)
set_option maxRecDepth 100000 in
theorem k_917 : (Cond.code yX9_judge cX9_judge 4 (some .int)) ∈ GG := GG_i 917 (rfl) (by decide +kernel)
set_option maxRecDepth 100000 in
theorem k_918 : (Cond.methodLink RX9 185 yX9_isTape) ∈ GG := GG_i 918 (rfl) (by decide +kernel)
set_option maxRecDepth 100000 in
theorem k_919 : (Cond.static yX9_isTape) ∈ GG := GG_i 919 (rfl) (by decide +kernel)
set_option maxRecDepth 100000 in
theorem k_920 : (Cond.code yX9_isTape cX9_isTape 1 (some .boolean)) ∈ GG := GG_i 920 (rfl) (by decide +kernel)
set_option maxRecDepth 100000 in
theorem k_921 : (Cond.methodLink RL 114 yX9_image) ∈ GG := GG_i 921 (rfl) (by decide +kernel)
set_option maxRecDepth 100000 in
theorem k_922 : (Cond.instanceMethod yX9_image) ∈ GG := GG_i 922 (rfl) (by decide +kernel)
set_option maxRecDepth 100000 in
theorem k_923 : (Cond.selects RX9 yX9_image yX9_image) ∈ GG := GG_i 923 (rfl) (by decide +kernel)
set_option maxRecDepth 100000 in
theorem k_924 : (Cond.code yX9_image cX9_image 1 (some .int)) ∈ GG := GG_i 924 (rfl) (by decide +kernel)
set_option maxRecDepth 100000 in
theorem k_925 : (Cond.methodLink RL 118 yX9_undo) ∈ GG := GG_i 925 (rfl) (by decide +kernel)
set_option maxRecDepth 100000 in
theorem k_926 : (Cond.instanceMethod yX9_undo) ∈ GG := GG_i 926 (rfl) (by decide +kernel)
set_option maxRecDepth 100000 in
theorem k_927 : (Cond.selects RX9 yX9_undo yX9_undo) ∈ GG := GG_i 927 (rfl) (by decide +kernel)
set_option maxRecDepth 100000 in
theorem k_928 : (Cond.code yX9_undo cX9_undo 1 (some .int)) ∈ GG := GG_i 928 (rfl) (by decide +kernel)
set_option maxRecDepth 100000 in
theorem k_929 : (Cond.methodLink RL 122 yX9_count) ∈ GG := GG_i 929 (rfl) (by decide +kernel)
set_option maxRecDepth 100000 in
theorem k_930 : (Cond.instanceMethod yX9_count) ∈ GG := GG_i 930 (rfl) (by decide +kernel)
set_option maxRecDepth 100000 in
theorem k_931 : (Cond.selects RX9 yX9_count yX9_count) ∈ GG := GG_i 931 (rfl) (by decide +kernel)
set_option maxRecDepth 100000 in
theorem k_932 : (Cond.code yX9_count cX9_count 2 (some .int)) ∈ GG := GG_i 932 (rfl) (by decide +kernel)
set_option maxRecDepth 100000 in
theorem k_933 : (Cond.methodLink RL 126 yX9_tape) ∈ GG := GG_i 933 (rfl) (by decide +kernel)
set_option maxRecDepth 100000 in
theorem k_934 : (Cond.instanceMethod yX9_tape) ∈ GG := GG_i 934 (rfl) (by decide +kernel)
set_option maxRecDepth 100000 in
theorem k_935 : (Cond.selects RX9 yX9_tape yX9_tape) ∈ GG := GG_i 935 (rfl) (by decide +kernel)
set_option maxRecDepth 100000 in
theorem k_936 : (Cond.code yX9_tape cX9_tape 5 (some .int)) ∈ GG := GG_i 936 (rfl) (by decide +kernel)
set_option maxRecDepth 100000 in
theorem k_937 : (Cond.methodLink RL 133 yX9_item) ∈ GG := GG_i 937 (rfl) (by decide +kernel)
set_option maxRecDepth 100000 in
theorem k_938 : (Cond.instanceMethod yX9_item) ∈ GG := GG_i 938 (rfl) (by decide +kernel)
set_option maxRecDepth 100000 in
theorem k_939 : (Cond.selects RX9 yX9_item yX9_item) ∈ GG := GG_i 939 (rfl) (by decide +kernel)
set_option maxRecDepth 100000 in
theorem k_940 : (Cond.code yX9_item cX9_item 6 (some .int)) ∈ GG := GG_i 940 (rfl) (by decide +kernel)
set_option maxRecDepth 100000 in
theorem k_941 : (Cond.methodLink RL 137 yX9_peek) ∈ GG := GG_i 941 (rfl) (by decide +kernel)
set_option maxRecDepth 100000 in
theorem k_942 : (Cond.instanceMethod yX9_peek) ∈ GG := GG_i 942 (rfl) (by decide +kernel)
set_option maxRecDepth 100000 in
theorem k_943 : (Cond.selects RX9 yX9_peek yX9_peek) ∈ GG := GG_i 943 (rfl) (by decide +kernel)
set_option maxRecDepth 100000 in
theorem k_944 : (Cond.code yX9_peek cX9_peek 3 (some .long)) ∈ GG := GG_i 944 (rfl) (by decide +kernel)
set_option maxRecDepth 100000 in
theorem k_945 : (Cond.methodLink RL 142 yX9_shift) ∈ GG := GG_i 945 (rfl) (by decide +kernel)
set_option maxRecDepth 100000 in
theorem k_946 : (Cond.instanceMethod yX9_shift) ∈ GG := GG_i 946 (rfl) (by decide +kernel)
set_option maxRecDepth 100000 in
theorem k_947 : (Cond.selects RX9 yX9_shift yX9_shift) ∈ GG := GG_i 947 (rfl) (by decide +kernel)
set_option maxRecDepth 100000 in
theorem k_948 : (Cond.code yX9_shift cX9_shift 7 (some .int)) ∈ GG := GG_i 948 (rfl) (by decide +kernel)
set_option maxRecDepth 100000 in
theorem k_949 : (Cond.constantLong RL 127 (4294967295)) ∈ GG := GG_i 949 (rfl) (by decide +kernel)
set_option maxRecDepth 100000 in
theorem k_950 : (Cond.arrayClass .char) ∈ GG := GG_i 950 (rfl) (by decide +kernel)
end
section
theorem GG_self {c : Cond} (hc : c ∈ GG) : GoodIn GG (c :: GG) := by
  intro w hw
  have h : w ∈ GG := (List.mem_cons.mp hw).elim (fun e => by rw [e]; exact hc) id
  exact ⟨h, good_of_word (GG_good h)⟩
/-- the tables: static arrays of the class that nobody writes -/
def tbLeast : Nat → Int32 := fun j => ([-300, -400, 1, 0, -20, 0, 1] : List Int32).getD j 0
def tbMost : Nat → Int32 := fun j => ([300, 400, 32, 9, 20, 60, 99] : List Int32).getD j 0
def tbAhead : Nat → Int32 := fun j => ([0, 1, 5, 9, 10, 7] : List Int32).getD j 0
def tbPLeast : Nat → Int32 := fun j => ([-99, -99, -20, 0] : List Int32).getD j 0
def tbPMost : Nat → Int32 := fun j => ([99, 99, 20, 9] : List Int32).getD j 0
def tbLetters : Nat → Int32 := fun j => ([97, 118, 115, 103, 111, 102, 108, 119, 116] : List Int32).getD j 0
def jT (t : Nat) (nm d : String) (ty : FieldType) (N : Nat) (f : Nat → Int32) (A : Nat → Prop) (U : State) (H : Heap) : Prop := va_Z RX8 nm d (.ref t) A U H ∧ va_T ty t N (fun j => .int (f j)) A U H
/-- links of nest mates -/
def jNs : List Cond := [Cond.methodLinkNest RX8 11 yX7_init "WatchBeats", Cond.methodLinkNest RX0 23 yX2_init "WatchBeats", Cond.methodLinkNest RX7 20 yX6_init "WatchBeats", Cond.methodLinkNest RX7 27 yX3_init "WatchBeats", Cond.methodLinkNest RX8 32 yX1_init "WatchBeats", Cond.methodLinkNest RX8 39 yX5_init "WatchBeats", Cond.methodLinkNest RX8 50 yX4_init "WatchBeats", Cond.fieldLinkNest "WatchBeats$Text" 43 "WatchBeats" "LETTERS" "[C" "WatchBeats", Cond.methodLinkNest RX5 47 yX8_isBetween "WatchBeats"]
def jZ (tt : Nat → Nat) (A : Nat → Prop) (U : State) (H : Heap) : Prop :=
  jT (tt 0) "LEAST" "[I" .int 7 tbLeast A U H ∧ jT (tt 1) "MOST" "[I" .int 7 tbMost A U H ∧ jT (tt 2) "TOLD_AHEAD" "[I" .int 6 tbAhead A U H ∧ jT (tt 3) "PUSH_LEAST" "[I" .int 4 tbPLeast A U H ∧ jT (tt 4) "PUSH_MOST" "[I" .int 4 tbPMost A U H ∧ jT (tt 5) "LETTERS" "[C" .char 9 tbLetters A U H ∧ (∀ w ∈ jNs, va_Nw w U) ∧ va_AO "WatchBeats$Tape" U
theorem jT.to {t : Nat} {nm d : String} {ty : FieldType} {N : Nat} {f : Nat → Int32} {A B : Nat → Prop} {s U : State} {H H1 : Heap} (hvm : s.vm.Alike U.vm) (hq : ∀ a : Nat, a < H.size → ¬ A a → H1[a]? = H[a]?) (hB : ∀ q, B q → A q) (h : jT t nm d ty N f A s H) : jT t nm d ty N f B U H1 :=
  ⟨((h.1.kept hq).narrow hB).moved hvm, ((h.2.kept hq).narrow hB).moved hvm⟩
theorem jNs_warm {s U : State} (hW : s.WarmedH U.vm) (h : ∀ w ∈ jNs, va_Nw w s) : ∀ w ∈ jNs, va_Nw w U := by
  intro w hw
  have h0 := h w hw
  simp only [jNs, List.mem_cons, List.not_mem_nil, or_false] at hw
  rcases hw with rfl | rfl | rfl | rfl | rfl | rfl | rfl | rfl | rfl <;> first | exact va_Nw.warmM hW h0 | exact va_Nw.warmF hW h0
theorem jNs_same {s U : State} (hv : s.vm = U.vm) (h : ∀ w ∈ jNs, va_Nw w s) : ∀ w ∈ jNs, va_Nw w U := by
  intro w hw
  have h0 := h w hw
  simp only [jNs, List.mem_cons, List.not_mem_nil, or_false] at hw
  rcases hw with rfl | rfl | rfl | rfl | rfl | rfl | rfl | rfl | rfl <;> exact va_Nw.same rfl hv h0
theorem jZ.to {tt : Nat → Nat} {A B : Nat → Prop} {s U : State} {H H1 : Heap} (hW : s.WarmedH U.vm) (hq : ∀ a : Nat, a < H.size → ¬ A a → H1[a]? = H[a]?) (hB : ∀ q, B q → A q) (h : jZ tt A s H) : jZ tt B U H1 := by
  obtain ⟨h0, h1, h2, h3, h4, h5, h6, h7⟩ := h
  have hv := hW.alike
  exact ⟨h0.to hv hq hB, h1.to hv hq hB, h2.to hv hq hB, h3.to hv hq hB, h4.to hv hq hB, h5.to hv hq hB, jNs_warm hW h6, h7.moved hv⟩
theorem jZ.blind {tt : Nat → Nat} {A : Nat → Prop} {U U2 : State} {H : Heap} (hv : U.vm = U2.vm) (h : jZ tt A U H) : jZ tt A U2 H := by
  obtain ⟨h0, h1, h2, h3, h4, h5, h6, h7⟩ := h
  have ha : U.vm.Alike U2.vm := by rw [hv]; exact Vm.Alike.refl _
  have hk : ∀ a : Nat, a < H.size → ¬ A a → H[a]? = H[a]? := fun _ _ _ => rfl
  have hB : ∀ q, A q → A q := fun _ h => h
  exact ⟨h0.to ha hk hB, h1.to ha hk hB, h2.to ha hk hB, h3.to ha hk hB, h4.to ha hk hB, h5.to ha hk hB, jNs_same hv h6, h7.moved ha⟩
/-- an index within, as a program asks it -/
def inb (i : Int32) (N : Nat) : Bool := !decide (i < 0) && decide (i.toNatClampNeg < N)
theorem inb_in {i : Int32} {N : Nat} (h : inb i N = true) : vp_in i N := by
  simp only [inb, Bool.and_eq_true, Bool.not_eq_true', decide_eq_false_iff_not, decide_eq_true_eq] at h
  intro q
  rcases q with q | q
  · exact h.1 q
  · omega
theorem in_inb {i : Int32} {N : Nat} (h0 : ¬ i < 0) (h : i.toNatClampNeg < N) : inb i N = true := by
  simp [inb, h0, h]
/-- guards, names, binds of the pictures of methods -/
def gd {α : Type} (b : Bool) (x : Option α) : Option α := if b = true then x else none
theorem gd_some {α : Type} {b : Bool} {x : Option α} {r : α} (h : gd b x = some r) : b = true ∧ x = some r := by
  cases b with
  | true => exact ⟨rfl, h⟩
  | false => cases h
theorem gd_t {α : Type} {b : Bool} {x : Option α} (h : b = true) : gd b x = x := by rw [h]; rfl
def lt' {α β : Type} (v : α) (K : α → Option β) : Option β := K v
theorem lt_some {α β : Type} {v : α} {K : α → Option β} {r : β} (h : lt' v K = some r) : ∃ x, v = x ∧ K x = some r := ⟨v, rfl, h⟩
theorem lt_eq {α β : Type} (v : α) (K : α → Option β) : lt' v K = K v := rfl
theorem bd_some {α β : Type} {x : Option α} {K : α → Option β} {r : β} (h : x.bind K = some r) : ∃ o, x = some o ∧ K o = some r := by
  cases x with
  | none => cases h
  | some o => exact ⟨o, rfl, h⟩
def jC (p : Program) (s : State) (m : MethodId) (args : Array Value) (meth : Method) (c : Code) (cc : ByteArray) (own : String) (D : va_G) (tys : List (ClassId × FieldType)) (tt : Nat → Nat) (A : Nat → Prop) (n : Nat) : Prop :=
  p.tables.exec = Jvm.exec ∧ c.code = cc ∧ c.maxLocals = n ∧ s.vm.findClass own = some m.cls ∧ (∀ w ∈ GG, w.before args s = true) ∧ va_K D vwCl tys s ∧ (∀ q : Nat, s.heap.size ≤ q → A q) ∧ jZ tt A s s.heap ∧ meth.locks = false
def jW (p : Program) (l : Launch) (e : Env) (R : Room) (s : State) (m : MethodId) (args : Array Value) (below : List Frame) (meth : Method) (c : Code) (D : va_G) (A : Nat → Prop) (n : Nat) (Q : State → Prop) (cells slots : Nat) (pc : Nat) (lv : List (Nat × Value)) (st : List Value) (ws : va_W) : Prop :=
  ∀ (H : Heap) (locs : List Loc) (ls : Array Slot), va_P D vwCl ws H → va_D A ws → va_S A s.heap H locs → lv_has ls n lv → W p l e R s m args below meth c H locs cells slots Q (F0 m pc ls st)
def jQ (D : va_G) (o : Option Value) (ws' : va_W) (A : Nat → Prop) : Array Value → State → Outcome → State → Prop := fun _ st oc t => (oc = .returned o ∧ va_P D vwCl ws' t.heap) ∧ va_F A st t
def jPre (D : va_G) (tys : List (ClassId × FieldType)) (tt : Nat → Nat) (ws : va_W) (sz : Nat) : State → Prop := fun U => U.heap.size = sz ∧ va_P D vwCl ws U.heap ∧ va_K D vwCl tys U ∧ va_D (fun _ => True) ws ∧ jZ tt (va_A ws sz) U U.heap
/-- a method's contract: from the world ws it returns o and leaves the world ws', new cells none -/
def jM (l : Launch) (y : MethodName) (cw : Cond) (rm : Room) (D : va_G) (tys : List (ClassId × FieldType)) (tt : Nat → Nat) (av : List Value) (ws : va_W) (o : Option Value) (ws' : va_W) : Prop :=
  ∀ sz : Nat, Met l y (cw :: GG) rm (va_Pc av (jPre D tys tt ws sz)) (jQ D o ws' (va_A ws sz)) 0 0 (va_A ws sz)
theorem jPre.blind {D : va_G} {tys : List (ClassId × FieldType)} {tt : Nat → Nat} {ws : va_W} {sz : Nat} {av : List Value} : FrameBlind (va_Pc av (jPre D tys tt ws sz)) := fun a U g mk q => by
  obtain ⟨q0, q1, qP, qK, qD, qZ⟩ := q
  exact ⟨q0, q1, qP, va_K.moved (u := U) (U := U.calling g mk a) (Vm.Alike.refl U.vm) qK, qD, jZ.blind (U := U) (U2 := U.calling g mk a) rfl qZ⟩
set_option maxHeartbeats 4000000 in
theorem jM.of {l : Launch} {y : MethodName} {cc : ByteArray} {maxL : Nat} {ret : Option FieldType} {rm : Room} {D : va_G} {tys : List (ClassId × FieldType)} {tt : Nat → Nat} {av : List Value} {ws : va_W} {o : Option Value} {ws' : va_W} (hy : plainName y.cls = true) (hn : (lg_sl av).length ≤ maxL)
    (body : ∀ (p : Program) (e : Env) (s : State) (m : MethodId) (below : List Frame) (meth : Method) (c : Code) (A : Nat → Prop), jC p s m av.toArray meth c cc y.cls D tys tt A maxL → meth.sig.returnType = ret →
      jW p l e rm s m av.toArray below meth c D A maxL (MQ below (jQ D o ws' A) av.toArray s 0 0 A) 0 0 0 (lv_args 0 av) [] ws) : jM l y (.code y cc maxL ret) rm D tys tt av ws o ws' := by
  intro sz
  refine Met.ofW (cc := cc) (maxL := maxL) (ret := ret) hy rfl ?_
  intro p e s m args below meth c s₁ B hml hv
  obtain ⟨rfl, hsz, hP, hK, hD0, hZ⟩ := hv
  have hts := atoms_spec (ws := Cond.code y cc maxL ret :: GG) B.pre
  subst hsz
  have hD := hD0.self (sz := s.heap.size)
  rw [lg_entry_eq]
  have hl := lv_entry av hn
  exact body p e s m below meth c (va_A ws s.heap.size) ⟨B.exec, B.bytes, hml, findClass_of_methodNamed B.named, fun w h => hts w (List.mem_cons_of_mem _ h), hK, fun q h => Or.inr h, hZ, B.notSynchronized⟩ B.returns s.heap [] _ hP hD va_S.rf hl
section JROWS
variable {p : Program} {l : Launch} {e : Env} {R : Room} {s : State} {m : MethodId} {args : Array Value} {below : List Frame} {meth : Method} {c : Code} {cc : ByteArray} {own : String} {D : va_G} {tys : List (ClassId × FieldType)} {tt : Nat → Nat} {A : Nat → Prop} {n : Nat} {Q : State → Prop} {cells slots : Nat} {pc : Nat} {lv : List (Nat × Value)} {st : List Value} {ws : va_W}
theorem jC.hts (X : jC p s m args meth c cc own D tys tt A n) : ∀ w ∈ GG, w.before args s = true := X.2.2.2.2.1
theorem jC.ow (X : jC p s m args meth c cc own D tys tt A n) : s.vm.findClass own = some m.cls := X.2.2.2.1
theorem jC.K (X : jC p s m args meth c cc own D tys tt A n) : va_K D vwCl tys s := X.2.2.2.2.2.1
theorem jC.hA (X : jC p s m args meth c cc own D tys tt A n) : ∀ q : Nat, s.heap.size ≤ q → A q := X.2.2.2.2.2.2.1
theorem jC.Z (X : jC p s m args meth c cc own D tys tt A n) : jZ tt A s s.heap := X.2.2.2.2.2.2.2.1
theorem jC.lk (X : jC p s m args meth c cc own D tys tt A n) : meth.locks = false := X.2.2.2.2.2.2.2.2
/-- the goal's parts, named otherwise -/
theorem j_eq {pc2 : Nat} {lv2 : List (Nat × Value)} {st2 : List Value} {ws2 : va_W} (hst : st = st2) (hws : ws = ws2) (kk : jW p l e R s m args below meth c D A n Q cells slots (pc) lv (st2) ws2) : jW p l e R s m args below meth c D A n Q cells slots (pc) lv (st) ws := by
  subst hst; subst hws; exact kk
theorem j_sub {lv2 : List (Nat × Value)} (ks : List Nat) (hl : lv_pick lv ks = lv2) (kk : jW p l e R s m args below meth c D A n Q cells slots (pc) lv2 (st) ws) : jW p l e R s m args below meth c D A n Q cells slots (pc) lv (st) ws := fun H locs ls hP hD hS h => kk H locs ls hP hD hS (lv_sub h ks hl)
theorem j_iconst {k : Int} {v : Int32} (X : jC p s m args meth c cc own D tys tt A n) (hdg : decode cc pc = .ok (.iconst k, 1)) (hv : Int32.ofInt k = v) (kk : jW p l e R s m args below meth c D A n Q cells slots (pc + 1) lv (.int v :: st) ws) : jW p l e R s m args below meth c D A n Q cells slots (pc) lv (st) ws :=
  fun H locs ls hP hD hS h => lv_iconst X.1 X.2.1 hdg hv (kk H locs ls hP hD hS h)
theorem j_bipush {k : Int} {v : Int32} (X : jC p s m args meth c cc own D tys tt A n) (hdg : decode cc pc = .ok (.bipush k, 2)) (hv : (Int8.ofInt k).toInt32 = v) (kk : jW p l e R s m args below meth c D A n Q cells slots (pc + 2) lv (.int v :: st) ws) : jW p l e R s m args below meth c D A n Q cells slots (pc) lv (st) ws :=
  fun H locs ls hP hD hS h => lv_bipush X.1 X.2.1 hdg hv (kk H locs ls hP hD hS h)
theorem j_sipush {k : Int} {v : Int32} (X : jC p s m args meth c cc own D tys tt A n) (hdg : decode cc pc = .ok (.sipush k, 3)) (hv : (Int16.ofInt k).toInt32 = v) (kk : jW p l e R s m args below meth c D A n Q cells slots (pc + 3) lv (.int v :: st) ws) : jW p l e R s m args below meth c D A n Q cells slots (pc) lv (st) ws :=
  fun H locs ls hP hD hS h => lv_sipush X.1 X.2.1 hdg hv (kk H locs ls hP hD hS h)
theorem j_lconst {k : Fin 2} {v : Int64} (X : jC p s m args meth c cc own D tys tt A n) (hdg : decode cc pc = .ok (.lconst k, 1)) (hv : Int64.ofNat (k : Nat) = v) (kk : jW p l e R s m args below meth c D A n Q cells slots (pc + 1) lv (.long v :: st) ws) : jW p l e R s m args below meth c D A n Q cells slots (pc) lv (st) ws :=
  fun H locs ls hP hD hS h => lv_lconst X.1 X.2.1 hdg hv (kk H locs ls hP hD hS h)
theorem j_null (X : jC p s m args meth c cc own D tys tt A n) (hdg : decode cc pc = .ok (.aconst_null, 1)) (kk : jW p l e R s m args below meth c D A n Q cells slots (pc + 1) lv (.null :: st) ws) : jW p l e R s m args below meth c D A n Q cells slots (pc) lv (st) ws :=
  fun H locs ls hP hD hS h => lv_null X.1 X.2.1 hdg (kk H locs ls hP hD hS h)
theorem j_iload_n {k : Fin 4} {x : Int32} (X : jC p s m args meth c cc own D tys tt A n) (hdg : decode cc pc = .ok (.iload_n k, 1)) (q : Nat) (hl : lv[q]? = some ((k : Nat), .int x)) (kk : jW p l e R s m args below meth c D A n Q cells slots (pc + 1) lv (.int x :: st) ws) : jW p l e R s m args below meth c D A n Q cells slots (pc) lv (st) ws :=
  fun H locs ls hP hD hS h => lv_iload_n X.1 X.2.1 hdg rfl (lv_at h q hl) (kk H locs ls hP hD hS h)
theorem j_iload {i : Nat} {x : Int32} (X : jC p s m args meth c cc own D tys tt A n) (hdg : decode cc pc = .ok (.iload i, 2)) (q : Nat) (hl : lv[q]? = some (i, .int x)) (kk : jW p l e R s m args below meth c D A n Q cells slots (pc + 2) lv (.int x :: st) ws) : jW p l e R s m args below meth c D A n Q cells slots (pc) lv (st) ws :=
  fun H locs ls hP hD hS h => lv_iload X.1 X.2.1 hdg (lv_at h q hl) (kk H locs ls hP hD hS h)
theorem j_lload_n {k : Fin 4} {x : Int64} (X : jC p s m args meth c cc own D tys tt A n) (hdg : decode cc pc = .ok (.lload_n k, 1)) (q : Nat) (hl : lv[q]? = some ((k : Nat), .long x)) (kk : jW p l e R s m args below meth c D A n Q cells slots (pc + 1) lv (.long x :: st) ws) : jW p l e R s m args below meth c D A n Q cells slots (pc) lv (st) ws :=
  fun H locs ls hP hD hS h => lv_lload_n X.1 X.2.1 hdg rfl (lv_at h q hl) (kk H locs ls hP hD hS h)
theorem j_lload {i : Nat} {x : Int64} (X : jC p s m args meth c cc own D tys tt A n) (hdg : decode cc pc = .ok (.lload i, 2)) (q : Nat) (hl : lv[q]? = some (i, .long x)) (kk : jW p l e R s m args below meth c D A n Q cells slots (pc + 2) lv (.long x :: st) ws) : jW p l e R s m args below meth c D A n Q cells slots (pc) lv (st) ws :=
  fun H locs ls hP hD hS h => lv_lload X.1 X.2.1 hdg (lv_at h q hl) (kk H locs ls hP hD hS h)
theorem j_aload_n {k : Fin 4} {x : Nat} (X : jC p s m args meth c cc own D tys tt A n) (hdg : decode cc pc = .ok (.aload_n k, 1)) (q : Nat) (hl : lv[q]? = some ((k : Nat), .ref x)) (kk : jW p l e R s m args below meth c D A n Q cells slots (pc + 1) lv (.ref x :: st) ws) : jW p l e R s m args below meth c D A n Q cells slots (pc) lv (st) ws :=
  fun H locs ls hP hD hS h => lv_aload_n X.1 X.2.1 hdg rfl (lv_at h q hl) (kk H locs ls hP hD hS h)
theorem j_aload {i : Nat} {x : Nat} (X : jC p s m args meth c cc own D tys tt A n) (hdg : decode cc pc = .ok (.aload i, 2)) (q : Nat) (hl : lv[q]? = some (i, .ref x)) (kk : jW p l e R s m args below meth c D A n Q cells slots (pc + 2) lv (.ref x :: st) ws) : jW p l e R s m args below meth c D A n Q cells slots (pc) lv (st) ws :=
  fun H locs ls hP hD hS h => lv_aload X.1 X.2.1 hdg (lv_at h q hl) (kk H locs ls hP hD hS h)
theorem j_aload_nN {k : Fin 4} (X : jC p s m args meth c cc own D tys tt A n) (hdg : decode cc pc = .ok (.aload_n k, 1)) (q : Nat) (hl : lv[q]? = some ((k : Nat), .null)) (kk : jW p l e R s m args below meth c D A n Q cells slots (pc + 1) lv (.null :: st) ws) : jW p l e R s m args below meth c D A n Q cells slots (pc) lv (st) ws :=
  fun H locs ls hP hD hS h => lv_aload_nN X.1 X.2.1 hdg rfl (lv_at h q hl) (kk H locs ls hP hD hS h)
theorem j_aloadN {i : Nat} (X : jC p s m args meth c cc own D tys tt A n) (hdg : decode cc pc = .ok (.aload i, 2)) (q : Nat) (hl : lv[q]? = some (i, .null)) (kk : jW p l e R s m args below meth c D A n Q cells slots (pc + 2) lv (.null :: st) ws) : jW p l e R s m args below meth c D A n Q cells slots (pc) lv (st) ws :=
  fun H locs ls hP hD hS h => lv_aloadN X.1 X.2.1 hdg (lv_at h q hl) (kk H locs ls hP hD hS h)
theorem j_istore_n {k : Fin 4} {x : Int32} {lv2 : List (Nat × Value)} (X : jC p s m args meth c cc own D tys tt A n) (hdg : decode cc pc = .ok (.istore_n k, 1)) (hn : (k : Nat) < n) (hl : ((k : Nat), Value.int x) :: lv.filter (fun q => !(q.1 == (k : Nat)) && !(q.1 + 1 == (k : Nat) && q.2.category == 2)) = lv2) (kk : jW p l e R s m args below meth c D A n Q cells slots (pc + 1) lv2 (st) ws) : jW p l e R s m args below meth c D A n Q cells slots (pc) lv (.int x :: st) ws :=
  fun H locs ls hP hD hS h => lv_istore_n X.1 X.2.1 hdg rfl h hn hl (fun ls2 h2 => kk H locs ls2 hP hD hS h2)
theorem j_istore {i : Nat} {x : Int32} {lv2 : List (Nat × Value)} (X : jC p s m args meth c cc own D tys tt A n) (hdg : decode cc pc = .ok (.istore i, 2)) (hn : i < n) (hl : (i, Value.int x) :: lv.filter (fun q => !(q.1 == i) && !(q.1 + 1 == i && q.2.category == 2)) = lv2) (kk : jW p l e R s m args below meth c D A n Q cells slots (pc + 2) lv2 (st) ws) : jW p l e R s m args below meth c D A n Q cells slots (pc) lv (.int x :: st) ws :=
  fun H locs ls hP hD hS h => lv_istore X.1 X.2.1 hdg h hn hl (fun ls2 h2 => kk H locs ls2 hP hD hS h2)
theorem j_astore_n {k : Fin 4} {x : Nat} {lv2 : List (Nat × Value)} (X : jC p s m args meth c cc own D tys tt A n) (hdg : decode cc pc = .ok (.astore_n k, 1)) (hn : (k : Nat) < n) (hl : ((k : Nat), Value.ref x) :: lv.filter (fun q => !(q.1 == (k : Nat)) && !(q.1 + 1 == (k : Nat) && q.2.category == 2)) = lv2) (kk : jW p l e R s m args below meth c D A n Q cells slots (pc + 1) lv2 (st) ws) : jW p l e R s m args below meth c D A n Q cells slots (pc) lv (.ref x :: st) ws :=
  fun H locs ls hP hD hS h => lv_astore_n X.1 X.2.1 hdg rfl h hn hl (fun ls2 h2 => kk H locs ls2 hP hD hS h2)
theorem j_astore {i : Nat} {x : Nat} {lv2 : List (Nat × Value)} (X : jC p s m args meth c cc own D tys tt A n) (hdg : decode cc pc = .ok (.astore i, 2)) (hn : i < n) (hl : (i, Value.ref x) :: lv.filter (fun q => !(q.1 == i) && !(q.1 + 1 == i && q.2.category == 2)) = lv2) (kk : jW p l e R s m args below meth c D A n Q cells slots (pc + 2) lv2 (st) ws) : jW p l e R s m args below meth c D A n Q cells slots (pc) lv (.ref x :: st) ws :=
  fun H locs ls hP hD hS h => lv_astore X.1 X.2.1 hdg h hn hl (fun ls2 h2 => kk H locs ls2 hP hD hS h2)
theorem j_astore_nN {k : Fin 4} {lv2 : List (Nat × Value)} (X : jC p s m args meth c cc own D tys tt A n) (hdg : decode cc pc = .ok (.astore_n k, 1)) (hn : (k : Nat) < n) (hl : ((k : Nat), Value.null) :: lv.filter (fun q => !(q.1 == (k : Nat)) && !(q.1 + 1 == (k : Nat) && q.2.category == 2)) = lv2) (kk : jW p l e R s m args below meth c D A n Q cells slots (pc + 1) lv2 (st) ws) : jW p l e R s m args below meth c D A n Q cells slots (pc) lv (.null :: st) ws :=
  fun H locs ls hP hD hS h => lv_astore_nN X.1 X.2.1 hdg rfl h hn hl (fun ls2 h2 => kk H locs ls2 hP hD hS h2)
theorem j_astoreN {i : Nat} {lv2 : List (Nat × Value)} (X : jC p s m args meth c cc own D tys tt A n) (hdg : decode cc pc = .ok (.astore i, 2)) (hn : i < n) (hl : (i, Value.null) :: lv.filter (fun q => !(q.1 == i) && !(q.1 + 1 == i && q.2.category == 2)) = lv2) (kk : jW p l e R s m args below meth c D A n Q cells slots (pc + 2) lv2 (st) ws) : jW p l e R s m args below meth c D A n Q cells slots (pc) lv (.null :: st) ws :=
  fun H locs ls hP hD hS h => lv_astoreN X.1 X.2.1 hdg h hn hl (fun ls2 h2 => kk H locs ls2 hP hD hS h2)
theorem j_lstore_n {k : Fin 4} {x : Int64} {lv2 : List (Nat × Value)} (X : jC p s m args meth c cc own D tys tt A n) (hdg : decode cc pc = .ok (.lstore_n k, 1)) (hn : (k : Nat) + 1 < n) (hl : ((k : Nat), Value.long x) :: lv.filter (fun q => !(q.1 == (k : Nat)) && (!(q.1 == (k : Nat) + 1) && !(q.1 + 1 == (k : Nat) && q.2.category == 2))) = lv2) (kk : jW p l e R s m args below meth c D A n Q cells slots (pc + 1) lv2 (st) ws) : jW p l e R s m args below meth c D A n Q cells slots (pc) lv (.long x :: st) ws :=
  fun H locs ls hP hD hS h => lv_lstore_n X.1 X.2.1 hdg rfl h hn hl (fun ls2 h2 => kk H locs ls2 hP hD hS h2)
theorem j_lstore {i : Nat} {x : Int64} {lv2 : List (Nat × Value)} (X : jC p s m args meth c cc own D tys tt A n) (hdg : decode cc pc = .ok (.lstore i, 2)) (hn : i + 1 < n) (hl : (i, Value.long x) :: lv.filter (fun q => !(q.1 == i) && (!(q.1 == i + 1) && !(q.1 + 1 == i && q.2.category == 2))) = lv2) (kk : jW p l e R s m args below meth c D A n Q cells slots (pc + 2) lv2 (st) ws) : jW p l e R s m args below meth c D A n Q cells slots (pc) lv (.long x :: st) ws :=
  fun H locs ls hP hD hS h => lv_lstore X.1 X.2.1 hdg h hn hl (fun ls2 h2 => kk H locs ls2 hP hD hS h2)
theorem j_iinc {i k : Nat} {d : Int} {x v : Int32} {lv2 : List (Nat × Value)} (X : jC p s m args meth c cc own D tys tt A n) (hdg : decode cc pc = .ok (.iinc i d, 3)) (hk : lv[k]? = some (i, .int x)) (hv : x + Int32.ofInt d = v) (hn : i < n) (hl : (i, Value.int v) :: lv.filter (fun q => !(q.1 == i) && !(q.1 + 1 == i && q.2.category == 2)) = lv2) (kk : jW p l e R s m args below meth c D A n Q cells slots (pc + 3) lv2 (st) ws) : jW p l e R s m args below meth c D A n Q cells slots (pc) lv (st) ws :=
  fun H locs ls hP hD hS h => lv_iinc X.1 X.2.1 hdg h hk hv hn hl (fun ls2 h2 => kk H locs ls2 hP hD hS h2)
theorem j_iadd {x y : Int32} (X : jC p s m args meth c cc own D tys tt A n) (hdg : decode cc pc = .ok (.iadd, 1)) (kk : jW p l e R s m args below meth c D A n Q cells slots (pc + 1) lv (.int (x + y) :: st) ws) : jW p l e R s m args below meth c D A n Q cells slots (pc) lv (.int y :: .int x :: st) ws :=
  fun H locs ls hP hD hS h => lv_iadd X.1 X.2.1 hdg (kk H locs ls hP hD hS h)
theorem j_isub {x y : Int32} (X : jC p s m args meth c cc own D tys tt A n) (hdg : decode cc pc = .ok (.isub, 1)) (kk : jW p l e R s m args below meth c D A n Q cells slots (pc + 1) lv (.int (x - y) :: st) ws) : jW p l e R s m args below meth c D A n Q cells slots (pc) lv (.int y :: .int x :: st) ws :=
  fun H locs ls hP hD hS h => lv_isub X.1 X.2.1 hdg (kk H locs ls hP hD hS h)
theorem j_imul {x y : Int32} (X : jC p s m args meth c cc own D tys tt A n) (hdg : decode cc pc = .ok (.imul, 1)) (kk : jW p l e R s m args below meth c D A n Q cells slots (pc + 1) lv (.int (x * y) :: st) ws) : jW p l e R s m args below meth c D A n Q cells slots (pc) lv (.int y :: .int x :: st) ws :=
  fun H locs ls hP hD hS h => lv_imul X.1 X.2.1 hdg (kk H locs ls hP hD hS h)
theorem j_iand {x y : Int32} (X : jC p s m args meth c cc own D tys tt A n) (hdg : decode cc pc = .ok (.iand, 1)) (kk : jW p l e R s m args below meth c D A n Q cells slots (pc + 1) lv (.int (x &&& y) :: st) ws) : jW p l e R s m args below meth c D A n Q cells slots (pc) lv (.int y :: .int x :: st) ws :=
  fun H locs ls hP hD hS h => lv_iand X.1 X.2.1 hdg (kk H locs ls hP hD hS h)
theorem j_ior {x y : Int32} (X : jC p s m args meth c cc own D tys tt A n) (hdg : decode cc pc = .ok (.ior, 1)) (kk : jW p l e R s m args below meth c D A n Q cells slots (pc + 1) lv (.int (x ||| y) :: st) ws) : jW p l e R s m args below meth c D A n Q cells slots (pc) lv (.int y :: .int x :: st) ws :=
  fun H locs ls hP hD hS h => lv_ior X.1 X.2.1 hdg (kk H locs ls hP hD hS h)
theorem j_ixor {x y : Int32} (X : jC p s m args meth c cc own D tys tt A n) (hdg : decode cc pc = .ok (.ixor, 1)) (kk : jW p l e R s m args below meth c D A n Q cells slots (pc + 1) lv (.int (x ^^^ y) :: st) ws) : jW p l e R s m args below meth c D A n Q cells slots (pc) lv (.int y :: .int x :: st) ws :=
  fun H locs ls hP hD hS h => lv_ixor X.1 X.2.1 hdg (kk H locs ls hP hD hS h)
theorem j_idiv {x y : Int32} (X : jC p s m args meth c cc own D tys tt A n) (hdg : decode cc pc = .ok (.idiv, 1)) (hne : ¬ y = 0) (kk : jW p l e R s m args below meth c D A n Q cells slots (pc + 1) lv (.int (x / y) :: st) ws) : jW p l e R s m args below meth c D A n Q cells slots (pc) lv (.int y :: .int x :: st) ws :=
  fun H locs ls hP hD hS h => lv_idiv X.1 X.2.1 hdg hne (kk H locs ls hP hD hS h)
theorem j_irem {x y : Int32} (X : jC p s m args meth c cc own D tys tt A n) (hdg : decode cc pc = .ok (.irem, 1)) (hne : ¬ y = 0) (kk : jW p l e R s m args below meth c D A n Q cells slots (pc + 1) lv (.int (x - x / y * y) :: st) ws) : jW p l e R s m args below meth c D A n Q cells slots (pc) lv (.int y :: .int x :: st) ws :=
  fun H locs ls hP hD hS h => lv_irem X.1 X.2.1 hdg hne (kk H locs ls hP hD hS h)
theorem j_ineg {x : Int32} (X : jC p s m args meth c cc own D tys tt A n) (hdg : decode cc pc = .ok (.ineg, 1)) (kk : jW p l e R s m args below meth c D A n Q cells slots (pc + 1) lv (.int (-x) :: st) ws) : jW p l e R s m args below meth c D A n Q cells slots (pc) lv (.int x :: st) ws :=
  fun H locs ls hP hD hS h => lv_ineg X.1 X.2.1 hdg (kk H locs ls hP hD hS h)
theorem j_ladd {x y : Int64} (X : jC p s m args meth c cc own D tys tt A n) (hdg : decode cc pc = .ok (.ladd, 1)) (kk : jW p l e R s m args below meth c D A n Q cells slots (pc + 1) lv (.long (x + y) :: st) ws) : jW p l e R s m args below meth c D A n Q cells slots (pc) lv (.long y :: .long x :: st) ws :=
  fun H locs ls hP hD hS h => lv_ladd X.1 X.2.1 hdg (kk H locs ls hP hD hS h)
theorem j_lsub {x y : Int64} (X : jC p s m args meth c cc own D tys tt A n) (hdg : decode cc pc = .ok (.lsub, 1)) (kk : jW p l e R s m args below meth c D A n Q cells slots (pc + 1) lv (.long (x - y) :: st) ws) : jW p l e R s m args below meth c D A n Q cells slots (pc) lv (.long y :: .long x :: st) ws :=
  fun H locs ls hP hD hS h => lv_lsub X.1 X.2.1 hdg (kk H locs ls hP hD hS h)
theorem j_lmul {x y : Int64} (X : jC p s m args meth c cc own D tys tt A n) (hdg : decode cc pc = .ok (.lmul, 1)) (kk : jW p l e R s m args below meth c D A n Q cells slots (pc + 1) lv (.long (x * y) :: st) ws) : jW p l e R s m args below meth c D A n Q cells slots (pc) lv (.long y :: .long x :: st) ws :=
  fun H locs ls hP hD hS h => lv_lmul X.1 X.2.1 hdg (kk H locs ls hP hD hS h)
theorem j_land {x y : Int64} (X : jC p s m args meth c cc own D tys tt A n) (hdg : decode cc pc = .ok (.land, 1)) (kk : jW p l e R s m args below meth c D A n Q cells slots (pc + 1) lv (.long (x &&& y) :: st) ws) : jW p l e R s m args below meth c D A n Q cells slots (pc) lv (.long y :: .long x :: st) ws :=
  fun H locs ls hP hD hS h => lv_land X.1 X.2.1 hdg (kk H locs ls hP hD hS h)
theorem j_lor {x y : Int64} (X : jC p s m args meth c cc own D tys tt A n) (hdg : decode cc pc = .ok (.lor, 1)) (kk : jW p l e R s m args below meth c D A n Q cells slots (pc + 1) lv (.long (x ||| y) :: st) ws) : jW p l e R s m args below meth c D A n Q cells slots (pc) lv (.long y :: .long x :: st) ws :=
  fun H locs ls hP hD hS h => lv_lor X.1 X.2.1 hdg (kk H locs ls hP hD hS h)
theorem j_ldiv {x y : Int64} (X : jC p s m args meth c cc own D tys tt A n) (hdg : decode cc pc = .ok (.ldiv, 1)) (hne : ¬ y = 0) (kk : jW p l e R s m args below meth c D A n Q cells slots (pc + 1) lv (.long (x / y) :: st) ws) : jW p l e R s m args below meth c D A n Q cells slots (pc) lv (.long y :: .long x :: st) ws :=
  fun H locs ls hP hD hS h => lv_ldiv X.1 X.2.1 hdg hne (kk H locs ls hP hD hS h)
theorem j_lrem {x y : Int64} (X : jC p s m args meth c cc own D tys tt A n) (hdg : decode cc pc = .ok (.lrem, 1)) (hne : ¬ y = 0) (kk : jW p l e R s m args below meth c D A n Q cells slots (pc + 1) lv (.long (x - x / y * y) :: st) ws) : jW p l e R s m args below meth c D A n Q cells slots (pc) lv (.long y :: .long x :: st) ws :=
  fun H locs ls hP hD hS h => lv_lrem X.1 X.2.1 hdg hne (kk H locs ls hP hD hS h)
theorem j_lshl {x : Int64} {y : Int32} (X : jC p s m args meth c cc own D tys tt A n) (hdg : decode cc pc = .ok (.lshl, 1)) (kk : jW p l e R s m args below meth c D A n Q cells slots (pc + 1) lv (.long (x <<< (y.toInt64 &&& 63)) :: st) ws) : jW p l e R s m args below meth c D A n Q cells slots (pc) lv (.int y :: .long x :: st) ws :=
  fun H locs ls hP hD hS h => lv_lshl X.1 X.2.1 hdg rfl (kk H locs ls hP hD hS h)
theorem j_i2l {x : Int32} (X : jC p s m args meth c cc own D tys tt A n) (hdg : decode cc pc = .ok (.i2l, 1)) (kk : jW p l e R s m args below meth c D A n Q cells slots (pc + 1) lv (.long x.toInt64 :: st) ws) : jW p l e R s m args below meth c D A n Q cells slots (pc) lv (.int x :: st) ws :=
  fun H locs ls hP hD hS h => lv_i2l X.1 X.2.1 hdg rfl (kk H locs ls hP hD hS h)
theorem j_l2i {x : Int64} (X : jC p s m args meth c cc own D tys tt A n) (hdg : decode cc pc = .ok (.l2i, 1)) (kk : jW p l e R s m args below meth c D A n Q cells slots (pc + 1) lv (.int x.toInt32 :: st) ws) : jW p l e R s m args below meth c D A n Q cells slots (pc) lv (.long x :: st) ws :=
  fun H locs ls hP hD hS h => lv_l2i X.1 X.2.1 hdg rfl (kk H locs ls hP hD hS h)
theorem j_i2b {x : Int32} (X : jC p s m args meth c cc own D tys tt A n) (hdg : decode cc pc = .ok (.i2b, 1)) (kk : jW p l e R s m args below meth c D A n Q cells slots (pc + 1) lv (.int x.toInt8.toInt32 :: st) ws) : jW p l e R s m args below meth c D A n Q cells slots (pc) lv (.int x :: st) ws :=
  fun H locs ls hP hD hS h => lv_i2b X.1 X.2.1 hdg rfl (kk H locs ls hP hD hS h)
theorem j_i2s {x : Int32} (X : jC p s m args meth c cc own D tys tt A n) (hdg : decode cc pc = .ok (.i2s, 1)) (kk : jW p l e R s m args below meth c D A n Q cells slots (pc + 1) lv (.int x.toInt16.toInt32 :: st) ws) : jW p l e R s m args below meth c D A n Q cells slots (pc) lv (.int x :: st) ws :=
  fun H locs ls hP hD hS h => lv_i2s X.1 X.2.1 hdg rfl (kk H locs ls hP hD hS h)
theorem j_lcmp {x y : Int64} (X : jC p s m args meth c cc own D tys tt A n) (hdg : decode cc pc = .ok (.lcmp, 1)) (kk : jW p l e R s m args below meth c D A n Q cells slots (pc + 1) lv (.int (lg_cmp x y) :: st) ws) : jW p l e R s m args below meth c D A n Q cells slots (pc) lv (.long y :: .long x :: st) ws :=
  fun H locs ls hP hD hS h => W.lcmp X.1 X.2.1 hdg (kk H locs ls hP hD hS h)
theorem j_dup {va : Value} (X : jC p s m args meth c cc own D tys tt A n) (hdg : decode cc pc = .ok (.dup, 1)) (h1 : va.category = 1) (kk : jW p l e R s m args below meth c D A n Q cells slots (pc + 1) lv (va :: va :: st) ws) : jW p l e R s m args below meth c D A n Q cells slots (pc) lv (va :: st) ws :=
  fun H locs ls hP hD hS h => lv_dup X.1 X.2.1 hdg h1 (kk H locs ls hP hD hS h)
theorem j_pop {va : Value} (X : jC p s m args meth c cc own D tys tt A n) (hdg : decode cc pc = .ok (.pop, 1)) (h1 : va.category = 1) (kk : jW p l e R s m args below meth c D A n Q cells slots (pc + 1) lv (st) ws) : jW p l e R s m args below meth c D A n Q cells slots (pc) lv (va :: st) ws :=
  fun H locs ls hP hD hS h => lv_pop X.1 X.2.1 hdg h1 (kk H locs ls hP hD hS h)
theorem j_dup_x1 {va vb : Value} (X : jC p s m args meth c cc own D tys tt A n) (hdg : decode cc pc = .ok (.dup_x1, 1)) (h1 : va.category = 1) (h2 : vb.category = 1) (kk : jW p l e R s m args below meth c D A n Q cells slots (pc + 1) lv (va :: vb :: va :: st) ws) : jW p l e R s m args below meth c D A n Q cells slots (pc) lv (va :: vb :: st) ws :=
  fun H locs ls hP hD hS h => lv_dup_x1 X.1 X.2.1 hdg h1 h2 (kk H locs ls hP hD hS h)
theorem j_dup_x2 {va vb vd : Value} (X : jC p s m args meth c cc own D tys tt A n) (hdg : decode cc pc = .ok (.dup_x2, 1)) (h1 : va.category = 1) (h2 : vb.category = 1) (h3 : vd.category = 1) (kk : jW p l e R s m args below meth c D A n Q cells slots (pc + 1) lv (va :: vb :: vd :: va :: st) ws) : jW p l e R s m args below meth c D A n Q cells slots (pc) lv (va :: vb :: vd :: st) ws :=
  fun H locs ls hP hD hS h => lv_dup_x2 X.1 X.2.1 hdg h1 h2 h3 (kk H locs ls hP hD hS h)
theorem j_dup2_11 {va vb : Value} (X : jC p s m args meth c cc own D tys tt A n) (hdg : decode cc pc = .ok (.dup2, 1)) (h1 : va.category = 1) (h2 : vb.category = 1) (kk : jW p l e R s m args below meth c D A n Q cells slots (pc + 1) lv (va :: vb :: va :: vb :: st) ws) : jW p l e R s m args below meth c D A n Q cells slots (pc) lv (va :: vb :: st) ws :=
  fun H locs ls hP hD hS h => lv_dup2_11 X.1 X.2.1 hdg h1 h2 (kk H locs ls hP hD hS h)
theorem j_dup2_2 {va : Value} (X : jC p s m args meth c cc own D tys tt A n) (hdg : decode cc pc = .ok (.dup2, 1)) (h1 : va.category = 2) (kk : jW p l e R s m args below meth c D A n Q cells slots (pc + 1) lv (va :: va :: st) ws) : jW p l e R s m args below meth c D A n Q cells slots (pc) lv (va :: st) ws :=
  fun H locs ls hP hD hS h => lv_dup2_2 X.1 X.2.1 hdg h1 (kk H locs ls hP hD hS h)
theorem j_pop2_2 {va : Value} (X : jC p s m args meth c cc own D tys tt A n) (hdg : decode cc pc = .ok (.pop2, 1)) (h1 : va.category = 2) (kk : jW p l e R s m args below meth c D A n Q cells slots (pc + 1) lv (st) ws) : jW p l e R s m args below meth c D A n Q cells slots (pc) lv (va :: st) ws :=
  fun H locs ls hP hD hS h => lv_pop2_2 X.1 X.2.1 hdg h1 (kk H locs ls hP hD hS h)
theorem j_pop2_11 {va vb : Value} (X : jC p s m args meth c cc own D tys tt A n) (hdg : decode cc pc = .ok (.pop2, 1)) (h1 : va.category = 1) (h2 : vb.category = 1) (kk : jW p l e R s m args below meth c D A n Q cells slots (pc + 1) lv (st) ws) : jW p l e R s m args below meth c D A n Q cells slots (pc) lv (va :: vb :: st) ws :=
  fun H locs ls hP hD hS h => lv_pop2_11 X.1 X.2.1 hdg h1 h2 (kk H locs ls hP hD hS h)
theorem j_if_eq {x : Int32} {off : Int} {tgt : Nat} (X : jC p s m args meth c cc own D tys tt A n) (hdg : decode cc pc = .ok (.ifCond .eq off, 3)) (ht : (pc : Int) + off = (tgt : Int)) (kt : x = 0 → jW p l e R s m args below meth c D A n Q cells slots (tgt) lv (st) ws) (kf : ¬ x = 0 → jW p l e R s m args below meth c D A n Q cells slots (pc + 3) lv (st) ws) : jW p l e R s m args below meth c D A n Q cells slots (pc) lv (.int x :: st) ws :=
  fun H locs ls hP hD hS h => lv_if_eq X.1 X.2.1 hdg ht (fun hc => kt hc H locs ls hP hD hS h) (fun hc => kf hc H locs ls hP hD hS h)
theorem j_icmp_eq {x y : Int32} {off : Int} {tgt : Nat} (X : jC p s m args meth c cc own D tys tt A n) (hdg : decode cc pc = .ok (.if_icmp .eq off, 3)) (ht : (pc : Int) + off = (tgt : Int)) (kt : x = y → jW p l e R s m args below meth c D A n Q cells slots (tgt) lv (st) ws) (kf : ¬ x = y → jW p l e R s m args below meth c D A n Q cells slots (pc + 3) lv (st) ws) : jW p l e R s m args below meth c D A n Q cells slots (pc) lv (.int y :: .int x :: st) ws :=
  fun H locs ls hP hD hS h => lv_icmp_eq X.1 X.2.1 hdg ht (fun hc => kt hc H locs ls hP hD hS h) (fun hc => kf hc H locs ls hP hD hS h)
theorem j_if_ne {x : Int32} {off : Int} {tgt : Nat} (X : jC p s m args meth c cc own D tys tt A n) (hdg : decode cc pc = .ok (.ifCond .ne off, 3)) (ht : (pc : Int) + off = (tgt : Int)) (kt : ¬ x = 0 → jW p l e R s m args below meth c D A n Q cells slots (tgt) lv (st) ws) (kf : x = 0 → jW p l e R s m args below meth c D A n Q cells slots (pc + 3) lv (st) ws) : jW p l e R s m args below meth c D A n Q cells slots (pc) lv (.int x :: st) ws :=
  fun H locs ls hP hD hS h => lv_if_ne X.1 X.2.1 hdg ht (fun hc => kt hc H locs ls hP hD hS h) (fun hc => kf hc H locs ls hP hD hS h)
theorem j_icmp_ne {x y : Int32} {off : Int} {tgt : Nat} (X : jC p s m args meth c cc own D tys tt A n) (hdg : decode cc pc = .ok (.if_icmp .ne off, 3)) (ht : (pc : Int) + off = (tgt : Int)) (kt : ¬ x = y → jW p l e R s m args below meth c D A n Q cells slots (tgt) lv (st) ws) (kf : x = y → jW p l e R s m args below meth c D A n Q cells slots (pc + 3) lv (st) ws) : jW p l e R s m args below meth c D A n Q cells slots (pc) lv (.int y :: .int x :: st) ws :=
  fun H locs ls hP hD hS h => lv_icmp_ne X.1 X.2.1 hdg ht (fun hc => kt hc H locs ls hP hD hS h) (fun hc => kf hc H locs ls hP hD hS h)
theorem j_if_lt {x : Int32} {off : Int} {tgt : Nat} (X : jC p s m args meth c cc own D tys tt A n) (hdg : decode cc pc = .ok (.ifCond .lt off, 3)) (ht : (pc : Int) + off = (tgt : Int)) (kt : x < 0 → jW p l e R s m args below meth c D A n Q cells slots (tgt) lv (st) ws) (kf : ¬ x < 0 → jW p l e R s m args below meth c D A n Q cells slots (pc + 3) lv (st) ws) : jW p l e R s m args below meth c D A n Q cells slots (pc) lv (.int x :: st) ws :=
  fun H locs ls hP hD hS h => lv_if_lt X.1 X.2.1 hdg ht (fun hc => kt hc H locs ls hP hD hS h) (fun hc => kf hc H locs ls hP hD hS h)
theorem j_icmp_lt {x y : Int32} {off : Int} {tgt : Nat} (X : jC p s m args meth c cc own D tys tt A n) (hdg : decode cc pc = .ok (.if_icmp .lt off, 3)) (ht : (pc : Int) + off = (tgt : Int)) (kt : x < y → jW p l e R s m args below meth c D A n Q cells slots (tgt) lv (st) ws) (kf : ¬ x < y → jW p l e R s m args below meth c D A n Q cells slots (pc + 3) lv (st) ws) : jW p l e R s m args below meth c D A n Q cells slots (pc) lv (.int y :: .int x :: st) ws :=
  fun H locs ls hP hD hS h => lv_icmp_lt X.1 X.2.1 hdg ht (fun hc => kt hc H locs ls hP hD hS h) (fun hc => kf hc H locs ls hP hD hS h)
theorem j_if_ge {x : Int32} {off : Int} {tgt : Nat} (X : jC p s m args meth c cc own D tys tt A n) (hdg : decode cc pc = .ok (.ifCond .ge off, 3)) (ht : (pc : Int) + off = (tgt : Int)) (kt : 0 ≤ x → jW p l e R s m args below meth c D A n Q cells slots (tgt) lv (st) ws) (kf : ¬ 0 ≤ x → jW p l e R s m args below meth c D A n Q cells slots (pc + 3) lv (st) ws) : jW p l e R s m args below meth c D A n Q cells slots (pc) lv (.int x :: st) ws :=
  fun H locs ls hP hD hS h => lv_if_ge X.1 X.2.1 hdg ht (fun hc => kt hc H locs ls hP hD hS h) (fun hc => kf hc H locs ls hP hD hS h)
theorem j_icmp_ge {x y : Int32} {off : Int} {tgt : Nat} (X : jC p s m args meth c cc own D tys tt A n) (hdg : decode cc pc = .ok (.if_icmp .ge off, 3)) (ht : (pc : Int) + off = (tgt : Int)) (kt : y ≤ x → jW p l e R s m args below meth c D A n Q cells slots (tgt) lv (st) ws) (kf : ¬ y ≤ x → jW p l e R s m args below meth c D A n Q cells slots (pc + 3) lv (st) ws) : jW p l e R s m args below meth c D A n Q cells slots (pc) lv (.int y :: .int x :: st) ws :=
  fun H locs ls hP hD hS h => lv_icmp_ge X.1 X.2.1 hdg ht (fun hc => kt hc H locs ls hP hD hS h) (fun hc => kf hc H locs ls hP hD hS h)
theorem j_if_gt {x : Int32} {off : Int} {tgt : Nat} (X : jC p s m args meth c cc own D tys tt A n) (hdg : decode cc pc = .ok (.ifCond .gt off, 3)) (ht : (pc : Int) + off = (tgt : Int)) (kt : 0 < x → jW p l e R s m args below meth c D A n Q cells slots (tgt) lv (st) ws) (kf : ¬ 0 < x → jW p l e R s m args below meth c D A n Q cells slots (pc + 3) lv (st) ws) : jW p l e R s m args below meth c D A n Q cells slots (pc) lv (.int x :: st) ws :=
  fun H locs ls hP hD hS h => lv_if_gt X.1 X.2.1 hdg ht (fun hc => kt hc H locs ls hP hD hS h) (fun hc => kf hc H locs ls hP hD hS h)
theorem j_icmp_gt {x y : Int32} {off : Int} {tgt : Nat} (X : jC p s m args meth c cc own D tys tt A n) (hdg : decode cc pc = .ok (.if_icmp .gt off, 3)) (ht : (pc : Int) + off = (tgt : Int)) (kt : y < x → jW p l e R s m args below meth c D A n Q cells slots (tgt) lv (st) ws) (kf : ¬ y < x → jW p l e R s m args below meth c D A n Q cells slots (pc + 3) lv (st) ws) : jW p l e R s m args below meth c D A n Q cells slots (pc) lv (.int y :: .int x :: st) ws :=
  fun H locs ls hP hD hS h => lv_icmp_gt X.1 X.2.1 hdg ht (fun hc => kt hc H locs ls hP hD hS h) (fun hc => kf hc H locs ls hP hD hS h)
theorem j_if_le {x : Int32} {off : Int} {tgt : Nat} (X : jC p s m args meth c cc own D tys tt A n) (hdg : decode cc pc = .ok (.ifCond .le off, 3)) (ht : (pc : Int) + off = (tgt : Int)) (kt : x ≤ 0 → jW p l e R s m args below meth c D A n Q cells slots (tgt) lv (st) ws) (kf : ¬ x ≤ 0 → jW p l e R s m args below meth c D A n Q cells slots (pc + 3) lv (st) ws) : jW p l e R s m args below meth c D A n Q cells slots (pc) lv (.int x :: st) ws :=
  fun H locs ls hP hD hS h => lv_if_le X.1 X.2.1 hdg ht (fun hc => kt hc H locs ls hP hD hS h) (fun hc => kf hc H locs ls hP hD hS h)
theorem j_icmp_le {x y : Int32} {off : Int} {tgt : Nat} (X : jC p s m args meth c cc own D tys tt A n) (hdg : decode cc pc = .ok (.if_icmp .le off, 3)) (ht : (pc : Int) + off = (tgt : Int)) (kt : x ≤ y → jW p l e R s m args below meth c D A n Q cells slots (tgt) lv (st) ws) (kf : ¬ x ≤ y → jW p l e R s m args below meth c D A n Q cells slots (pc + 3) lv (st) ws) : jW p l e R s m args below meth c D A n Q cells slots (pc) lv (.int y :: .int x :: st) ws :=
  fun H locs ls hP hD hS h => lv_icmp_le X.1 X.2.1 hdg ht (fun hc => kt hc H locs ls hP hD hS h) (fun hc => kf hc H locs ls hP hD hS h)
theorem j_goto {off : Int} {tgt : Nat} (X : jC p s m args meth c cc own D tys tt A n) (hdg : decode cc pc = .ok (.goto off, 3)) (ht : (pc : Int) + off = (tgt : Int)) (kk : jW p l e R s m args below meth c D A n Q cells slots (tgt) lv (st) ws) : jW p l e R s m args below meth c D A n Q cells slots (pc) lv (st) ws :=
  fun H locs ls hP hD hS h => lv_goto X.1 X.2.1 hdg ht (kk H locs ls hP hD hS h)
theorem j_ifnull {x : Nat} {off : Int} (X : jC p s m args meth c cc own D tys tt A n) (hdg : decode cc pc = .ok (.ifnull off, 3)) (kk : jW p l e R s m args below meth c D A n Q cells slots (pc + 3) lv (st) ws) : jW p l e R s m args below meth c D A n Q cells slots (pc) lv (.ref x :: st) ws :=
  fun H locs ls hP hD hS h => lv_ifnull X.1 X.2.1 hdg (kk H locs ls hP hD hS h)
theorem j_ifnullN {off : Int} {tgt : Nat} (X : jC p s m args meth c cc own D tys tt A n) (hdg : decode cc pc = .ok (.ifnull off, 3)) (ht : (pc : Int) + off = (tgt : Int)) (kk : jW p l e R s m args below meth c D A n Q cells slots (tgt) lv (st) ws) : jW p l e R s m args below meth c D A n Q cells slots (pc) lv (.null :: st) ws :=
  fun H locs ls hP hD hS h => lv_ifnullN X.1 X.2.1 hdg ht (kk H locs ls hP hD hS h)
theorem j_ifnonnull {x : Nat} {off : Int} {tgt : Nat} (X : jC p s m args meth c cc own D tys tt A n) (hdg : decode cc pc = .ok (.ifnonnull off, 3)) (ht : (pc : Int) + off = (tgt : Int)) (kk : jW p l e R s m args below meth c D A n Q cells slots (tgt) lv (st) ws) : jW p l e R s m args below meth c D A n Q cells slots (pc) lv (.ref x :: st) ws :=
  fun H locs ls hP hD hS h => lv_ifnonnull X.1 X.2.1 hdg ht (kk H locs ls hP hD hS h)
theorem j_ifnonnullN {off : Int} (X : jC p s m args meth c cc own D tys tt A n) (hdg : decode cc pc = .ok (.ifnonnull off, 3)) (kk : jW p l e R s m args below meth c D A n Q cells slots (pc + 3) lv (st) ws) : jW p l e R s m args below meth c D A n Q cells slots (pc) lv (.null :: st) ws :=
  fun H locs ls hP hD hS h => lv_ifnonnullN X.1 X.2.1 hdg (kk H locs ls hP hD hS h)
theorem j_tableIn {dflt lo hi : Int} {offs : Array Int} {len : Nat} {x : Int32} {off : Int} {tgt : Nat} (X : jC p s m args meth c cc own D tys tt A n) (hdg : decode cc pc = .ok (.tableswitch dflt lo hi offs, len)) (h1 : ¬ x.toInt < lo) (h2 : ¬ hi < x.toInt) (ho : offs[(x.toInt - lo).toNat]? = some off) (ht : (pc : Int) + off = (tgt : Int)) (kk : jW p l e R s m args below meth c D A n Q cells slots (tgt) lv (st) ws) : jW p l e R s m args below meth c D A n Q cells slots (pc) lv (.int x :: st) ws :=
  fun H locs ls hP hD hS h => lv_tableIn X.1 X.2.1 hdg h1 h2 ho ht (kk H locs ls hP hD hS h)
theorem j_tableOut {dflt lo hi : Int} {offs : Array Int} {len : Nat} {x : Int32} {tgt : Nat} (X : jC p s m args meth c cc own D tys tt A n) (hdg : decode cc pc = .ok (.tableswitch dflt lo hi offs, len)) (h1 : x.toInt < lo ∨ hi < x.toInt) (ht : (pc : Int) + dflt = (tgt : Int)) (kk : jW p l e R s m args below meth c D A n Q cells slots (tgt) lv (st) ws) : jW p l e R s m args below meth c D A n Q cells slots (pc) lv (.int x :: st) ws :=
  fun H locs ls hP hD hS h => lv_tableOut X.1 X.2.1 hdg h1 ht (kk H locs ls hP hD hS h)
theorem j_ldc {index : Nat} {v : Int32} (X : jC p s m args meth c cc own D tys tt A n) (hw : Cond.constant own index v ∈ GG) (hdg : decode cc pc = .ok (.ldc index, 2)) (kk : jW p l e R s m args below meth c D A n Q cells slots (pc + 2) lv (.int v :: st) ws) : jW p l e R s m args below meth c D A n Q cells slots (pc) lv (st) ws :=
  fun H locs ls hP hD hS h => lv_ldc X.1 X.2.1 X.ow (X.hts _ hw) hdg (kk H locs ls hP hD hS h)
theorem j_ldc2 {index : Nat} {v : Int64} (X : jC p s m args meth c cc own D tys tt A n) (hw : Cond.constantLong own index v ∈ GG) (hdg : decode cc pc = .ok (.ldc2_w index, 3)) (kk : jW p l e R s m args below meth c D A n Q cells slots (pc + 3) lv (.long v :: st) ws) : jW p l e R s m args below meth c D A n Q cells slots (pc) lv (st) ws :=
  fun H locs ls hP hD hS h => lv_ldc2 X.1 X.2.1 X.ow (X.hts _ hw) hdg (kk H locs ls hP hD hS h)
theorem j_get {C : String} {T : u_T} {N ci index a : Nat} {fs : List Value} {v : Value} (X : jC p s m args meth c cc own D tys tt A n) (q0 k : Nat) (hin : ∀ w ∈ u_ws C T N, w ∈ GG) (hlink : Cond.fieldLink own index (T k).1 (T k).2.1 (T k).2.2.1 ∈ GG) (hdg : decode cc pc = .ok (.getfield index, 3)) (he : ws[q0]? = some (a, .inr (ci, fs))) (hc : vwCl[ci]? = some (C, T, N)) (hk : k < N) (hv : fs[k]? = some v) (kk : jW p l e R s m args below meth c D A n Q cells slots (pc + 3) lv (v :: st) ws) : jW p l e R s m args below meth c D A n Q cells slots (pc) lv (.ref a :: st) ws :=
  fun H locs ls hP hD hS h => va_get X.1 X.2.1 X.hts hin X.ow X.K hP q0 he hc k hk (X.hts _ hlink) (fun _ h9 => h9) hv hdg (kk H locs ls hP hD hS h)
theorem j_put {C : String} {T : u_T} {N ci index a : Nat} {fs : List Value} {v : Value} {ws2 : va_W} {ty : Nat → FieldType} (X : jC p s m args meth c cc own D tys tt A n) (q0 k : Nat) (hin : ∀ w ∈ u_ws C T N, w ∈ GG) (hty : ∀ k, k < N → parseFieldDescriptor (T k).2.2.1 = some (ty k)) (hnm : ∀ a, a < N → ∀ b, b < N → a ≠ b → (T a).2.1 ≠ (T b).2.1) (hlink : Cond.fieldLink own index (T k).1 (T k).2.1 (T k).2.2.1 ∈ GG) (hdg : decode cc pc = .ok (.putfield index, 3)) (he : ws[q0]? = some (a, .inr (ci, fs))) (hc : vwCl[ci]? = some (C, T, N)) (hk : k < N) (hfin : (T k).2.2.2 = false) (hn : narrow (ty k) v = v) (hfit : fits (ty k) v = true) (hl : k < fs.length) (hws : ws.set q0 (a, .inr (ci, fs.set k v)) = ws2) (kk : jW p l e R s m args below meth c D A n Q cells slots (pc + 3) lv (st) ws2) : jW p l e R s m args below meth c D A n Q cells slots (pc) lv (v :: .ref a :: st) ws :=
  fun H locs ls hP hD hS h => va_put X.1 X.2.1 X.hts hin ty hty hnm X.ow X.K hP hD hS q0 he hc k hk (X.hts _ hlink) (fun _ h9 => h9) hfin (hty k hk) hn hfit hl hdg (fun H1 locs1 hP1 hD1 hS1 => kk H1 locs1 ls (hws ▸ hP1) (hws ▸ hD1) hS1 h)
theorem j_iald {a N : Nat} {cA : ClassId} {f : Nat → Int32} {i : Int32} (X : jC p s m args meth c cc own D tys tt A n) (q0 t0 : Nat) (hdg : decode cc pc = .ok (.iaload, 1)) (ha : ws[q0]? = some (a, .inl (cA, N, .inl f))) (ht : tys[t0]? = some (cA, .int)) (hin : inb i N = true) (kk : jW p l e R s m args below meth c D A n Q cells slots (pc + 1) lv (.int (f i.toNatClampNeg) :: st) ws) : jW p l e R s m args below meth c D A n Q cells slots (pc) lv (.int i :: .ref a :: st) ws :=
  fun H locs ls hP hD hS h => va_iald X.1 X.2.1 X.K hP q0 t0 ha ht (inb_in hin) hdg (kk H locs ls hP hD hS h)
theorem j_bald {a N : Nat} {cA : ClassId} {f : Nat → Int32} {i : Int32} (X : jC p s m args meth c cc own D tys tt A n) (q0 t0 : Nat) (hdg : decode cc pc = .ok (.baload, 1)) (ha : ws[q0]? = some (a, .inl (cA, N, .inl f))) (ht : tys[t0]? = some (cA, .byte)) (hin : inb i N = true) (kk : jW p l e R s m args below meth c D A n Q cells slots (pc + 1) lv (.int (f i.toNatClampNeg) :: st) ws) : jW p l e R s m args below meth c D A n Q cells slots (pc) lv (.int i :: .ref a :: st) ws :=
  fun H locs ls hP hD hS h => va_bald X.1 X.2.1 X.K hP q0 t0 ha ht (inb_in hin) hdg (kk H locs ls hP hD hS h)
theorem j_lald {a N : Nat} {cA : ClassId} {f : Nat → Int64} {i : Int32} (X : jC p s m args meth c cc own D tys tt A n) (q0 t0 : Nat) (hdg : decode cc pc = .ok (.laload, 1)) (ha : ws[q0]? = some (a, .inl (cA, N, .inr (.inl f)))) (ht : tys[t0]? = some (cA, .long)) (hin : inb i N = true) (kk : jW p l e R s m args below meth c D A n Q cells slots (pc + 1) lv (.long (f i.toNatClampNeg) :: st) ws) : jW p l e R s m args below meth c D A n Q cells slots (pc) lv (.int i :: .ref a :: st) ws :=
  fun H locs ls hP hD hS h => va_lald X.1 X.2.1 X.K hP q0 t0 ha ht (inb_in hin) hdg (kk H locs ls hP hD hS h)
theorem j_iast {a N : Nat} {cA : ClassId} {f f2 : Nat → Int32} {i : Int32} {x : Int32} {ws2 : va_W} (X : jC p s m args meth c cc own D tys tt A n) (q0 t0 : Nat) (hdg : decode cc pc = .ok (.iastore, 1)) (ha : ws[q0]? = some (a, .inl (cA, N, .inl f))) (ht : tys[t0]? = some (cA, .int)) (hin : inb i N = true) (hf : upd f i.toNatClampNeg x = f2) (hws : ws.set q0 (a, .inl (cA, N, .inl f2)) = ws2) (kk : jW p l e R s m args below meth c D A n Q cells slots (pc + 1) lv (st) ws2) : jW p l e R s m args below meth c D A n Q cells slots (pc) lv (.int x :: .int i :: .ref a :: st) ws :=
  by
  subst hf; subst hws
  exact fun H locs ls hP hD hS h => va_iast X.1 X.2.1 X.K hP hD hS q0 t0 ha ht (inb_in hin) hdg (fun H1 locs1 hP1 hD1 hS1 => kk H1 locs1 ls hP1 hD1 hS1 h)
theorem j_bast {a N : Nat} {cA : ClassId} {f f2 : Nat → Int32} {i : Int32} {x : Int32} {ws2 : va_W} (X : jC p s m args meth c cc own D tys tt A n) (q0 t0 : Nat) (hdg : decode cc pc = .ok (.bastore, 1)) (ha : ws[q0]? = some (a, .inl (cA, N, .inl f))) (ht : tys[t0]? = some (cA, .byte)) (hin : inb i N = true) (hf : upd f i.toNatClampNeg (vp_nar .byte x) = f2) (hws : ws.set q0 (a, .inl (cA, N, .inl f2)) = ws2) (kk : jW p l e R s m args below meth c D A n Q cells slots (pc + 1) lv (st) ws2) : jW p l e R s m args below meth c D A n Q cells slots (pc) lv (.int x :: .int i :: .ref a :: st) ws :=
  by
  subst hf; subst hws
  exact fun H locs ls hP hD hS h => va_bast X.1 X.2.1 X.K hP hD hS q0 t0 ha ht (inb_in hin) hdg (fun H1 locs1 hP1 hD1 hS1 => kk H1 locs1 ls hP1 hD1 hS1 h)
theorem j_last {a N : Nat} {cA : ClassId} {f f2 : Nat → Int64} {i : Int32} {x : Int64} {ws2 : va_W} (X : jC p s m args meth c cc own D tys tt A n) (q0 t0 : Nat) (hdg : decode cc pc = .ok (.lastore, 1)) (ha : ws[q0]? = some (a, .inl (cA, N, .inr (.inl f)))) (ht : tys[t0]? = some (cA, .long)) (hin : inb i N = true) (hf : vp_updL f i.toNatClampNeg x = f2) (hws : ws.set q0 (a, .inl (cA, N, .inr (.inl f2))) = ws2) (kk : jW p l e R s m args below meth c D A n Q cells slots (pc + 1) lv (st) ws2) : jW p l e R s m args below meth c D A n Q cells slots (pc) lv (.long x :: .int i :: .ref a :: st) ws :=
  by
  subst hf; subst hws
  exact fun H locs ls hP hD hS h => va_last X.1 X.2.1 X.K hP hD hS q0 t0 ha ht (inb_in hin) hdg (fun H1 locs1 hP1 hD1 hS1 => kk H1 locs1 ls hP1 hD1 hS1 h)
theorem j_alen {a : Nat} {cA : ClassId} {x : vp_A} {ty : FieldType} {v : Int32} (X : jC p s m args meth c cc own D tys tt A n) (q0 t0 : Nat) (hdg : decode cc pc = .ok (.arraylength, 1)) (ha : ws[q0]? = some (a, .inl (cA, x))) (ht : tys[t0]? = some (cA, ty)) (hv : Int32.ofNat x.1 = v) (kk : jW p l e R s m args below meth c D A n Q cells slots (pc + 1) lv (.int v :: st) ws) : jW p l e R s m args below meth c D A n Q cells slots (pc) lv (.ref a :: st) ws :=
  fun H locs ls hP hD hS h => va_alen X.1 X.2.1 X.K hP q0 t0 ha ht hv hdg (kk H locs ls hP hD hS h)
theorem j_aldq {a N : Nat} {cA : ClassId} {C : String} {f : Nat → Option Nat} {i : Int32} (X : jC p s m args meth c cc own D tys tt A n) (q0 t0 : Nat) (hdg : decode cc pc = .ok (.aaload, 1)) (ha : ws[q0]? = some (a, .inl (cA, N, .inr (.inr (.inr (.inr f)))))) (ht : tys[t0]? = some (cA, .object C)) (hin : inb i N = true) (kk : jW p l e R s m args below meth c D A n Q cells slots (pc + 1) lv (va_rf (f i.toNatClampNeg) :: st) ws) : jW p l e R s m args below meth c D A n Q cells slots (pc) lv (.int i :: .ref a :: st) ws :=
  fun H locs ls hP hD hS h => va_aldq X.1 X.2.1 X.K hP q0 t0 ha ht (inb_in hin) hdg (kk H locs ls hP hD hS h)
theorem j_gets {nm d : String} {index t : Nat} {ty : FieldType} {N : Nat} {f : Nat → Int32} (X : jC p s m args meth c cc own D tys tt A n) (hZ : jT t nm d ty N f A s s.heap) (hlink : Cond.fieldLink own index RX8 nm d ∈ GG) (hdg : decode cc pc = .ok (.getstatic index, 3)) (kk : jW p l e R s m args below meth c D A n Q cells slots (pc + 3) lv (.ref t :: st) ws) : jW p l e R s m args below meth c D A n Q cells slots (pc) lv (st) ws :=
  fun H locs ls hP hD hS h => va_gets X.1 X.2.1 hZ.1 hS X.ow (X.hts _ hlink) (fun _ h9 => h9) hdg (kk H locs ls hP hD hS h)
theorem j_getsN {nm d host : String} {index t : Nat} {ty : FieldType} {N : Nat} {f : Nat → Int32} (X : jC p s m args meth c cc own D tys tt A n) (hZ : jT t nm d ty N f A s s.heap) (hlink : va_Nw (.fieldLinkNest own index RX8 nm d host) s) (hdg : decode cc pc = .ok (.getstatic index, 3)) (kk : jW p l e R s m args below meth c D A n Q cells slots (pc + 3) lv (.ref t :: st) ws) : jW p l e R s m args below meth c D A n Q cells slots (pc) lv (st) ws :=
  fun H locs ls hP hD hS h => va_getsN X.1 X.2.1 hZ.1 hS X.ow (va_Nw.use rfl hlink) (fun _ h9 => h9) hdg (kk H locs ls hP hD hS h)
theorem j_ti {nm d : String} {t N : Nat} {f : Nat → Int32} {i : Int32} (X : jC p s m args meth c cc own D tys tt A n) (hZ : jT t nm d .int N f A s s.heap) (hdg : decode cc pc = .ok (.iaload, 1)) (hin : inb i N = true) (kk : jW p l e R s m args below meth c D A n Q cells slots (pc + 1) lv (.int (f i.toNatClampNeg) :: st) ws) : jW p l e R s m args below meth c D A n Q cells slots (pc) lv (.int i :: .ref t :: st) ws :=
  fun H locs ls hP hD hS h => va_ti X.1 X.2.1 hZ.2 hS (inb_in hin) rfl hdg (kk H locs ls hP hD hS h)
theorem j_tc {nm d : String} {t N : Nat} {f : Nat → Int32} {i : Int32} (X : jC p s m args meth c cc own D tys tt A n) (hZ : jT t nm d .char N f A s s.heap) (hdg : decode cc pc = .ok (.caload, 1)) (hin : inb i N = true) (kk : jW p l e R s m args below meth c D A n Q cells slots (pc + 1) lv (.int (f i.toNatClampNeg) :: st) ws) : jW p l e R s m args below meth c D A n Q cells slots (pc) lv (.int i :: .ref t :: st) ws :=
  fun H locs ls hP hD hS h => va_tc X.1 X.2.1 hZ.2 hS (inb_in hin) rfl hdg (kk H locs ls hP hD hS h)
theorem j_tlen {nm d : String} {t N : Nat} {ty : FieldType} {f : Nat → Int32} {v : Int32} (X : jC p s m args meth c cc own D tys tt A n) (hZ : jT t nm d ty N f A s s.heap) (hv : Int32.ofNat N = v) (hdg : decode cc pc = .ok (.arraylength, 1)) (kk : jW p l e R s m args below meth c D A n Q cells slots (pc + 1) lv (.int v :: st) ws) : jW p l e R s m args below meth c D A n Q cells slots (pc) lv (.ref t :: st) ws :=
  fun H locs ls hP hD hS h => va_tlen X.1 X.2.1 hZ.2 hS hv hdg (kk H locs ls hP hD hS h)
theorem j_mmax {index : Nat} {x y : Int32} (X : jC p s m args meth c cc own D tys tt A n) (hl : Cond.methodLink own index Lib.Math.max.name ∈ GG) (hs1 : Cond.static Lib.Math.max.name ∈ GG) (hi : Cond.initialized "java/lang/Math" ∈ GG) (hco : Cond.code Lib.Math.max.name Lib.Math.max.code 2 (some .int) ∈ GG) (hR : 1 ≤ R.frames ∧ (st.map fun v => v.category).sum + 13 ≤ R.locals ∧ cells ≤ R.cells ∧ slots ≤ R.slots) (hdg : decode cc pc = .ok (.invokestatic index, 3)) (kk : jW p l e R s m args below meth c D A n Q cells slots (pc + 3) lv (.int (if x < y then y else x) :: st) ws) : jW p l e R s m args below meth c D A n Q cells slots (pc) lv (.int y :: .int x :: st) ws :=
  fun H locs ls hP hD hS h => va_mmax X.1 X.2.1 (X.2.2.1.trans h.1.symm) X.ow (X.hts _ hl) (X.hts _ hs1) (X.hts _ hi) (X.hts _ hco) hR.1 hR.2.1 hR.2.2.1 hR.2.2.2 hdg (kk H locs ls hP hD hS h)
theorem j_mmin {index : Nat} {x y : Int32} (X : jC p s m args meth c cc own D tys tt A n) (hl : Cond.methodLink own index Lib.Math.min.name ∈ GG) (hs1 : Cond.static Lib.Math.min.name ∈ GG) (hi : Cond.initialized "java/lang/Math" ∈ GG) (hco : Cond.code Lib.Math.min.name Lib.Math.min.code 2 (some .int) ∈ GG) (hR : 1 ≤ R.frames ∧ (st.map fun v => v.category).sum + 13 ≤ R.locals ∧ cells ≤ R.cells ∧ slots ≤ R.slots) (hdg : decode cc pc = .ok (.invokestatic index, 3)) (kk : jW p l e R s m args below meth c D A n Q cells slots (pc + 3) lv (.int (if y < x then y else x) :: st) ws) : jW p l e R s m args below meth c D A n Q cells slots (pc) lv (.int y :: .int x :: st) ws :=
  fun H locs ls hP hD hS h => va_mmin X.1 X.2.1 (X.2.2.1.trans h.1.symm) X.ow (X.hts _ hl) (X.hts _ hs1) (X.hts _ hi) (X.hts _ hco) hR.1 hR.2.1 hR.2.2.1 hR.2.2.2 hdg (kk H locs ls hP hD hS h)
theorem j_mabs {index : Nat} {x : Int32} (X : jC p s m args meth c cc own D tys tt A n) (hl : Cond.methodLink own index Lib.Math.abs.name ∈ GG) (hs1 : Cond.static Lib.Math.abs.name ∈ GG) (hi : Cond.initialized "java/lang/Math" ∈ GG) (hco : Cond.code Lib.Math.abs.name Lib.Math.abs.code 1 (some .int) ∈ GG) (hR : 1 ≤ R.frames ∧ (st.map fun v => v.category).sum + 13 ≤ R.locals ∧ cells ≤ R.cells ∧ slots ≤ R.slots) (hdg : decode cc pc = .ok (.invokestatic index, 3)) (kk : jW p l e R s m args below meth c D A n Q cells slots (pc + 3) lv (.int (if 0 ≤ x then x else 0 - x) :: st) ws) : jW p l e R s m args below meth c D A n Q cells slots (pc) lv (.int x :: st) ws :=
  fun H locs ls hP hD hS h => va_mabs X.1 X.2.1 (X.2.2.1.trans h.1.symm) X.ow (X.hts _ hl) (X.hts _ hs1) (X.hts _ hi) (X.hts _ hco) hR.1 hR.2.1 hR.2.2.1 hR.2.2.2 hdg (kk H locs ls hP hD hS h)
theorem j_copyl {index a0 a : Nat} {c0 c1 : ClassId} {n0 n1 : Nat} {f g g2 : Nat → Int64} {sp dp k : Int32} {ws2 : va_W} (X : jC p s m args meth c cc own D tys tt A n) (q0 q1 t0 t1 : Nat) (hl : Cond.methodLink own index arraycopyName ∈ GG) (hna : Cond.native arraycopyName ∈ GG) (hs1 : Cond.static arraycopyName ∈ GG) (hi : Cond.initialized "java/lang/System" ∈ GG) (ha0 : ws[q0]? = some (a0, .inl (c0, n0, .inr (.inl f)))) (ha1 : ws[q1]? = some (a, .inl (c1, n1, .inr (.inl g)))) (ht0 : tys[t0]? = some (c0, .long)) (ht1 : tys[t1]? = some (c1, .long)) (h1 : ¬ sp < 0) (h2 : ¬ dp < 0) (h3 : ¬ k < 0) (h4 : sp.toNatClampNeg + k.toNatClampNeg ≤ n0) (h5 : dp.toNatClampNeg + k.toNatClampNeg ≤ n1) (hR : 1 ≤ R.frames ∧ (st.map fun v => v.category).sum + (nativeFrameWords "java/lang/System" "arraycopy" 5 + 11) ≤ R.locals) (hdg : decode cc pc = .ok (.invokestatic index, 3)) (hf : va_cpy f g sp.toNatClampNeg dp.toNatClampNeg k.toNatClampNeg = g2) (hws : ws.set q1 (a, .inl (c1, n1, .inr (.inl g2))) = ws2) (kk : jW p l e R s m args below meth c D A n Q cells slots (pc + 3) lv (st) ws2) : jW p l e R s m args below meth c D A n Q cells slots (pc) lv (.int k :: .int dp :: .ref a :: .int sp :: .ref a0 :: st) ws :=
  by
  subst hf; subst hws
  exact fun H locs ls hP hD hS h => va_copyl X.1 X.2.1 (X.2.2.1.trans h.1.symm) X.ow (X.hts _ hl) (X.hts _ hna) (X.hts _ hs1) (X.hts _ hi) X.K hP hD hS q0 q1 t0 t1 ha0 ha1 ht0 ht1 rfl h1 h2 h3 h4 h5 (fun i _ => rfl) hR.1 hR.2 hdg (fun H1 locs1 hP1 hD1 hS1 => kk H1 locs1 ls hP1 hD1 hS1 h)
theorem j_iret {v : Int32} {o : Option Value} {ws1 : va_W} (X : jC p s m args meth c cc own D tys tt A n) (hr : meth.sig.returnType = some .int) (hdg : decode cc pc = .ok (.ireturn, 1)) (ho : o = some (.int v)) (hw : ws1 = ws) : jW p l e R s m args below meth c D A n (MQ below (jQ D o ws1 A) args s cells slots A) cells slots (pc) lv ([.int v]) ws :=
  by
  subst ho; subst hw
  exact fun H locs ls hP hD hS h => W.iret X.1 X.2.1 hr (fun t ht hW => ⟨⟨rfl, by rw [ht]; exact hP⟩, hS.F ht⟩) hS.2.2 hdg X.lk
theorem j_zret {v : Int32} {o : Option Value} {ws1 : va_W} (X : jC p s m args meth c cc own D tys tt A n) (hr : meth.sig.returnType = some .boolean) (hn : narrow .boolean (.int v) = .int v) (hdg : decode cc pc = .ok (.ireturn, 1)) (ho : o = some (.int v)) (hw : ws1 = ws) : jW p l e R s m args below meth c D A n (MQ below (jQ D o ws1 A) args s cells slots A) cells slots (pc) lv ([.int v]) ws :=
  by
  subst ho; subst hw
  exact fun H locs ls hP hD hS h => W.zret X.1 X.2.1 hr hn (fun t ht hW => ⟨⟨rfl, by rw [ht]; exact hP⟩, hS.F ht⟩) hS.2.2 hdg X.lk
theorem j_lret {v : Int64} {o : Option Value} {ws1 : va_W} (X : jC p s m args meth c cc own D tys tt A n) (hr : meth.sig.returnType = some .long) (hdg : decode cc pc = .ok (.lreturn, 1)) (ho : o = some (.long v)) (hw : ws1 = ws) : jW p l e R s m args below meth c D A n (MQ below (jQ D o ws1 A) args s cells slots A) cells slots (pc) lv ([.long v]) ws :=
  by
  subst ho; subst hw
  exact fun H locs ls hP hD hS h => W.lret X.1 X.2.1 hr (fun t ht hW => ⟨⟨rfl, by rw [ht]; exact hP⟩, hS.F ht⟩) hS.2.2 hdg X.lk
theorem j_vret {o : Option Value} {ws1 : va_W} (X : jC p s m args meth c cc own D tys tt A n) (hr : meth.sig.returnType = none) (hdg : decode cc pc = .ok (.return_, 1)) (ho : o = none) (hw : ws1 = ws) : jW p l e R s m args below meth c D A n (MQ below (jQ D o ws1 A) args s cells slots A) cells slots (pc) lv ([]) ws :=
  by
  subst ho; subst hw
  exact fun H locs ls hP hD hS h => W.vret X.1 X.2.1 hr (fun t ht hW => ⟨⟨rfl, by rw [ht]; exact hP⟩, hS.F ht⟩) hS.2.2 hdg X.lk
theorem j_aret {v : Option Nat} {nm : String} {o : Option Value} {ws1 : va_W} (X : jC p s m args meth c cc own D tys tt A n) (hr : meth.sig.returnType = some (.object nm)) (hdg : decode cc pc = .ok (.areturn, 1)) (ho : o = some (va_rf v)) (hw : ws1 = ws) : jW p l e R s m args below meth c D A n (MQ below (jQ D o ws1 A) args s cells slots A) cells slots (pc) lv ([va_rf v]) ws :=
  by
  subst ho; subst hw
  exact fun H locs ls hP hD hS h => W.aret X.1 X.2.1 hr (Or.inl ⟨_, rfl⟩) (by cases v with | none => exact Or.inl rfl | some a => exact Or.inr ⟨a, rfl⟩) (fun t ht hW => ⟨⟨rfl, by rw [ht]; exact hP⟩, hS.F ht⟩) hS.2.2 hdg X.lk
/-- what a call leaves of the world: by where each cell comes from -/
theorem j_after {H H1 : Heap} {wc w1 ws2 : va_W} (hP : va_P D vwCl ws H) (hD : va_D A ws) (isC : List Nat) (hC : isC.map (fun i => ws[i]?) = wc.map some) (src : List (Nat ⊕ Nat)) (hsrc : src.map (fun q => match q with | .inl i => ws[i]? | .inr j => w1[j]?) = ws2.map some) (hno : src.all (fun q => match q with | .inl i => !(isC.contains i) | .inr _ => true) = true) (hadr : ws2.map Prod.fst = ws.map Prod.fst)
    (hk : ∀ q : Nat, q < H.size → ¬ va_A wc H.size q → H1[q]? = H[q]?) (hP1 : va_P D vwCl w1 H1) : va_P D vwCl ws2 H1 ∧ va_D A ws2 := by
  refine ⟨fun k q hq => ?_, ?_⟩
  · have h1 : (src.map (fun q => match q with | .inl i => ws[i]? | .inr j => w1[j]?))[k]? = some (some q) := by rw [hsrc, List.getElem?_map, hq]; rfl
    rw [List.getElem?_map] at h1
    cases hs : src[k]? with
    | none => rw [hs] at h1; cases h1
    | some z =>
      rw [hs] at h1
      have h2 := Option.some.inj h1
      cases z with
      | inr j => exact hP1 j q h2
      | inl i =>
        have hni := List.all_eq_true.mp hno _ (List.mem_of_getElem? hs)
        have h2 : ws[i]? = some q := h2
        refine (hP i q h2).kept (hk q.1 (hP i q h2).lt (fun hA => ?_))
        rcases hA with ⟨k2, ee, hw⟩ | hw
        · have h3 : (isC.map (fun i => ws[i]?))[k2]? = some (some (q.1, ee)) := by rw [hC, List.getElem?_map, hw]; rfl
          rw [List.getElem?_map] at h3
          cases hi : isC[k2]? with
          | none => rw [hi] at h3; cases h3
          | some i2 =>
            rw [hi] at h3
            have h4 : ws[i2]? = some (q.1, ee) := Option.some.inj h3
            have h5 := hD.1 i i2 q _ h2 h4 rfl
            subst h5
            have h6 : isC.contains i = true := List.contains_iff_mem.mpr (List.mem_of_getElem? hi)
            simp only [h6] at hni
            cases hni
        · have h7 := (hP i q h2).lt
          omega
  · have key : ∀ (k : Nat) (q : Nat × va_E), ws2[k]? = some q → ∃ q0, ws[k]? = some q0 ∧ q0.1 = q.1 := by
      intro k q hq
      have h1 : (ws2.map Prod.fst)[k]? = some q.1 := by rw [List.getElem?_map, hq]; rfl
      rw [hadr, List.getElem?_map] at h1
      cases h0 : ws[k]? with
      | none => rw [h0] at h1; cases h1
      | some q0 => rw [h0] at h1; exact ⟨q0, rfl, Option.some.inj h1⟩
    refine ⟨fun i j x y hi hj hxy => ?_, fun k q hk2 => ?_⟩
    · obtain ⟨x0, a1, a2⟩ := key i x hi
      obtain ⟨y0, b1, b2⟩ := key j y hj
      exact hD.1 i j x0 y0 a1 b1 (a2.trans (hxy.trans b2.symm))
    · obtain ⟨q0, a1, a2⟩ := key k q hk2
      rw [← a2]
      exact hD.2 k q0 a1
theorem j_pre {H : Heap} {locs : List Loc} {wc : va_W} {As : List Value} (X : jC p s m args meth c cc own D tys tt A n) (hP : va_P D vwCl ws H) (hD : va_D A ws) (hS : va_S A s.heap H locs) (isC : List Nat) (hn : va_nd isC = true) (hC : isC.map (fun i => ws[i]?) = wc.map some) :
    FrameBlind (va_Pc As (jPre D tys tt wc H.size)) ∧ ∀ U : State, U.heap = H → s.WarmedH U.vm → va_Pc As (jPre D tys tt wc H.size) As.toArray U := by
  refine ⟨jPre.blind, fun U hU hW => ⟨rfl, by rw [hU], ?_, X.K.moved hW.alike, (hD.sub isC hn hC).weaken (fun _ _ _ _ => trivial), ?_⟩⟩
  · rw [hU]
    intro k q hq
    have h1 : (isC.map (fun i => ws[i]?))[k]? = some (some q) := by rw [hC, List.getElem?_map, hq]; rfl
    rw [List.getElem?_map] at h1
    cases hi : isC[k]? with
    | none => rw [hi] at h1; cases h1
    | some i => rw [hi] at h1; exact hP i q (Option.some.inj h1)
  · rw [hU]
    exact X.Z.to hW (fun a h1 h2 => hS.2.1 a h1 h2) (va_free hD hS X.hA isC hC)
theorem j_run {H : Heap} {locs : List Loc} {ls : Array Slot} {rest : List Value} {wc w1 ws2 : va_W} {o : Option Value} {av : List Value} (X : jC p s m args meth c cc own D tys tt A n) (hP : va_P D vwCl ws H) (hD : va_D A ws) (hS : va_S A s.heap H locs) (h : lv_has ls n lv) (isC : List Nat) (hC : isC.map (fun i => ws[i]?) = wc.map some) (src : List (Nat ⊕ Nat)) (hsrc : src.map (fun q => match q with | .inl i => ws[i]? | .inr j => w1[j]?) = ws2.map some) (hno : src.all (fun q => match q with | .inl i => !(isC.contains i) | .inr _ => true) = true) (hadr : ws2.map Prod.fst = ws.map Prod.fst)
    (hr : va_Run p l e R s m args below meth c H locs cells slots 0 0 (F0 m pc ls st) rest (jQ D o w1 (va_A wc H.size) av.toArray) (va_A wc H.size))
    (kk : jW p l e R s m args below meth c D A n Q cells slots (pc + 3) lv (o.toList ++ rest) ws2) : W p l e R s m args below meth c H locs cells slots Q (F0 m pc ls st) := by
  have hf := va_free hD hS X.hA isC hC
  intro T hT XS
  obtain ⟨v, st₀, t, T', L, h0, X', hL, e1, e2, ⟨⟨hv, hp⟩, hz, hk⟩, stp⟩ := hr T hT XS
  cases hv
  rw [h0] at hz hk
  have hk1 : ∀ q : Nat, q < H.size → ¬ va_A wc H.size q → T'.heap[q]? = H[q]? := fun q h1 h2 => by rw [e1]; exact hk q h1 h2
  obtain ⟨hP2, hD2⟩ := j_after hP hD isC hC src hsrc hno hadr hk1 (by rw [e1]; exact hp)
  obtain ⟨t2, a1, b1⟩ := kk T'.heap (locs ++ L) ls hP2 hD2 ⟨Nat.le_trans hS.1 (by rw [e1]; exact hz), fun q h1 h2 => by rw [hk1 q (Nat.lt_of_lt_of_le h1 hS.1) (fun z => h2 (hf q z))]; exact hS.2.1 q h1 h2, fun q hq => by
      rcases List.mem_append.mp hq with h | h
      · exact hS.2.2 q h
      · exact hf _ (hL q h)⟩ h T' rfl X'
  exact ⟨t2, stp t2 a1, b1⟩
set_option maxHeartbeats 4000000 in
theorem j_callV {y : MethodName} {bytes : ByteArray} {maxL : Nat} {ret : Option FieldType} {rm : Room} {index : Nat} {As rest : List Value} {wc w1 ws2 : va_W} {o : Option Value} {b q0 ci : Nat} {fs : List Value} {T : u_T} {N : Nat} (X : jC p s m args meth c cc own D tys tt A n) (hM : jM l y (.code y bytes maxL ret) rm D tys tt (.ref b :: As) wc o w1) (isC : List Nat) (src : List (Nat ⊕ Nat)) (hcode : Cond.code y bytes maxL ret ∈ GG) (hl : Cond.methodLink own index y ∈ GG) (hin : Cond.instanceMethod y ∈ GG) (hsel : Cond.selects y.cls y y ∈ GG) (he : ws[q0]? = some (b, .inr (ci, fs))) (hcl : vwCl[ci]? = some (y.cls, T, N)) (hini : Cond.initialized y.cls ∈ GG) (hd : y.cls ≠ "java/lang/invoke/MethodHandle" ∧ y.cls ≠ "java/lang/invoke/VarHandle" ∧ (parseMethodDescriptor y.desc).map (fun d => d.parameters.length) = some As.length) (hR : rm.cells = 0 ∧ rm.slots = 0 ∧ rm.frames + 1 ≤ R.frames ∧ 8 + (maxL + 11) + rm.locals ≤ R.locals ∧ cells ≤ R.cells ∧ slots ≤ R.slots) (hcat : (rest.map fun v => v.category).sum ≤ 8) (hdg : decode cc pc = .ok (.invokevirtual index, 3)) (hn1 : va_nd isC = true) (hC : isC.map (fun i => ws[i]?) = wc.map some) (hsrc : src.map (fun q => match q with | .inl i => ws[i]? | .inr j => w1[j]?) = ws2.map some) (hno : src.all (fun q => match q with | .inl i => !(isC.contains i) | .inr _ => true) = true) (hadr : ws2.map Prod.fst = ws.map Prod.fst) (hst : st = As.reverse ++ .ref b :: rest) (kk : jW p l e R s m args below meth c D A n Q cells slots (pc + 3) lv (o.toList ++ rest) ws2) : jW p l e R s m args below meth c D A n Q cells slots (pc) lv (st) ws := by
  subst hst
  intro H locs ls hP hD hS h
  exact j_run X hP hD hS h isC hC src hsrc hno hadr (va_runV (As := As) (rest := rest) (C := y.cls) ⟨X.1, X.2.1, X.2.2.1, X.ow, X.hts⟩ (hM H.size) ⟨callB_of As.length X.hts (GG_self hcode) rfl hR.1 hR.2.1 (X.hts _ hini) (X.hts _ hl) hd ⟨hR.2.2.1, hR.2.2.2.1⟩, X.hts _ hin, X.hts _ hsel⟩ ⟨(j_pre X hP hD hS isC hn1 hC).1, va_recv X.K hP hcl he, (j_pre X hP hD hS isC hn1 hC).2⟩ rfl rfl h.1 rfl (lv_room hcat) hdg ⟨hR.2.2.2.2.1, hR.2.2.2.2.2⟩) kk
set_option maxHeartbeats 4000000 in
theorem j_callS {y : MethodName} {bytes : ByteArray} {maxL : Nat} {ret : Option FieldType} {rm : Room} {index : Nat} {As rest : List Value} {wc w1 ws2 : va_W} {o : Option Value} (X : jC p s m args meth c cc own D tys tt A n) (hM : jM l y (.code y bytes maxL ret) rm D tys tt As wc o w1) (isC : List Nat) (src : List (Nat ⊕ Nat)) (hcode : Cond.code y bytes maxL ret ∈ GG) (hl : Cond.methodLink own index y ∈ GG) (hsta : Cond.static y ∈ GG) (hini : Cond.initialized y.cls ∈ GG) (hd : y.cls ≠ "java/lang/invoke/MethodHandle" ∧ y.cls ≠ "java/lang/invoke/VarHandle" ∧ (parseMethodDescriptor y.desc).map (fun d => d.parameters.length) = some As.length) (hR : rm.cells = 0 ∧ rm.slots = 0 ∧ rm.frames + 1 ≤ R.frames ∧ 8 + (maxL + 11) + rm.locals ≤ R.locals ∧ cells ≤ R.cells ∧ slots ≤ R.slots) (hcat : (rest.map fun v => v.category).sum ≤ 8) (hdg : decode cc pc = .ok (.invokestatic index, 3)) (hn1 : va_nd isC = true) (hC : isC.map (fun i => ws[i]?) = wc.map some) (hsrc : src.map (fun q => match q with | .inl i => ws[i]? | .inr j => w1[j]?) = ws2.map some) (hno : src.all (fun q => match q with | .inl i => !(isC.contains i) | .inr _ => true) = true) (hadr : ws2.map Prod.fst = ws.map Prod.fst) (hst : st = As.reverse ++ rest) (kk : jW p l e R s m args below meth c D A n Q cells slots (pc + 3) lv (o.toList ++ rest) ws2) : jW p l e R s m args below meth c D A n Q cells slots (pc) lv (st) ws := by
  subst hst
  intro H locs ls hP hD hS h
  exact j_run X hP hD hS h isC hC src hsrc hno hadr (va_runS (As := As) (rest := rest) ⟨X.1, X.2.1, X.2.2.1, X.ow, X.hts⟩ (hM H.size) ⟨callB_of As.length X.hts (GG_self hcode) rfl hR.1 hR.2.1 (X.hts _ hini) (X.hts _ hl) hd ⟨hR.2.2.1, hR.2.2.2.1⟩, X.hts _ hsta⟩ (j_pre X hP hD hS isC hn1 hC) rfl rfl h.1 rfl (lv_room hcat) hdg ⟨hR.2.2.2.2.1, hR.2.2.2.2.2⟩) kk
set_option maxHeartbeats 4000000 in
theorem j_callSN {y : MethodName} {bytes : ByteArray} {maxL : Nat} {ret : Option FieldType} {rm : Room} {index : Nat} {As rest : List Value} {wc w1 ws2 : va_W} {o : Option Value} {host : String} (X : jC p s m args meth c cc own D tys tt A n) (hM : jM l y (.code y bytes maxL ret) rm D tys tt As wc o w1) (isC : List Nat) (src : List (Nat ⊕ Nat)) (hcode : Cond.code y bytes maxL ret ∈ GG) (hl : va_Nw (.methodLinkNest own index y host) s) (hsta : Cond.static y ∈ GG) (hini : Cond.initialized y.cls ∈ GG) (hd : y.cls ≠ "java/lang/invoke/MethodHandle" ∧ y.cls ≠ "java/lang/invoke/VarHandle" ∧ (parseMethodDescriptor y.desc).map (fun d => d.parameters.length) = some As.length) (hR : rm.cells = 0 ∧ rm.slots = 0 ∧ rm.frames + 1 ≤ R.frames ∧ 8 + (maxL + 11) + rm.locals ≤ R.locals ∧ cells ≤ R.cells ∧ slots ≤ R.slots) (hcat : (rest.map fun v => v.category).sum ≤ 8) (hdg : decode cc pc = .ok (.invokestatic index, 3)) (hn1 : va_nd isC = true) (hC : isC.map (fun i => ws[i]?) = wc.map some) (hsrc : src.map (fun q => match q with | .inl i => ws[i]? | .inr j => w1[j]?) = ws2.map some) (hno : src.all (fun q => match q with | .inl i => !(isC.contains i) | .inr _ => true) = true) (hadr : ws2.map Prod.fst = ws.map Prod.fst) (hst : st = As.reverse ++ rest) (kk : jW p l e R s m args below meth c D A n Q cells slots (pc + 3) lv (o.toList ++ rest) ws2) : jW p l e R s m args below meth c D A n Q cells slots (pc) lv (st) ws := by
  subst hst
  intro H locs ls hP hD hS h
  exact j_run X hP hD hS h isC hC src hsrc hno hadr (va_runSN (As := As) (rest := rest) ⟨X.1, X.2.1, X.2.2.1, X.ow, X.hts⟩ (hM H.size) ⟨va_cnB As.length X.hts (GG_self hcode) rfl hR.1 hR.2.1 hl (X.hts _ hini) hd ⟨hR.2.2.1, hR.2.2.2.1⟩, X.hts _ hsta, trivial⟩ (j_pre X hP hD hS isC hn1 hC) rfl rfl h.1 rfl (lv_room hcat) hdg ⟨hR.2.2.2.2.1, hR.2.2.2.2.2⟩) kk
end JROWS
theorem hiX0_k : ∀ k, k < 15 → u_lay RX0 TX0 k ∈ GG := lt_s (p := fun k => u_lay RX0 TX0 k ∈ GG) (lt_s (p := fun k => u_lay RX0 TX0 k ∈ GG) (lt_s (p := fun k => u_lay RX0 TX0 k ∈ GG) (lt_s (p := fun k => u_lay RX0 TX0 k ∈ GG) (lt_s (p := fun k => u_lay RX0 TX0 k ∈ GG) (lt_s (p := fun k => u_lay RX0 TX0 k ∈ GG) (lt_s (p := fun k => u_lay RX0 TX0 k ∈ GG) (lt_s (p := fun k => u_lay RX0 TX0 k ∈ GG) (lt_s (p := fun k => u_lay RX0 TX0 k ∈ GG) (lt_s (p := fun k => u_lay RX0 TX0 k ∈ GG) (lt_s (p := fun k => u_lay RX0 TX0 k ∈ GG) (lt_s (p := fun k => u_lay RX0 TX0 k ∈ GG) (lt_s (p := fun k => u_lay RX0 TX0 k ∈ GG) (lt_s (p := fun k => u_lay RX0 TX0 k ∈ GG) (lt_s (p := fun k => u_lay RX0 TX0 k ∈ GG) (lt_0) k_119) k_121) k_123) k_125) k_127) k_129) k_131) k_133) k_135) k_137) k_139) k_141) k_143) k_145) k_147
theorem hiX0 : ∀ w ∈ u_ws RX0 TX0 15, w ∈ GG := by
  intro w hw
  obtain ⟨k, hk, rfl⟩ := List.mem_map.mp hw
  exact hiX0_k k (List.mem_range.mp hk)
theorem hiX1_k : ∀ k, k < 2 → u_lay RX1 TX1 k ∈ GG := lt_s (p := fun k => u_lay RX1 TX1 k ∈ GG) (lt_s (p := fun k => u_lay RX1 TX1 k ∈ GG) (lt_0) k_212) k_214
theorem hiX1 : ∀ w ∈ u_ws RX1 TX1 2, w ∈ GG := by
  intro w hw
  obtain ⟨k, hk, rfl⟩ := List.mem_map.mp hw
  exact hiX1_k k (List.mem_range.mp hk)
theorem hiX2_k : ∀ k, k < 4 → u_lay RX2 TX2 k ∈ GG := lt_s (p := fun k => u_lay RX2 TX2 k ∈ GG) (lt_s (p := fun k => u_lay RX2 TX2 k ∈ GG) (lt_s (p := fun k => u_lay RX2 TX2 k ∈ GG) (lt_s (p := fun k => u_lay RX2 TX2 k ∈ GG) (lt_0) k_88) k_90) k_92) k_94
theorem hiX2 : ∀ w ∈ u_ws RX2 TX2 4, w ∈ GG := by
  intro w hw
  obtain ⟨k, hk, rfl⟩ := List.mem_map.mp hw
  exact hiX2_k k (List.mem_range.mp hk)
theorem hiX3_k : ∀ k, k < 3 → u_lay RX3 TX3 k ∈ GG := lt_s (p := fun k => u_lay RX3 TX3 k ∈ GG) (lt_s (p := fun k => u_lay RX3 TX3 k ∈ GG) (lt_s (p := fun k => u_lay RX3 TX3 k ∈ GG) (lt_0) k_177) k_179) k_181
theorem hiX3 : ∀ w ∈ u_ws RX3 TX3 3, w ∈ GG := by
  intro w hw
  obtain ⟨k, hk, rfl⟩ := List.mem_map.mp hw
  exact hiX3_k k (List.mem_range.mp hk)
theorem hiX4_k : ∀ k, k < 3 → u_lay RX4 TX4 k ∈ GG := lt_s (p := fun k => u_lay RX4 TX4 k ∈ GG) (lt_s (p := fun k => u_lay RX4 TX4 k ∈ GG) (lt_s (p := fun k => u_lay RX4 TX4 k ∈ GG) (lt_0) k_257) k_259) k_261
theorem hiX4 : ∀ w ∈ u_ws RX4 TX4 3, w ∈ GG := by
  intro w hw
  obtain ⟨k, hk, rfl⟩ := List.mem_map.mp hw
  exact hiX4_k k (List.mem_range.mp hk)
theorem hiX5_k : ∀ k, k < 5 → u_lay RX5 TX5 k ∈ GG := lt_s (p := fun k => u_lay RX5 TX5 k ∈ GG) (lt_s (p := fun k => u_lay RX5 TX5 k ∈ GG) (lt_s (p := fun k => u_lay RX5 TX5 k ∈ GG) (lt_s (p := fun k => u_lay RX5 TX5 k ∈ GG) (lt_s (p := fun k => u_lay RX5 TX5 k ∈ GG) (lt_0) k_232) k_234) k_236) k_238) k_240
theorem hiX5 : ∀ w ∈ u_ws RX5 TX5 5, w ∈ GG := by
  intro w hw
  obtain ⟨k, hk, rfl⟩ := List.mem_map.mp hw
  exact hiX5_k k (List.mem_range.mp hk)
theorem hiX6_k : ∀ k, k < 2 → u_lay RX6 TX6 k ∈ GG := lt_s (p := fun k => u_lay RX6 TX6 k ∈ GG) (lt_s (p := fun k => u_lay RX6 TX6 k ∈ GG) (lt_0) k_160) k_162
theorem hiX6 : ∀ w ∈ u_ws RX6 TX6 2, w ∈ GG := by
  intro w hw
  obtain ⟨k, hk, rfl⟩ := List.mem_map.mp hw
  exact hiX6_k k (List.mem_range.mp hk)
theorem hiX7_k : ∀ k, k < 4 → u_lay RX7 TX7 k ∈ GG := lt_s (p := fun k => u_lay RX7 TX7 k ∈ GG) (lt_s (p := fun k => u_lay RX7 TX7 k ∈ GG) (lt_s (p := fun k => u_lay RX7 TX7 k ∈ GG) (lt_s (p := fun k => u_lay RX7 TX7 k ∈ GG) (lt_0) k_192) k_194) k_196) k_198
theorem hiX7 : ∀ w ∈ u_ws RX7 TX7 4, w ∈ GG := by
  intro w hw
  obtain ⟨k, hk, rfl⟩ := List.mem_map.mp hw
  exact hiX7_k k (List.mem_range.mp hk)
theorem hiX8_k : ∀ k, k < 7 → u_lay RX8 TX8 k ∈ GG := lt_s (p := fun k => u_lay RX8 TX8 k ∈ GG) (lt_s (p := fun k => u_lay RX8 TX8 k ∈ GG) (lt_s (p := fun k => u_lay RX8 TX8 k ∈ GG) (lt_s (p := fun k => u_lay RX8 TX8 k ∈ GG) (lt_s (p := fun k => u_lay RX8 TX8 k ∈ GG) (lt_s (p := fun k => u_lay RX8 TX8 k ∈ GG) (lt_s (p := fun k => u_lay RX8 TX8 k ∈ GG) (lt_0) k_271) k_273) k_275) k_277) k_279) k_281) k_283
theorem hiX8 : ∀ w ∈ u_ws RX8 TX8 7, w ∈ GG := by
  intro w hw
  obtain ⟨k, hk, rfl⟩ := List.mem_map.mp hw
  exact hiX8_k k (List.mem_range.mp hk)
theorem hiX9_k : ∀ k, k < 21 → u_lay RX9 TX9 k ∈ GG := lt_s (p := fun k => u_lay RX9 TX9 k ∈ GG) (lt_s (p := fun k => u_lay RX9 TX9 k ∈ GG) (lt_s (p := fun k => u_lay RX9 TX9 k ∈ GG) (lt_s (p := fun k => u_lay RX9 TX9 k ∈ GG) (lt_s (p := fun k => u_lay RX9 TX9 k ∈ GG) (lt_s (p := fun k => u_lay RX9 TX9 k ∈ GG) (lt_s (p := fun k => u_lay RX9 TX9 k ∈ GG) (lt_s (p := fun k => u_lay RX9 TX9 k ∈ GG) (lt_s (p := fun k => u_lay RX9 TX9 k ∈ GG) (lt_s (p := fun k => u_lay RX9 TX9 k ∈ GG) (lt_s (p := fun k => u_lay RX9 TX9 k ∈ GG) (lt_s (p := fun k => u_lay RX9 TX9 k ∈ GG) (lt_s (p := fun k => u_lay RX9 TX9 k ∈ GG) (lt_s (p := fun k => u_lay RX9 TX9 k ∈ GG) (lt_s (p := fun k => u_lay RX9 TX9 k ∈ GG) (lt_s (p := fun k => u_lay RX9 TX9 k ∈ GG) (lt_s (p := fun k => u_lay RX9 TX9 k ∈ GG) (lt_s (p := fun k => u_lay RX9 TX9 k ∈ GG) (lt_s (p := fun k => u_lay RX9 TX9 k ∈ GG) (lt_s (p := fun k => u_lay RX9 TX9 k ∈ GG) (lt_s (p := fun k => u_lay RX9 TX9 k ∈ GG) (lt_0) k_686) k_688) k_690) k_692) k_694) k_696) k_698) k_700) k_702) k_704) k_706) k_708) k_710) k_712) k_714) k_716) k_718) k_720) k_722) k_724) k_726
theorem hiX9 : ∀ w ∈ u_ws RX9 TX9 21, w ∈ GG := by
  intro w hw
  obtain ⟨k, hk, rfl⟩ := List.mem_map.mp hw
  exact hiX9_k k (List.mem_range.mp hk)
abbrev wTy (cI cJ cB cT : ClassId) : List (ClassId × FieldType) := [(cI, .int), (cJ, .long), (cB, .byte), (cT, .object "WatchBeats$Tape")]
end
