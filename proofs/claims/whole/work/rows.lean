section
-- ===== PART A: goes FIRST, ahead of the names: the tables' words, and 'selects' of the private methods out of them =====
/-- a private method of a class that the tables say can be made, by its rows of tables_1 -/
def lw_okq (q : MethodName × Nat) : Prop := (q.1.cls ≠ "java/lang/invoke/MethodHandle" ∧ q.1.cls ≠ "java/lang/invoke/VarHandle") ∧ Cond.instantiable q.1.cls q.2 ∈ tables_1 ∧ Cond.privateMethod q.1 ∈ tables_1 ∧ Cond.instanceMethod q.1 ∈ tables_1
theorem lw_p0 : lw_okq (⟨"WatchBeats$Balance", "settle", "(I)V"⟩, 15) := ⟨⟨by decide +kernel, by decide +kernel⟩, List.mem_of_getElem? (i := 28) (by decide +kernel), List.mem_of_getElem? (i := 276) (by decide +kernel), List.mem_of_getElem? (i := 277) (by decide +kernel)⟩
theorem lw_p1 : lw_okq (⟨"WatchBeats$Balance", "bePushed", "()V"⟩, 15) := ⟨⟨by decide +kernel, by decide +kernel⟩, List.mem_of_getElem? (i := 28) (by decide +kernel), List.mem_of_getElem? (i := 317) (by decide +kernel), List.mem_of_getElem? (i := 318) (by decide +kernel)⟩
theorem lw_p2 : lw_okq (⟨"WatchBeats$Balance", "doPush", "(II)V"⟩, 15) := ⟨⟨by decide +kernel, by decide +kernel⟩, List.mem_of_getElem? (i := 28) (by decide +kernel), List.mem_of_getElem? (i := 321) (by decide +kernel), List.mem_of_getElem? (i := 322) (by decide +kernel)⟩
theorem lw_p3 : lw_okq (⟨"WatchBeats$Balance", "beDragged", "()V"⟩, 15) := ⟨⟨by decide +kernel, by decide +kernel⟩, List.mem_of_getElem? (i := 28) (by decide +kernel), List.mem_of_getElem? (i := 335) (by decide +kernel), List.mem_of_getElem? (i := 336) (by decide +kernel)⟩
theorem lw_p4 : lw_okq (⟨"WatchBeats$Balance", "swing", "()V"⟩, 15) := ⟨⟨by decide +kernel, by decide +kernel⟩, List.mem_of_getElem? (i := 28) (by decide +kernel), List.mem_of_getElem? (i := 339) (by decide +kernel), List.mem_of_getElem? (i := 340) (by decide +kernel)⟩
theorem lw_p5 : lw_okq (⟨"WatchBeats$Balance", "isLetGo", "(I)Z"⟩, 15) := ⟨⟨by decide +kernel, by decide +kernel⟩, List.mem_of_getElem? (i := 28) (by decide +kernel), List.mem_of_getElem? (i := 343) (by decide +kernel), List.mem_of_getElem? (i := 344) (by decide +kernel)⟩
theorem lw_p6 : lw_okq (⟨"WatchBeats$Balance", "beKicked", "()V"⟩, 15) := ⟨⟨by decide +kernel, by decide +kernel⟩, List.mem_of_getElem? (i := 28) (by decide +kernel), List.mem_of_getElem? (i := 347) (by decide +kernel), List.mem_of_getElem? (i := 348) (by decide +kernel)⟩
theorem lw_p7 : lw_okq (⟨"WatchBeats$Text", "letterAt", "(I)I"⟩, 5) := ⟨⟨by decide +kernel, by decide +kernel⟩, List.mem_of_getElem? (i := 181) (by decide +kernel), List.mem_of_getElem? (i := 396) (by decide +kernel), List.mem_of_getElem? (i := 397) (by decide +kernel)⟩
theorem lw_p8 : lw_okq (⟨"WatchBeats$Text", "signAt", "(I)I"⟩, 5) := ⟨⟨by decide +kernel, by decide +kernel⟩, List.mem_of_getElem? (i := 181) (by decide +kernel), List.mem_of_getElem? (i := 400) (by decide +kernel), List.mem_of_getElem? (i := 401) (by decide +kernel)⟩
theorem lw_p9 : lw_okq (⟨"WatchBeats$Text", "digitsEnd", "(I)I"⟩, 5) := ⟨⟨by decide +kernel, by decide +kernel⟩, List.mem_of_getElem? (i := 181) (by decide +kernel), List.mem_of_getElem? (i := 406) (by decide +kernel), List.mem_of_getElem? (i := 407) (by decide +kernel)⟩
theorem lw_p10 : lw_okq (⟨"WatchBeats$Text", "number", "(II)I"⟩, 5) := ⟨⟨by decide +kernel, by decide +kernel⟩, List.mem_of_getElem? (i := 181) (by decide +kernel), List.mem_of_getElem? (i := 411) (by decide +kernel), List.mem_of_getElem? (i := 412) (by decide +kernel)⟩
theorem lw_p11 : lw_okq (⟨"WatchBeats", "isClauseDone", "(II)Z"⟩, 7) := ⟨⟨by decide +kernel, by decide +kernel⟩, List.mem_of_getElem? (i := 14) (by decide +kernel), List.mem_of_getElem? (i := 415) (by decide +kernel), List.mem_of_getElem? (i := 416) (by decide +kernel)⟩
theorem lw_p12 : lw_okq (⟨"WatchBeats", "thinkAhead", "(I)V"⟩, 7) := ⟨⟨by decide +kernel, by decide +kernel⟩, List.mem_of_getElem? (i := 14) (by decide +kernel), List.mem_of_getElem? (i := 427) (by decide +kernel), List.mem_of_getElem? (i := 428) (by decide +kernel)⟩
theorem lw_p13 : lw_okq (⟨"WatchBeats", "listenFromNow", "()V"⟩, 7) := ⟨⟨by decide +kernel, by decide +kernel⟩, List.mem_of_getElem? (i := 14) (by decide +kernel), List.mem_of_getElem? (i := 447) (by decide +kernel), List.mem_of_getElem? (i := 448) (by decide +kernel)⟩
theorem lw_p14 : lw_okq (⟨"WatchBeats", "evenest", "()I"⟩, 7) := ⟨⟨by decide +kernel, by decide +kernel⟩, List.mem_of_getElem? (i := 14) (by decide +kernel), List.mem_of_getElem? (i := 464) (by decide +kernel), List.mem_of_getElem? (i := 465) (by decide +kernel)⟩
theorem lw_p15 : lw_okq (⟨"WatchBeats", "listenWith", "(II)V"⟩, 7) := ⟨⟨by decide +kernel, by decide +kernel⟩, List.mem_of_getElem? (i := 14) (by decide +kernel), List.mem_of_getElem? (i := 468) (by decide +kernel), List.mem_of_getElem? (i := 469) (by decide +kernel)⟩
def lw_privs_1 : List (MethodName × Nat) := [(⟨"WatchBeats$Balance", "settle", "(I)V"⟩, 15), (⟨"WatchBeats$Balance", "bePushed", "()V"⟩, 15), (⟨"WatchBeats$Balance", "doPush", "(II)V"⟩, 15), (⟨"WatchBeats$Balance", "beDragged", "()V"⟩, 15), (⟨"WatchBeats$Balance", "swing", "()V"⟩, 15), (⟨"WatchBeats$Balance", "isLetGo", "(I)Z"⟩, 15), (⟨"WatchBeats$Balance", "beKicked", "()V"⟩, 15), (⟨"WatchBeats$Text", "letterAt", "(I)I"⟩, 5), (⟨"WatchBeats$Text", "signAt", "(I)I"⟩, 5), (⟨"WatchBeats$Text", "digitsEnd", "(I)I"⟩, 5), (⟨"WatchBeats$Text", "number", "(II)I"⟩, 5), (⟨"WatchBeats", "isClauseDone", "(II)Z"⟩, 7), (⟨"WatchBeats", "thinkAhead", "(I)V"⟩, 7), (⟨"WatchBeats", "listenFromNow", "()V"⟩, 7), (⟨"WatchBeats", "evenest", "()I"⟩, 7), (⟨"WatchBeats", "listenWith", "(II)V"⟩, 7)]
theorem lw_r1 : ∀ q ∈ lw_privs_1, lw_okq q := List.forall_mem_cons.mpr ⟨lw_p0, List.forall_mem_cons.mpr ⟨lw_p1, List.forall_mem_cons.mpr ⟨lw_p2, List.forall_mem_cons.mpr ⟨lw_p3, List.forall_mem_cons.mpr ⟨lw_p4, List.forall_mem_cons.mpr ⟨lw_p5, List.forall_mem_cons.mpr ⟨lw_p6, List.forall_mem_cons.mpr ⟨lw_p7, List.forall_mem_cons.mpr ⟨lw_p8, List.forall_mem_cons.mpr ⟨lw_p9, List.forall_mem_cons.mpr ⟨lw_p10, List.forall_mem_cons.mpr ⟨lw_p11, List.forall_mem_cons.mpr ⟨lw_p12, List.forall_mem_cons.mpr ⟨lw_p13, List.forall_mem_cons.mpr ⟨lw_p14, List.forall_mem_cons.mpr ⟨lw_p15, fun _ h => absurd h List.not_mem_nil⟩⟩⟩⟩⟩⟩⟩⟩⟩⟩⟩⟩⟩⟩⟩⟩
theorem lw_p16 : lw_okq (⟨"WatchBeats$Heard", "gapsAheadOf", "(I)I"⟩, 2) := ⟨⟨by decide +kernel, by decide +kernel⟩, List.mem_of_getElem? (i := 167) (by decide +kernel), List.mem_of_getElem? (i := 505) (by decide +kernel), List.mem_of_getElem? (i := 506) (by decide +kernel)⟩
theorem lw_p17 : lw_okq (⟨"WatchBeats", "goesAsSeen", "(I)Z"⟩, 7) := ⟨⟨by decide +kernel, by decide +kernel⟩, List.mem_of_getElem? (i := 14) (by decide +kernel), List.mem_of_getElem? (i := 521) (by decide +kernel), List.mem_of_getElem? (i := 522) (by decide +kernel)⟩
theorem lw_p18 : lw_okq (⟨"WatchBeats", "tapeAt", "(I)LWatchBeats$Tape;"⟩, 7) := ⟨⟨by decide +kernel, by decide +kernel⟩, List.mem_of_getElem? (i := 14) (by decide +kernel), List.mem_of_getElem? (i := 555) (by decide +kernel), List.mem_of_getElem? (i := 556) (by decide +kernel)⟩
theorem lw_p19 : lw_okq (⟨"WatchBeats", "judgement", "(LWatchBeats$Tape;I)I"⟩, 7) := ⟨⟨by decide +kernel, by decide +kernel⟩, List.mem_of_getElem? (i := 14) (by decide +kernel), List.mem_of_getElem? (i := 559) (by decide +kernel), List.mem_of_getElem? (i := 560) (by decide +kernel)⟩
theorem lw_p20 : lw_okq (⟨"WatchBeatsModel", "energyNow", "()J"⟩, 21) := ⟨⟨by decide +kernel, by decide +kernel⟩, List.mem_of_getElem? (i := 623) (by decide +kernel), List.mem_of_getElem? (i := 703) (by decide +kernel), List.mem_of_getElem? (i := 704) (by decide +kernel)⟩
theorem lw_p21 : lw_okq (⟨"WatchBeatsModel", "goes", "(I)V"⟩, 21) := ⟨⟨by decide +kernel, by decide +kernel⟩, List.mem_of_getElem? (i := 623) (by decide +kernel), List.mem_of_getElem? (i := 725) (by decide +kernel), List.mem_of_getElem? (i := 726) (by decide +kernel)⟩
theorem lw_p22 : lw_okq (⟨"WatchBeatsModel", "tick", "()V"⟩, 21) := ⟨⟨by decide +kernel, by decide +kernel⟩, List.mem_of_getElem? (i := 623) (by decide +kernel), List.mem_of_getElem? (i := 729) (by decide +kernel), List.mem_of_getElem? (i := 730) (by decide +kernel)⟩
theorem lw_p23 : lw_okq (⟨"WatchBeatsModel", "pushes", "()V"⟩, 21) := ⟨⟨by decide +kernel, by decide +kernel⟩, List.mem_of_getElem? (i := 623) (by decide +kernel), List.mem_of_getElem? (i := 733) (by decide +kernel), List.mem_of_getElem? (i := 734) (by decide +kernel)⟩
theorem lw_p24 : lw_okq (⟨"WatchBeatsModel", "accounts", "(IJ)J"⟩, 21) := ⟨⟨by decide +kernel, by decide +kernel⟩, List.mem_of_getElem? (i := 623) (by decide +kernel), List.mem_of_getElem? (i := 739) (by decide +kernel), List.mem_of_getElem? (i := 740) (by decide +kernel)⟩
theorem lw_p25 : lw_okq (⟨"WatchBeatsModel", "reads", "()V"⟩, 21) := ⟨⟨by decide +kernel, by decide +kernel⟩, List.mem_of_getElem? (i := 623) (by decide +kernel), List.mem_of_getElem? (i := 768) (by decide +kernel), List.mem_of_getElem? (i := 769) (by decide +kernel)⟩
theorem lw_p26 : lw_okq (⟨"WatchBeatsModel", "isFrom", "(II)Z"⟩, 21) := ⟨⟨by decide +kernel, by decide +kernel⟩, List.mem_of_getElem? (i := 623) (by decide +kernel), List.mem_of_getElem? (i := 775) (by decide +kernel), List.mem_of_getElem? (i := 776) (by decide +kernel)⟩
theorem lw_p27 : lw_okq (⟨"WatchBeatsModel", "does", "(I)Z"⟩, 21) := ⟨⟨by decide +kernel, by decide +kernel⟩, List.mem_of_getElem? (i := 623) (by decide +kernel), List.mem_of_getElem? (i := 779) (by decide +kernel), List.mem_of_getElem? (i := 780) (by decide +kernel)⟩
theorem lw_p28 : lw_okq (⟨"WatchBeatsModel", "lays", "()V"⟩, 21) := ⟨⟨by decide +kernel, by decide +kernel⟩, List.mem_of_getElem? (i := 623) (by decide +kernel), List.mem_of_getElem? (i := 790) (by decide +kernel), List.mem_of_getElem? (i := 791) (by decide +kernel)⟩
theorem lw_p29 : lw_okq (⟨"WatchBeatsModel", "back", "()V"⟩, 21) := ⟨⟨by decide +kernel, by decide +kernel⟩, List.mem_of_getElem? (i := 623) (by decide +kernel), List.mem_of_getElem? (i := 800) (by decide +kernel), List.mem_of_getElem? (i := 801) (by decide +kernel)⟩
theorem lw_p30 : lw_okq (⟨"WatchBeatsModel", "hears", "()V"⟩, 21) := ⟨⟨by decide +kernel, by decide +kernel⟩, List.mem_of_getElem? (i := 623) (by decide +kernel), List.mem_of_getElem? (i := 812) (by decide +kernel), List.mem_of_getElem? (i := 813) (by decide +kernel)⟩
theorem lw_p31 : lw_okq (⟨"WatchBeatsModel", "hears", "(II)V"⟩, 21) := ⟨⟨by decide +kernel, by decide +kernel⟩, List.mem_of_getElem? (i := 623) (by decide +kernel), List.mem_of_getElem? (i := 816) (by decide +kernel), List.mem_of_getElem? (i := 817) (by decide +kernel)⟩
def lw_privs_2 : List (MethodName × Nat) := [(⟨"WatchBeats$Heard", "gapsAheadOf", "(I)I"⟩, 2), (⟨"WatchBeats", "goesAsSeen", "(I)Z"⟩, 7), (⟨"WatchBeats", "tapeAt", "(I)LWatchBeats$Tape;"⟩, 7), (⟨"WatchBeats", "judgement", "(LWatchBeats$Tape;I)I"⟩, 7), (⟨"WatchBeatsModel", "energyNow", "()J"⟩, 21), (⟨"WatchBeatsModel", "goes", "(I)V"⟩, 21), (⟨"WatchBeatsModel", "tick", "()V"⟩, 21), (⟨"WatchBeatsModel", "pushes", "()V"⟩, 21), (⟨"WatchBeatsModel", "accounts", "(IJ)J"⟩, 21), (⟨"WatchBeatsModel", "reads", "()V"⟩, 21), (⟨"WatchBeatsModel", "isFrom", "(II)Z"⟩, 21), (⟨"WatchBeatsModel", "does", "(I)Z"⟩, 21), (⟨"WatchBeatsModel", "lays", "()V"⟩, 21), (⟨"WatchBeatsModel", "back", "()V"⟩, 21), (⟨"WatchBeatsModel", "hears", "()V"⟩, 21), (⟨"WatchBeatsModel", "hears", "(II)V"⟩, 21)]
theorem lw_r2 : ∀ q ∈ lw_privs_2, lw_okq q := List.forall_mem_cons.mpr ⟨lw_p16, List.forall_mem_cons.mpr ⟨lw_p17, List.forall_mem_cons.mpr ⟨lw_p18, List.forall_mem_cons.mpr ⟨lw_p19, List.forall_mem_cons.mpr ⟨lw_p20, List.forall_mem_cons.mpr ⟨lw_p21, List.forall_mem_cons.mpr ⟨lw_p22, List.forall_mem_cons.mpr ⟨lw_p23, List.forall_mem_cons.mpr ⟨lw_p24, List.forall_mem_cons.mpr ⟨lw_p25, List.forall_mem_cons.mpr ⟨lw_p26, List.forall_mem_cons.mpr ⟨lw_p27, List.forall_mem_cons.mpr ⟨lw_p28, List.forall_mem_cons.mpr ⟨lw_p29, List.forall_mem_cons.mpr ⟨lw_p30, List.forall_mem_cons.mpr ⟨lw_p31, fun _ h => absurd h List.not_mem_nil⟩⟩⟩⟩⟩⟩⟩⟩⟩⟩⟩⟩⟩⟩⟩⟩
theorem lw_p32 : lw_okq (⟨"WatchBeatsModel", "evenest", "()I"⟩, 21) := ⟨⟨by decide +kernel, by decide +kernel⟩, List.mem_of_getElem? (i := 623) (by decide +kernel), List.mem_of_getElem? (i := 824) (by decide +kernel), List.mem_of_getElem? (i := 825) (by decide +kernel)⟩
theorem lw_p33 : lw_okq (⟨"WatchBeatsModel", "uneven", "()I"⟩, 21) := ⟨⟨by decide +kernel, by decide +kernel⟩, List.mem_of_getElem? (i := 623) (by decide +kernel), List.mem_of_getElem? (i := 828) (by decide +kernel), List.mem_of_getElem? (i := 829) (by decide +kernel)⟩
theorem lw_p34 : lw_okq (⟨"WatchBeatsModel", "gaps", "()I"⟩, 21) := ⟨⟨by decide +kernel, by decide +kernel⟩, List.mem_of_getElem? (i := 623) (by decide +kernel), List.mem_of_getElem? (i := 832) (by decide +kernel), List.mem_of_getElem? (i := 833) (by decide +kernel)⟩
theorem lw_p35 : lw_okq (⟨"WatchBeatsModel", "gapOf", "(I)I"⟩, 21) := ⟨⟨by decide +kernel, by decide +kernel⟩, List.mem_of_getElem? (i := 623) (by decide +kernel), List.mem_of_getElem? (i := 836) (by decide +kernel), List.mem_of_getElem? (i := 837) (by decide +kernel)⟩
theorem lw_p36 : lw_okq (⟨"WatchBeatsModel", "isSeen", "()Z"⟩, 21) := ⟨⟨by decide +kernel, by decide +kernel⟩, List.mem_of_getElem? (i := 623) (by decide +kernel), List.mem_of_getElem? (i := 857) (by decide +kernel), List.mem_of_getElem? (i := 858) (by decide +kernel)⟩
def lw_privs_3 : List (MethodName × Nat) := [(⟨"WatchBeatsModel", "evenest", "()I"⟩, 21), (⟨"WatchBeatsModel", "uneven", "()I"⟩, 21), (⟨"WatchBeatsModel", "gaps", "()I"⟩, 21), (⟨"WatchBeatsModel", "gapOf", "(I)I"⟩, 21), (⟨"WatchBeatsModel", "isSeen", "()Z"⟩, 21)]
theorem lw_r3 : ∀ q ∈ lw_privs_3, lw_okq q := List.forall_mem_cons.mpr ⟨lw_p32, List.forall_mem_cons.mpr ⟨lw_p33, List.forall_mem_cons.mpr ⟨lw_p34, List.forall_mem_cons.mpr ⟨lw_p35, List.forall_mem_cons.mpr ⟨lw_p36, fun _ h => absurd h List.not_mem_nil⟩⟩⟩⟩⟩
def lw_privs : List (MethodName × Nat) := lw_privs_1 ++ (lw_privs_2 ++ (lw_privs_3))
def lw_tbl : List Cond := k2_sels lw_privs ++ tables_1
theorem lw_privs_ok : ∀ q ∈ lw_privs, lw_okq q := by
  show ∀ q ∈ lw_privs_1 ++ (lw_privs_2 ++ (lw_privs_3)), lw_okq q
  exact List.forall_mem_append.mpr ⟨lw_r1, List.forall_mem_append.mpr ⟨lw_r2, lw_r3⟩⟩
-- ===== end of PART A; then your names; then what follows =====
end
section
/-! ===== BEGIN printed: names, fields, word lists, decode rows ===== -/
def RX0 : String := "WatchBeats$Balance"
def TX0 : u_T := fun k => match k with
  | 0 => ("WatchBeats$Balance", "angle", "I", false)
  | 1 => ("WatchBeats$Balance", "speed", "I", false)
  | 2 => ("WatchBeats$Balance", "drag", "I", false)
  | 3 => ("WatchBeats$Balance", "offset", "I", false)
  | 4 => ("WatchBeats$Balance", "pallets", "I", false)
  | 5 => ("WatchBeats$Balance", "clock", "I", false)
  | 6 => ("WatchBeats$Balance", "beats", "I", false)
  | 7 => ("WatchBeats$Balance", "bangs", "I", false)
  | 8 => ("WatchBeats$Balance", "stiff", "I", false)
  | 9 => ("WatchBeats$Balance", "force", "I", false)
  | 10 => ("WatchBeats$Balance", "life", "I", false)
  | 11 => ("WatchBeats$Balance", "pushes", "LWatchBeats$Pushes;", true)
  | 12 => ("WatchBeats$Balance", "account", "[J", true)
  | 13 => ("WatchBeats$Balance", "settled", "J", false)
  | _ => ("WatchBeats$Balance", "isAccounted", "Z", true)
def tyX0 : Nat → FieldType := fun k => match k with
  | 0 => .int
  | 1 => .int
  | 2 => .int
  | 3 => .int
  | 4 => .int
  | 5 => .int
  | 6 => .int
  | 7 => .int
  | 8 => .int
  | 9 => .int
  | 10 => .int
  | 11 => .object "WatchBeats$Pushes"
  | 12 => .array .long
  | 13 => .long
  | _ => .boolean
abbrev wsX00 : List Cond := u_ws RX0 TX0 15
theorem nmX0 : ∀ a, a < 15 → ∀ b, b < 15 → a ≠ b → (TX0 a).2.1 ≠ (TX0 b).2.1 := by decide +kernel
theorem tyX0_ok : ∀ k, k < 15 → parseFieldDescriptor (TX0 k).2.2.1 = some (tyX0 k) := by decide +kernel
abbrev cX0_init : ByteArray := prog_2_method_1_code
def yX0_init : MethodName := ⟨RX0, "<init>", "(Z)V"⟩
abbrev cX0_copy : ByteArray := prog_2_method_2_code
def yX0_copy : MethodName := ⟨RX0, "copy", "(LWatchBeats$Balance;)V"⟩
abbrev cX0_valueOf : ByteArray := prog_2_method_3_code
def yX0_valueOf : MethodName := ⟨RX0, "valueOf", "(I)I"⟩
abbrev cX0_put : ByteArray := prog_2_method_4_code
def yX0_put : MethodName := ⟨RX0, "put", "(II)V"⟩
abbrev cX0_putByHand : ByteArray := prog_2_method_5_code
def yX0_putByHand : MethodName := ⟨RX0, "putByHand", "(II)V"⟩
abbrev cX0_energyNow : ByteArray := prog_2_method_6_code
def yX0_energyNow : MethodName := ⟨RX0, "energyNow", "()J"⟩
abbrev cX0_settle : ByteArray := prog_2_method_7_code
def yX0_settle : MethodName := ⟨RX0, "settle", "(I)V"⟩
abbrev cX0_tick : ByteArray := prog_2_method_8_code
def yX0_tick : MethodName := ⟨RX0, "tick", "()Z"⟩
abbrev cX0_bePushed : ByteArray := prog_2_method_9_code
def yX0_bePushed : MethodName := ⟨RX0, "bePushed", "()V"⟩
abbrev cX0_doPush : ByteArray := prog_2_method_10_code
def yX0_doPush : MethodName := ⟨RX0, "doPush", "(II)V"⟩
abbrev cX0_beDragged : ByteArray := prog_2_method_11_code
def yX0_beDragged : MethodName := ⟨RX0, "beDragged", "()V"⟩
abbrev cX0_swing : ByteArray := prog_2_method_12_code
def yX0_swing : MethodName := ⟨RX0, "swing", "()V"⟩
abbrev cX0_isLetGo : ByteArray := prog_2_method_13_code
def yX0_isLetGo : MethodName := ⟨RX0, "isLetGo", "(I)Z"⟩
abbrev cX0_beKicked : ByteArray := prog_2_method_14_code
def yX0_beKicked : MethodName := ⟨RX0, "beKicked", "()V"⟩
def RX1 : String := "WatchBeats$Heard"
def TX1 : u_T := fun k => match k with
  | 0 => ("WatchBeats$Heard", "at", "[I", true)
  | _ => ("WatchBeats$Heard", "beats", "I", false)
def tyX1 : Nat → FieldType := fun k => match k with
  | 0 => .array .int
  | _ => .int
abbrev wsX10 : List Cond := u_ws RX1 TX1 2
theorem nmX1 : ∀ a, a < 2 → ∀ b, b < 2 → a ≠ b → (TX1 a).2.1 ≠ (TX1 b).2.1 := by decide +kernel
theorem tyX1_ok : ∀ k, k < 2 → parseFieldDescriptor (TX1 k).2.2.1 = some (tyX1 k) := by decide +kernel
abbrev cX1_init : ByteArray := prog_3_method_1_code
def yX1_init : MethodName := ⟨RX1, "<init>", "()V"⟩
abbrev cX1_listen : ByteArray := prog_3_method_2_code
def yX1_listen : MethodName := ⟨RX1, "listen", "(LWatchBeats$Balance;)V"⟩
abbrev cX1_beatAt : ByteArray := prog_3_method_3_code
def yX1_beatAt : MethodName := ⟨RX1, "beatAt", "(I)I"⟩
abbrev cX1_gaps : ByteArray := prog_3_method_4_code
def yX1_gaps : MethodName := ⟨RX1, "gaps", "()I"⟩
abbrev cX1_gapAt : ByteArray := prog_3_method_5_code
def yX1_gapAt : MethodName := ⟨RX1, "gapAt", "(I)I"⟩
abbrev cX1_uneven : ByteArray := prog_3_method_6_code
def yX1_uneven : MethodName := ⟨RX1, "uneven", "()I"⟩
abbrev cX1_longestGap : ByteArray := prog_3_method_7_code
def yX1_longestGap : MethodName := ⟨RX1, "longestGap", "(I)I"⟩
abbrev cX1_gapsAheadOf : ByteArray := prog_3_method_8_code
def yX1_gapsAheadOf : MethodName := ⟨RX1, "gapsAheadOf", "(I)I"⟩
def RX2 : String := "WatchBeats$Pushes"
def TX2 : u_T := fun k => match k with
  | 0 => ("WatchBeats$Pushes", "times", "[I", true)
  | 1 => ("WatchBeats$Pushes", "whats", "[I", true)
  | 2 => ("WatchBeats$Pushes", "sizes", "[I", true)
  | _ => ("WatchBeats$Pushes", "waiting", "I", false)
def tyX2 : Nat → FieldType := fun k => match k with
  | 0 => .array .int
  | 1 => .array .int
  | 2 => .array .int
  | _ => .int
abbrev wsX20 : List Cond := u_ws RX2 TX2 4
theorem nmX2 : ∀ a, a < 4 → ∀ b, b < 4 → a ≠ b → (TX2 a).2.1 ≠ (TX2 b).2.1 := by decide +kernel
theorem tyX2_ok : ∀ k, k < 4 → parseFieldDescriptor (TX2 k).2.2.1 = some (tyX2 k) := by decide +kernel
abbrev cX2_init : ByteArray := prog_4_method_1_code
def yX2_init : MethodName := ⟨RX2, "<init>", "()V"⟩
abbrev cX2_add : ByteArray := prog_4_method_2_code
def yX2_add : MethodName := ⟨RX2, "add", "(III)V"⟩
abbrev cX2_removeFirst : ByteArray := prog_4_method_3_code
def yX2_removeFirst : MethodName := ⟨RX2, "removeFirst", "(I)V"⟩
abbrev cX2_copy : ByteArray := prog_4_method_4_code
def yX2_copy : MethodName := ⟨RX2, "copy", "(LWatchBeats$Pushes;)V"⟩
def RX3 : String := "WatchBeats$Rows"
def TX3 : u_T := fun k => match k with
  | 0 => ("WatchBeats$Rows", "first", "[I", true)
  | 1 => ("WatchBeats$Rows", "second", "[I", true)
  | _ => ("WatchBeats$Rows", "held", "I", false)
def tyX3 : Nat → FieldType := fun k => match k with
  | 0 => .array .int
  | 1 => .array .int
  | _ => .int
abbrev wsX30 : List Cond := u_ws RX3 TX3 3
theorem nmX3 : ∀ a, a < 3 → ∀ b, b < 3 → a ≠ b → (TX3 a).2.1 ≠ (TX3 b).2.1 := by decide +kernel
theorem tyX3_ok : ∀ k, k < 3 → parseFieldDescriptor (TX3 k).2.2.1 = some (tyX3 k) := by decide +kernel
abbrev cX3_init : ByteArray := prog_5_method_1_code
def yX3_init : MethodName := ⟨RX3, "<init>", "()V"⟩
abbrev cX3_add : ByteArray := prog_5_method_2_code
def yX3_add : MethodName := ⟨RX3, "add", "(II)V"⟩
abbrev cX3_greatestFirst : ByteArray := prog_5_method_3_code
def yX3_greatestFirst : MethodName := ⟨RX3, "greatestFirst", "()I"⟩
abbrev cX3_allows : ByteArray := prog_5_method_4_code
def yX3_allows : MethodName := ⟨RX3, "allows", "(II)Z"⟩
abbrev cX3_copy : ByteArray := prog_5_method_5_code
def yX3_copy : MethodName := ⟨RX3, "copy", "(LWatchBeats$Rows;)V"⟩
def RX4 : String := "WatchBeats$Tape"
def TX4 : u_T := fun k => match k with
  | 0 => ("WatchBeats$Tape", "sort", "I", false)
  | 1 => ("WatchBeats$Tape", "size", "I", false)
  | _ => ("WatchBeats$Tape", "items", "[J", true)
def tyX4 : Nat → FieldType := fun k => match k with
  | 0 => .int
  | 1 => .int
  | _ => .array .long
abbrev wsX40 : List Cond := u_ws RX4 TX4 3
theorem nmX4 : ∀ a, a < 3 → ∀ b, b < 3 → a ≠ b → (TX4 a).2.1 ≠ (TX4 b).2.1 := by decide +kernel
theorem tyX4_ok : ∀ k, k < 3 → parseFieldDescriptor (TX4 k).2.2.1 = some (tyX4 k) := by decide +kernel
abbrev cX4_init : ByteArray := prog_6_method_1_code
def yX4_init : MethodName := ⟨RX4, "<init>", "()V"⟩
abbrev cX4_clear : ByteArray := prog_6_method_2_code
def yX4_clear : MethodName := ⟨RX4, "clear", "(II)V"⟩
abbrev cX4_has : ByteArray := prog_6_method_3_code
def yX4_has : MethodName := ⟨RX4, "has", "(I)Z"⟩
abbrev cX4_hasRun : ByteArray := prog_6_method_4_code
def yX4_hasRun : MethodName := ⟨RX4, "hasRun", "(II)Z"⟩
abbrev cX4_asItem : ByteArray := prog_6_method_5_code
def yX4_asItem : MethodName := ⟨RX4, "asItem", "(J)J"⟩
def RX5 : String := "WatchBeats$Text"
def TX5 : u_T := fun k => match k with
  | 0 => ("WatchBeats$Text", "signs", "[B", true)
  | 1 => ("WatchBeats$Text", "length", "I", false)
  | 2 => ("WatchBeats$Text", "whats", "[I", true)
  | 3 => ("WatchBeats$Text", "numbers", "[I", true)
  | _ => ("WatchBeats$Text", "clauses", "I", false)
def tyX5 : Nat → FieldType := fun k => match k with
  | 0 => .array .byte
  | 1 => .int
  | 2 => .array .int
  | 3 => .array .int
  | _ => .int
abbrev wsX50 : List Cond := u_ws RX5 TX5 5
theorem nmX5 : ∀ a, a < 5 → ∀ b, b < 5 → a ≠ b → (TX5 a).2.1 ≠ (TX5 b).2.1 := by decide +kernel
theorem tyX5_ok : ∀ k, k < 5 → parseFieldDescriptor (TX5 k).2.2.1 = some (tyX5 k) := by decide +kernel
abbrev cX5_init : ByteArray := prog_7_method_1_code
def yX5_init : MethodName := ⟨RX5, "<init>", "()V"⟩
abbrev cX5_add : ByteArray := prog_7_method_2_code
def yX5_add : MethodName := ⟨RX5, "add", "(I)V"⟩
abbrev cX5_parse : ByteArray := prog_7_method_3_code
def yX5_parse : MethodName := ⟨RX5, "parse", "()I"⟩
abbrev cX5_signAt : ByteArray := prog_7_method_4_code
def yX5_signAt : MethodName := ⟨RX5, "signAt", "(I)I"⟩
abbrev cX5_letterAt : ByteArray := prog_7_method_5_code
def yX5_letterAt : MethodName := ⟨RX5, "letterAt", "(I)I"⟩
abbrev cX5_digitsEnd : ByteArray := prog_7_method_6_code
def yX5_digitsEnd : MethodName := ⟨RX5, "digitsEnd", "(I)I"⟩
abbrev cX5_number : ByteArray := prog_7_method_7_code
def yX5_number : MethodName := ⟨RX5, "number", "(II)I"⟩
def RX6 : String := "WatchBeats$Train"
def TX6 : u_T := fun k => match k with
  | 0 => ("WatchBeats$Train", "teeth", "[I", true)
  | _ => ("WatchBeats$Train", "wheels", "I", false)
def tyX6 : Nat → FieldType := fun k => match k with
  | 0 => .array .int
  | _ => .int
abbrev wsX60 : List Cond := u_ws RX6 TX6 2
theorem nmX6 : ∀ a, a < 2 → ∀ b, b < 2 → a ≠ b → (TX6 a).2.1 ≠ (TX6 b).2.1 := by decide +kernel
theorem tyX6_ok : ∀ k, k < 2 → parseFieldDescriptor (TX6 k).2.2.1 = some (tyX6 k) := by decide +kernel
abbrev cX6_init : ByteArray := prog_8_method_1_code
def yX6_init : MethodName := ⟨RX6, "<init>", "()V"⟩
abbrev cX6_add : ByteArray := prog_8_method_2_code
def yX6_add : MethodName := ⟨RX6, "add", "(I)V"⟩
abbrev cX6_beatsOfOneTurn : ByteArray := prog_8_method_3_code
def yX6_beatsOfOneTurn : MethodName := ⟨RX6, "beatsOfOneTurn", "(I)J"⟩
abbrev cX6_copy : ByteArray := prog_8_method_4_code
def yX6_copy : MethodName := ⟨RX6, "copy", "(LWatchBeats$Train;)V"⟩
def RX7 : String := "WatchBeats$Whole"
def TX7 : u_T := fun k => match k with
  | 0 => ("WatchBeats$Whole", "balance", "LWatchBeats$Balance;", true)
  | 1 => ("WatchBeats$Whole", "train", "LWatchBeats$Train;", true)
  | 2 => ("WatchBeats$Whole", "seen", "LWatchBeats$Rows;", true)
  | _ => ("WatchBeats$Whole", "book", "LWatchBeats$Rows;", true)
def tyX7 : Nat → FieldType := fun k => match k with
  | 0 => .object "WatchBeats$Balance"
  | 1 => .object "WatchBeats$Train"
  | 2 => .object "WatchBeats$Rows"
  | _ => .object "WatchBeats$Rows"
abbrev wsX70 : List Cond := u_ws RX7 TX7 4
theorem nmX7 : ∀ a, a < 4 → ∀ b, b < 4 → a ≠ b → (TX7 a).2.1 ≠ (TX7 b).2.1 := by decide +kernel
theorem tyX7_ok : ∀ k, k < 4 → parseFieldDescriptor (TX7 k).2.2.1 = some (tyX7 k) := by decide +kernel
abbrev cX7_init : ByteArray := prog_9_method_1_code
def yX7_init : MethodName := ⟨RX7, "<init>", "()V"⟩
abbrev cX7_copy : ByteArray := prog_9_method_2_code
def yX7_copy : MethodName := ⟨RX7, "copy", "(LWatchBeats$Whole;)V"⟩
def RX8 : String := "WatchBeats"
def TX8 : u_T := fun k => match k with
  | 0 => ("WatchBeats", "now", "LWatchBeats$Whole;", true)
  | 1 => ("WatchBeats", "kept", "LWatchBeats$Whole;", true)
  | 2 => ("WatchBeats", "isKept", "Z", false)
  | 3 => ("WatchBeats", "thought", "LWatchBeats$Balance;", true)
  | 4 => ("WatchBeats", "heardAhead", "LWatchBeats$Heard;", true)
  | 5 => ("WatchBeats", "text", "LWatchBeats$Text;", true)
  | _ => ("WatchBeats", "tapes", "[LWatchBeats$Tape;", true)
def tyX8 : Nat → FieldType := fun k => match k with
  | 0 => .object "WatchBeats$Whole"
  | 1 => .object "WatchBeats$Whole"
  | 2 => .boolean
  | 3 => .object "WatchBeats$Balance"
  | 4 => .object "WatchBeats$Heard"
  | 5 => .object "WatchBeats$Text"
  | _ => .array (.object "WatchBeats$Tape")
abbrev wsX80 : List Cond := u_ws RX8 TX8 7
theorem nmX8 : ∀ a, a < 7 → ∀ b, b < 7 → a ≠ b → (TX8 a).2.1 ≠ (TX8 b).2.1 := by decide +kernel
theorem tyX8_ok : ∀ k, k < 7 → parseFieldDescriptor (TX8 k).2.2.1 = some (tyX8 k) := by decide +kernel
abbrev cX8_init : ByteArray := prog_1_method_1_code
def yX8_init : MethodName := ⟨RX8, "<init>", "()V"⟩
abbrev cX8_set : ByteArray := prog_1_method_2_code
def yX8_set : MethodName := ⟨RX8, "set", "(II)I"⟩
abbrev cX8_told : ByteArray := prog_1_method_3_code
def yX8_told : MethodName := ⟨RX8, "told", "(I)I"⟩
abbrev cX8_push : ByteArray := prog_1_method_4_code
def yX8_push : MethodName := ⟨RX8, "push", "(III)I"⟩
abbrev cX8_pushOf : ByteArray := prog_1_method_5_code
def yX8_pushOf : MethodName := ⟨RX8, "pushOf", "(II)I"⟩
abbrev cX8_go : ByteArray := prog_1_method_6_code
def yX8_go : MethodName := ⟨RX8, "go", "(I)I"⟩
abbrev cX8_wheel : ByteArray := prog_1_method_7_code
def yX8_wheel : MethodName := ⟨RX8, "wheel", "(I)I"⟩
abbrev cX8_turns : ByteArray := prog_1_method_8_code
def yX8_turns : MethodName := ⟨RX8, "turns", "(II)J"⟩
abbrev cX8_energy : ByteArray := prog_1_method_9_code
def yX8_energy : MethodName := ⟨RX8, "energy", "(I)J"⟩
abbrev cX8_feed : ByteArray := prog_1_method_10_code
def yX8_feed : MethodName := ⟨RX8, "feed", "(I)I"⟩
abbrev cX8_read : ByteArray := prog_1_method_11_code
def yX8_read : MethodName := ⟨RX8, "read", "()I"⟩
abbrev cX8_ahead : ByteArray := prog_1_method_12_code
def yX8_ahead : MethodName := ⟨RX8, "ahead", "(II)I"⟩
abbrev cX8_energyAt : ByteArray := prog_1_method_13_code
def yX8_energyAt : MethodName := ⟨RX8, "energyAt", "(I)J"⟩
abbrev cX8_heard : ByteArray := prog_1_method_14_code
def yX8_heard : MethodName := ⟨RX8, "heard", "(I)I"⟩
abbrev cX8_beat : ByteArray := prog_1_method_15_code
def yX8_beat : MethodName := ⟨RX8, "beat", "(I)I"⟩
abbrev cX8_gap : ByteArray := prog_1_method_16_code
def yX8_gap : MethodName := ⟨RX8, "gap", "(I)I"⟩
abbrev cX8_longest : ByteArray := prog_1_method_17_code
def yX8_longest : MethodName := ⟨RX8, "longest", "(II)I"⟩
abbrev cX8_see : ByteArray := prog_1_method_18_code
def yX8_see : MethodName := ⟨RX8, "see", "(II)I"⟩
abbrev cX8_fits : ByteArray := prog_1_method_19_code
def yX8_fits : MethodName := ⟨RX8, "fits", "(I)I"⟩
abbrev cX8_odds : ByteArray := prog_1_method_20_code
def yX8_odds : MethodName := ⟨RX8, "odds", "(II)J"⟩
abbrev cX8_mean : ByteArray := prog_1_method_21_code
def yX8_mean : MethodName := ⟨RX8, "mean", "(I)J"⟩
abbrev cX8_book : ByteArray := prog_1_method_22_code
def yX8_book : MethodName := ⟨RX8, "book", "(II)I"⟩
abbrev cX8_looked : ByteArray := prog_1_method_23_code
def yX8_looked : MethodName := ⟨RX8, "looked", "()I"⟩
abbrev cX8_judge : ByteArray := prog_1_method_24_code
def yX8_judge : MethodName := ⟨RX8, "judge", "(II)I"⟩
abbrev cX8_image : ByteArray := prog_1_method_25_code
def yX8_image : MethodName := ⟨RX8, "image", "()I"⟩
abbrev cX8_undo : ByteArray := prog_1_method_26_code
def yX8_undo : MethodName := ⟨RX8, "undo", "()I"⟩
abbrev cX8_count : ByteArray := prog_1_method_27_code
def yX8_count : MethodName := ⟨RX8, "count", "(I)I"⟩
abbrev cX8_tape : ByteArray := prog_1_method_28_code
def yX8_tape : MethodName := ⟨RX8, "tape", "(III)I"⟩
abbrev cX8_item : ByteArray := prog_1_method_29_code
def yX8_item : MethodName := ⟨RX8, "item", "(IIJ)I"⟩
abbrev cX8_peek : ByteArray := prog_1_method_30_code
def yX8_peek : MethodName := ⟨RX8, "peek", "(II)J"⟩
abbrev cX8_shift : ByteArray := prog_1_method_31_code
def yX8_shift : MethodName := ⟨RX8, "shift", "(IIIII)I"⟩
abbrev cX8_isBetween : ByteArray := prog_1_method_32_code
def yX8_isBetween : MethodName := ⟨RX8, "isBetween", "(III)Z"⟩
abbrev cX8_isSettable : ByteArray := prog_1_method_33_code
def yX8_isSettable : MethodName := ⟨RX8, "isSettable", "(II)Z"⟩
abbrev cX8_isPushable : ByteArray := prog_1_method_34_code
def yX8_isPushable : MethodName := ⟨RX8, "isPushable", "(II)Z"⟩
abbrev cX8_partOfFraction : ByteArray := prog_1_method_35_code
def yX8_partOfFraction : MethodName := ⟨RX8, "partOfFraction", "(JJI)J"⟩
abbrev cX8_commonDivisor : ByteArray := prog_1_method_36_code
def yX8_commonDivisor : MethodName := ⟨RX8, "commonDivisor", "(JJ)J"⟩
abbrev cX8_isClauseDone : ByteArray := prog_1_method_37_code
def yX8_isClauseDone : MethodName := ⟨RX8, "isClauseDone", "(II)Z"⟩
abbrev cX8_thinkAhead : ByteArray := prog_1_method_38_code
def yX8_thinkAhead : MethodName := ⟨RX8, "thinkAhead", "(I)V"⟩
abbrev cX8_listenFromNow : ByteArray := prog_1_method_39_code
def yX8_listenFromNow : MethodName := ⟨RX8, "listenFromNow", "()V"⟩
abbrev cX8_listenWith : ByteArray := prog_1_method_40_code
def yX8_listenWith : MethodName := ⟨RX8, "listenWith", "(II)V"⟩
abbrev cX8_evenest : ByteArray := prog_1_method_41_code
def yX8_evenest : MethodName := ⟨RX8, "evenest", "()I"⟩
abbrev cX8_goesAsSeen : ByteArray := prog_1_method_42_code
def yX8_goesAsSeen : MethodName := ⟨RX8, "goesAsSeen", "(I)Z"⟩
abbrev cX8_judgement : ByteArray := prog_1_method_43_code
def yX8_judgement : MethodName := ⟨RX8, "judgement", "(LWatchBeats$Tape;I)I"⟩
abbrev cX8_tapeAt : ByteArray := prog_1_method_44_code
def yX8_tapeAt : MethodName := ⟨RX8, "tapeAt", "(I)LWatchBeats$Tape;"⟩
def RX9 : String := "WatchBeatsModel"
def TX9 : u_T := fun k => match k with
  | 0 => ("WatchBeatsModel", "now", "[I", true)
  | 1 => ("WatchBeatsModel", "old", "[I", true)
  | 2 => ("WatchBeatsModel", "ahead", "[I", true)
  | 3 => ("WatchBeatsModel", "imaged", "Z", false)
  | 4 => ("WatchBeatsModel", "account", "[J", true)
  | 5 => ("WatchBeatsModel", "oldAccount", "[J", true)
  | 6 => ("WatchBeatsModel", "aheadAccount", "[J", true)
  | 7 => ("WatchBeatsModel", "beats", "I", false)
  | 8 => ("WatchBeatsModel", "begun", "I", false)
  | 9 => ("WatchBeatsModel", "beatAt", "[I", true)
  | 10 => ("WatchBeatsModel", "texts", "I", false)
  | 11 => ("WatchBeatsModel", "text", "[I", true)
  | 12 => ("WatchBeatsModel", "at", "I", false)
  | 13 => ("WatchBeatsModel", "fault", "I", false)
  | 14 => ("WatchBeatsModel", "clauses", "I", false)
  | 15 => ("WatchBeatsModel", "clause", "[I", true)
  | 16 => ("WatchBeatsModel", "number", "[I", true)
  | 17 => ("WatchBeatsModel", "sort", "[I", true)
  | 18 => ("WatchBeatsModel", "size", "[I", true)
  | 19 => ("WatchBeatsModel", "items", "[J", true)
  | _ => ("WatchBeatsModel", "moved", "[J", true)
def tyX9 : Nat → FieldType := fun k => match k with
  | 0 => .array .int
  | 1 => .array .int
  | 2 => .array .int
  | 3 => .boolean
  | 4 => .array .long
  | 5 => .array .long
  | 6 => .array .long
  | 7 => .int
  | 8 => .int
  | 9 => .array .int
  | 10 => .int
  | 11 => .array .int
  | 12 => .int
  | 13 => .int
  | 14 => .int
  | 15 => .array .int
  | 16 => .array .int
  | 17 => .array .int
  | 18 => .array .int
  | 19 => .array .long
  | _ => .array .long
abbrev wsX90 : List Cond := u_ws RX9 TX9 21
theorem nmX9 : ∀ a, a < 21 → ∀ b, b < 21 → a ≠ b → (TX9 a).2.1 ≠ (TX9 b).2.1 := by decide +kernel
theorem tyX9_ok : ∀ k, k < 21 → parseFieldDescriptor (TX9 k).2.2.1 = some (tyX9 k) := by decide +kernel
abbrev cX9_init : ByteArray := prog_11_method_1_code
def yX9_init : MethodName := ⟨RX9, "<init>", "()V"⟩
abbrev cX9_within : ByteArray := prog_11_method_2_code
def yX9_within : MethodName := ⟨RX9, "within", "(III)Z"⟩
abbrev cX9_isSo : ByteArray := prog_11_method_3_code
def yX9_isSo : MethodName := ⟨RX9, "isSo", "(II)Z"⟩
abbrev cX9_energyNow : ByteArray := prog_11_method_4_code
def yX9_energyNow : MethodName := ⟨RX9, "energyNow", "()J"⟩
abbrev cX9_set : ByteArray := prog_11_method_5_code
def yX9_set : MethodName := ⟨RX9, "set", "(II)I"⟩
abbrev cX9_told : ByteArray := prog_11_method_6_code
def yX9_told : MethodName := ⟨RX9, "told", "(I)I"⟩
abbrev cX9_push : ByteArray := prog_11_method_7_code
def yX9_push : MethodName := ⟨RX9, "push", "(III)I"⟩
abbrev cX9_pushOf : ByteArray := prog_11_method_8_code
def yX9_pushOf : MethodName := ⟨RX9, "pushOf", "(II)I"⟩
abbrev cX9_pushes : ByteArray := prog_11_method_9_code
def yX9_pushes : MethodName := ⟨RX9, "pushes", "()V"⟩
abbrev cX9_accounts : ByteArray := prog_11_method_10_code
def yX9_accounts : MethodName := ⟨RX9, "accounts", "(IJ)J"⟩
abbrev cX9_tick : ByteArray := prog_11_method_11_code
def yX9_tick : MethodName := ⟨RX9, "tick", "()V"⟩
abbrev cX9_goes : ByteArray := prog_11_method_12_code
def yX9_goes : MethodName := ⟨RX9, "goes", "(I)V"⟩
abbrev cX9_go : ByteArray := prog_11_method_13_code
def yX9_go : MethodName := ⟨RX9, "go", "(I)I"⟩
abbrev cX9_wheel : ByteArray := prog_11_method_14_code
def yX9_wheel : MethodName := ⟨RX9, "wheel", "(I)I"⟩
abbrev cX9_lowest : ByteArray := prog_11_method_15_code
def yX9_lowest : MethodName := ⟨RX9, "lowest", "(JJI)J"⟩
abbrev cX9_turns : ByteArray := prog_11_method_16_code
def yX9_turns : MethodName := ⟨RX9, "turns", "(II)J"⟩
abbrev cX9_energy : ByteArray := prog_11_method_17_code
def yX9_energy : MethodName := ⟨RX9, "energy", "(I)J"⟩
abbrev cX9_feed : ByteArray := prog_11_method_18_code
def yX9_feed : MethodName := ⟨RX9, "feed", "(I)I"⟩
abbrev cX9_isFrom : ByteArray := prog_11_method_19_code
def yX9_isFrom : MethodName := ⟨RX9, "isFrom", "(II)Z"⟩
abbrev cX9_letter : ByteArray := prog_11_method_20_code
def yX9_letter : MethodName := ⟨RX9, "letter", "(I)I"⟩
abbrev cX9_reads : ByteArray := prog_11_method_21_code
def yX9_reads : MethodName := ⟨RX9, "reads", "()V"⟩
abbrev cX9_does : ByteArray := prog_11_method_22_code
def yX9_does : MethodName := ⟨RX9, "does", "(I)Z"⟩
abbrev cX9_read : ByteArray := prog_11_method_23_code
def yX9_read : MethodName := ⟨RX9, "read", "()I"⟩
abbrev cX9_pours : ByteArray := prog_11_method_24_code
def yX9_pours : MethodName := ⟨RX9, "pours", "([I[I)V"⟩
abbrev cX9_poursLongs : ByteArray := prog_11_method_25_code
def yX9_poursLongs : MethodName := ⟨RX9, "poursLongs", "([J[J)V"⟩
abbrev cX9_lays : ByteArray := prog_11_method_26_code
def yX9_lays : MethodName := ⟨RX9, "lays", "()V"⟩
abbrev cX9_back : ByteArray := prog_11_method_27_code
def yX9_back : MethodName := ⟨RX9, "back", "()V"⟩
abbrev cX9_ahead : ByteArray := prog_11_method_28_code
def yX9_ahead : MethodName := ⟨RX9, "ahead", "(II)I"⟩
abbrev cX9_energyAt : ByteArray := prog_11_method_29_code
def yX9_energyAt : MethodName := ⟨RX9, "energyAt", "(I)J"⟩
abbrev cX9_hears : ByteArray := prog_11_method_30_code
def yX9_hears : MethodName := ⟨RX9, "hears", "(II)V"⟩
abbrev cX9_hears_ : ByteArray := prog_11_method_31_code
def yX9_hears_ : MethodName := ⟨RX9, "hears", "()V"⟩
abbrev cX9_heard : ByteArray := prog_11_method_32_code
def yX9_heard : MethodName := ⟨RX9, "heard", "(I)I"⟩
abbrev cX9_gaps : ByteArray := prog_11_method_33_code
def yX9_gaps : MethodName := ⟨RX9, "gaps", "()I"⟩
abbrev cX9_gapOf : ByteArray := prog_11_method_34_code
def yX9_gapOf : MethodName := ⟨RX9, "gapOf", "(I)I"⟩
abbrev cX9_uneven : ByteArray := prog_11_method_35_code
def yX9_uneven : MethodName := ⟨RX9, "uneven", "()I"⟩
abbrev cX9_evenest : ByteArray := prog_11_method_36_code
def yX9_evenest : MethodName := ⟨RX9, "evenest", "()I"⟩
abbrev cX9_beat : ByteArray := prog_11_method_37_code
def yX9_beat : MethodName := ⟨RX9, "beat", "(I)I"⟩
abbrev cX9_gap : ByteArray := prog_11_method_38_code
def yX9_gap : MethodName := ⟨RX9, "gap", "(I)I"⟩
abbrev cX9_longest : ByteArray := prog_11_method_39_code
def yX9_longest : MethodName := ⟨RX9, "longest", "(II)I"⟩
abbrev cX9_see : ByteArray := prog_11_method_40_code
def yX9_see : MethodName := ⟨RX9, "see", "(II)I"⟩
abbrev cX9_isSeen : ByteArray := prog_11_method_41_code
def yX9_isSeen : MethodName := ⟨RX9, "isSeen", "()Z"⟩
abbrev cX9_fits : ByteArray := prog_11_method_42_code
def yX9_fits : MethodName := ⟨RX9, "fits", "(I)I"⟩
abbrev cX9_odds : ByteArray := prog_11_method_43_code
def yX9_odds : MethodName := ⟨RX9, "odds", "(II)J"⟩
abbrev cX9_mean : ByteArray := prog_11_method_44_code
def yX9_mean : MethodName := ⟨RX9, "mean", "(I)J"⟩
abbrev cX9_book : ByteArray := prog_11_method_45_code
def yX9_book : MethodName := ⟨RX9, "book", "(II)I"⟩
abbrev cX9_looked : ByteArray := prog_11_method_46_code
def yX9_looked : MethodName := ⟨RX9, "looked", "()I"⟩
abbrev cX9_isTape : ByteArray := prog_11_method_47_code
def yX9_isTape : MethodName := ⟨RX9, "isTape", "(I)Z"⟩
abbrev cX9_judge : ByteArray := prog_11_method_48_code
def yX9_judge : MethodName := ⟨RX9, "judge", "(II)I"⟩
abbrev cX9_image : ByteArray := prog_11_method_49_code
def yX9_image : MethodName := ⟨RX9, "image", "()I"⟩
abbrev cX9_undo : ByteArray := prog_11_method_50_code
def yX9_undo : MethodName := ⟨RX9, "undo", "()I"⟩
abbrev cX9_count : ByteArray := prog_11_method_51_code
def yX9_count : MethodName := ⟨RX9, "count", "(I)I"⟩
abbrev cX9_tape : ByteArray := prog_11_method_52_code
def yX9_tape : MethodName := ⟨RX9, "tape", "(III)I"⟩
abbrev cX9_item : ByteArray := prog_11_method_53_code
def yX9_item : MethodName := ⟨RX9, "item", "(IIJ)I"⟩
abbrev cX9_peek : ByteArray := prog_11_method_54_code
def yX9_peek : MethodName := ⟨RX9, "peek", "(II)J"⟩
abbrev cX9_shift : ByteArray := prog_11_method_55_code
def yX9_shift : MethodName := ⟨RX9, "shift", "(IIIII)I"⟩
def RJ9 : String := "java/lang/Math"
def TJ9 : u_T := fun k => match k with
  | _ => ("", "", "", false)
def tyJ9 : Nat → FieldType := fun k => match k with
  | _ => .int
abbrev wsJ90 : List Cond := u_ws RJ9 TJ9 0
theorem nmJ9 : ∀ a, a < 0 → ∀ b, b < 0 → a ≠ b → (TJ9 a).2.1 ≠ (TJ9 b).2.1 := by decide +kernel
theorem tyJ9_ok : ∀ k, k < 0 → parseFieldDescriptor (TJ9 k).2.2.1 = some (tyJ9 k) := by decide +kernel
abbrev cJ9_abs_0f7a4 : ByteArray := prog_12_method_59_code
def yJ9_abs_0f7a4 : MethodName := ⟨RJ9, "abs", "(I)I"⟩
abbrev cJ9_max_7cf53 : ByteArray := prog_12_method_65_code
def yJ9_max_7cf53 : MethodName := ⟨RJ9, "max", "(II)I"⟩
abbrev cJ9_min_7cf53 : ByteArray := prog_12_method_69_code
def yJ9_min_7cf53 : MethodName := ⟨RJ9, "min", "(II)I"⟩
def RJ10 : String := "java/lang/System"
def TJ10 : u_T := fun k => match k with
  | _ => ("", "", "", false)
def tyJ10 : Nat → FieldType := fun k => match k with
  | _ => .int
abbrev wsJ100 : List Cond := u_ws RJ10 TJ10 0
theorem nmJ10 : ∀ a, a < 0 → ∀ b, b < 0 → a ≠ b → (TJ10 a).2.1 ≠ (TJ10 b).2.1 := by decide +kernel
theorem tyJ10_ok : ∀ k, k < 0 → parseFieldDescriptor (TJ10 k).2.2.1 = some (tyJ10 k) := by decide +kernel
def RL : String := "WatchBeatsLaw"
abbrev cL_law : ByteArray := code
def yL_law : MethodName := ⟨RL, "law", "([I)Z"⟩
abbrev vwCl : List vw_C := [(RX0, TX0, 15), (RX1, TX1, 2), (RX2, TX2, 4), (RX3, TX3, 3), (RX4, TX4, 3), (RX5, TX5, 5), (RX6, TX6, 2), (RX7, TX7, 4), (RX8, TX8, 7), (RX9, TX9, 21)]
end
section
/-- the tables' words that a callee may be handed -/
def GG : List Cond := lw_tbl.filter goodWord
theorem GG_tbl : ∀ w ∈ GG, w ∈ lw_tbl := fun _ h => (List.mem_filter.mp h).1
theorem GG_i (i : Nat) {w : Cond} (h : lw_tbl[i]? = some w) (g : goodWord w = true) : w ∈ GG := List.mem_filter.mpr ⟨List.mem_of_getElem? h, g⟩
theorem GG_good {w : Cond} (h : w ∈ GG) : goodWord w = true := (List.mem_filter.mp h).2
/-- a callee's words among a caller's: its own code, and all of GG -/
theorem GG_call {x c : Cond} (hc : c ∈ GG) : GoodIn (x :: GG) (c :: GG) := by
  intro w hw
  have h : w ∈ GG := (List.mem_cons.mp hw).elim (fun e => by rw [e]; exact hc) id
  exact ⟨List.mem_cons_of_mem _ h, good_of_word (GG_good h)⟩
theorem GG_top {c : Cond} (hc : c ∈ GG) : GoodIn lw_tbl (c :: GG) := by
  intro w hw
  have h : w ∈ GG := (List.mem_cons.mp hw).elim (fun e => by rw [e]; exact hc) id
  exact ⟨GG_tbl w h, good_of_word (GG_good h)⟩
theorem k_0 : (Cond.selects RX0 yX0_settle yX0_settle) ∈ GG := GG_i 0 (rfl) (by decide +kernel)
theorem k_1 : (Cond.selects RX0 yX0_bePushed yX0_bePushed) ∈ GG := GG_i 1 (rfl) (by decide +kernel)
theorem k_2 : (Cond.selects RX0 yX0_doPush yX0_doPush) ∈ GG := GG_i 2 (rfl) (by decide +kernel)
theorem k_3 : (Cond.selects RX0 yX0_beDragged yX0_beDragged) ∈ GG := GG_i 3 (rfl) (by decide +kernel)
theorem k_4 : (Cond.selects RX0 yX0_swing yX0_swing) ∈ GG := GG_i 4 (rfl) (by decide +kernel)
theorem k_5 : (Cond.selects RX0 yX0_isLetGo yX0_isLetGo) ∈ GG := GG_i 5 (rfl) (by decide +kernel)
theorem k_6 : (Cond.selects RX0 yX0_beKicked yX0_beKicked) ∈ GG := GG_i 6 (rfl) (by decide +kernel)
theorem k_7 : (Cond.selects RX5 yX5_letterAt yX5_letterAt) ∈ GG := GG_i 7 (rfl) (by decide +kernel)
theorem k_8 : (Cond.selects RX5 yX5_signAt yX5_signAt) ∈ GG := GG_i 8 (rfl) (by decide +kernel)
theorem k_9 : (Cond.selects RX5 yX5_digitsEnd yX5_digitsEnd) ∈ GG := GG_i 9 (rfl) (by decide +kernel)
theorem k_10 : (Cond.selects RX5 yX5_number yX5_number) ∈ GG := GG_i 10 (rfl) (by decide +kernel)
theorem k_11 : (Cond.selects RX8 yX8_isClauseDone yX8_isClauseDone) ∈ GG := GG_i 11 (rfl) (by decide +kernel)
theorem k_12 : (Cond.selects RX8 yX8_thinkAhead yX8_thinkAhead) ∈ GG := GG_i 12 (rfl) (by decide +kernel)
theorem k_13 : (Cond.selects RX8 yX8_listenFromNow yX8_listenFromNow) ∈ GG := GG_i 13 (rfl) (by decide +kernel)
theorem k_14 : (Cond.selects RX8 yX8_evenest yX8_evenest) ∈ GG := GG_i 14 (rfl) (by decide +kernel)
theorem k_15 : (Cond.selects RX8 yX8_listenWith yX8_listenWith) ∈ GG := GG_i 15 (rfl) (by decide +kernel)
theorem k_16 : (Cond.selects RX1 yX1_gapsAheadOf yX1_gapsAheadOf) ∈ GG := GG_i 16 (rfl) (by decide +kernel)
theorem k_17 : (Cond.selects RX8 yX8_goesAsSeen yX8_goesAsSeen) ∈ GG := GG_i 17 (rfl) (by decide +kernel)
theorem k_18 : (Cond.selects RX8 yX8_tapeAt yX8_tapeAt) ∈ GG := GG_i 18 (rfl) (by decide +kernel)
theorem k_19 : (Cond.selects RX8 yX8_judgement yX8_judgement) ∈ GG := GG_i 19 (rfl) (by decide +kernel)
theorem k_20 : (Cond.selects RX9 yX9_energyNow yX9_energyNow) ∈ GG := GG_i 20 (rfl) (by decide +kernel)
theorem k_21 : (Cond.selects RX9 yX9_goes yX9_goes) ∈ GG := GG_i 21 (rfl) (by decide +kernel)
theorem k_22 : (Cond.selects RX9 yX9_tick yX9_tick) ∈ GG := GG_i 22 (rfl) (by decide +kernel)
theorem k_23 : (Cond.selects RX9 yX9_pushes yX9_pushes) ∈ GG := GG_i 23 (rfl) (by decide +kernel)
theorem k_24 : (Cond.selects RX9 yX9_accounts yX9_accounts) ∈ GG := GG_i 24 (rfl) (by decide +kernel)
theorem k_25 : (Cond.selects RX9 yX9_reads yX9_reads) ∈ GG := GG_i 25 (rfl) (by decide +kernel)
theorem k_26 : (Cond.selects RX9 yX9_isFrom yX9_isFrom) ∈ GG := GG_i 26 (rfl) (by decide +kernel)
theorem k_27 : (Cond.selects RX9 yX9_does yX9_does) ∈ GG := GG_i 27 (rfl) (by decide +kernel)
theorem k_28 : (Cond.selects RX9 yX9_lays yX9_lays) ∈ GG := GG_i 28 (rfl) (by decide +kernel)
theorem k_29 : (Cond.selects RX9 yX9_back yX9_back) ∈ GG := GG_i 29 (rfl) (by decide +kernel)
theorem k_30 : (Cond.selects RX9 yX9_hears_ yX9_hears_) ∈ GG := GG_i 30 (rfl) (by decide +kernel)
theorem k_31 : (Cond.selects RX9 yX9_hears yX9_hears) ∈ GG := GG_i 31 (rfl) (by decide +kernel)
theorem k_32 : (Cond.selects RX9 yX9_evenest yX9_evenest) ∈ GG := GG_i 32 (rfl) (by decide +kernel)
theorem k_33 : (Cond.selects RX9 yX9_uneven yX9_uneven) ∈ GG := GG_i 33 (rfl) (by decide +kernel)
theorem k_34 : (Cond.selects RX9 yX9_gaps yX9_gaps) ∈ GG := GG_i 34 (rfl) (by decide +kernel)
theorem k_35 : (Cond.selects RX9 yX9_gapOf yX9_gapOf) ∈ GG := GG_i 35 (rfl) (by decide +kernel)
theorem k_36 : (Cond.selects RX9 yX9_isSeen yX9_isSeen) ∈ GG := GG_i 36 (rfl) (by decide +kernel)
theorem k_37 : (Cond.initialized RL) ∈ GG := GG_i 37 (rfl) (by decide +kernel)
theorem k_38 : (Cond.initialized RX8) ∈ GG := GG_i 38 (rfl) (by decide +kernel)
theorem k_39 : (Cond.initialized RX7) ∈ GG := GG_i 39 (rfl) (by decide +kernel)
theorem k_40 : (Cond.initialized RX0) ∈ GG := GG_i 40 (rfl) (by decide +kernel)
theorem k_41 : (Cond.initialized RX2) ∈ GG := GG_i 41 (rfl) (by decide +kernel)
theorem k_42 : (Cond.initialized RX6) ∈ GG := GG_i 42 (rfl) (by decide +kernel)
theorem k_43 : (Cond.initialized RX3) ∈ GG := GG_i 43 (rfl) (by decide +kernel)
theorem k_44 : (Cond.initialized RX1) ∈ GG := GG_i 44 (rfl) (by decide +kernel)
theorem k_45 : (Cond.initialized RX5) ∈ GG := GG_i 45 (rfl) (by decide +kernel)
theorem k_46 : (Cond.initialized RX4) ∈ GG := GG_i 46 (rfl) (by decide +kernel)
theorem k_47 : (Cond.initialized RX9) ∈ GG := GG_i 47 (rfl) (by decide +kernel)
theorem k_48 : (Cond.initialized RJ9) ∈ GG := GG_i 48 (rfl) (by decide +kernel)
theorem k_49 : (Cond.initialized RJ10) ∈ GG := GG_i 49 (rfl) (by decide +kernel)
theorem k_50 : (Cond.classLink RL 7 RX8) ∈ GG := GG_i 50 (rfl) (by decide +kernel)
theorem k_51 : (Cond.instantiable RX8 7) ∈ GG := GG_i 51 (rfl) (by decide +kernel)
theorem k_52 : (Cond.methodLink RL 9 yX8_init) ∈ GG := GG_i 52 (rfl) (by decide +kernel)
theorem k_53 : (Cond.instanceMethod yX8_init) ∈ GG := GG_i 53 (rfl) (by decide +kernel)
theorem k_54 : (Cond.code yX8_init cX8_init 2 none) ∈ GG := GG_i 54 (rfl) (by decide +kernel)
theorem k_55 : (Cond.methodLink RX8 3 objectInit) ∈ GG := GG_i 55 (rfl) (by decide +kernel)
theorem k_56 : (Cond.instanceMethod objectInit) ∈ GG := GG_i 56 (rfl) (by decide +kernel)
theorem k_57 : (Cond.code objectInit ⟨#[0xb1]⟩ 1 none) ∈ GG := GG_i 57 (rfl) (by decide +kernel)
theorem k_58 : (Cond.classLink RX8 9 RX7) ∈ GG := GG_i 58 (rfl) (by decide +kernel)
theorem k_59 : (Cond.instantiable RX7 4) ∈ GG := GG_i 59 (rfl) (by decide +kernel)
theorem k_61 : (Cond.instanceMethod yX7_init) ∈ GG := GG_i 61 (rfl) (by decide +kernel)
theorem k_62 : (Cond.code yX7_init cX7_init 1 none) ∈ GG := GG_i 62 (rfl) (by decide +kernel)
theorem k_63 : (Cond.methodLink RX7 1 objectInit) ∈ GG := GG_i 63 (rfl) (by decide +kernel)
theorem k_64 : (Cond.classLink RX7 7 RX0) ∈ GG := GG_i 64 (rfl) (by decide +kernel)
theorem k_65 : (Cond.instantiable RX0 15) ∈ GG := GG_i 65 (rfl) (by decide +kernel)
theorem k_66 : (Cond.methodLink RX7 9 yX0_init) ∈ GG := GG_i 66 (rfl) (by decide +kernel)
theorem k_67 : (Cond.instanceMethod yX0_init) ∈ GG := GG_i 67 (rfl) (by decide +kernel)
theorem k_68 : (Cond.code yX0_init cX0_init 2 none) ∈ GG := GG_i 68 (rfl) (by decide +kernel)
theorem k_69 : (Cond.methodLink RX0 3 objectInit) ∈ GG := GG_i 69 (rfl) (by decide +kernel)
theorem k_70 : (Cond.classLink RX0 21 RX2) ∈ GG := GG_i 70 (rfl) (by decide +kernel)
theorem k_71 : (Cond.instantiable RX2 4) ∈ GG := GG_i 71 (rfl) (by decide +kernel)
theorem k_73 : (Cond.instanceMethod yX2_init) ∈ GG := GG_i 73 (rfl) (by decide +kernel)
theorem k_74 : (Cond.code yX2_init cX2_init 1 none) ∈ GG := GG_i 74 (rfl) (by decide +kernel)
theorem k_75 : (Cond.methodLink RX2 3 objectInit) ∈ GG := GG_i 75 (rfl) (by decide +kernel)
theorem k_76 : (Cond.fieldLink RX2 9 "WatchBeats$Pushes" "times" "[I") ∈ GG := GG_i 76 (rfl) (by decide +kernel)
theorem k_77 : (Cond.fieldLink RX8 100 "WatchBeats$Pushes" "times" "[I") ∈ GG := GG_i 77 (rfl) (by decide +kernel)
theorem k_78 : (Cond.fieldLink RX0 101 "WatchBeats$Pushes" "times" "[I") ∈ GG := GG_i 78 (rfl) (by decide +kernel)
theorem k_79 : (Cond.fieldLink RX2 15 "WatchBeats$Pushes" "whats" "[I") ∈ GG := GG_i 79 (rfl) (by decide +kernel)
theorem k_80 : (Cond.fieldLink RX8 104 "WatchBeats$Pushes" "whats" "[I") ∈ GG := GG_i 80 (rfl) (by decide +kernel)
theorem k_81 : (Cond.fieldLink RX0 105 "WatchBeats$Pushes" "whats" "[I") ∈ GG := GG_i 81 (rfl) (by decide +kernel)
theorem k_82 : (Cond.fieldLink RX2 18 "WatchBeats$Pushes" "sizes" "[I") ∈ GG := GG_i 82 (rfl) (by decide +kernel)
theorem k_83 : (Cond.fieldLink RX8 107 "WatchBeats$Pushes" "sizes" "[I") ∈ GG := GG_i 83 (rfl) (by decide +kernel)
theorem k_84 : (Cond.fieldLink RX0 108 "WatchBeats$Pushes" "sizes" "[I") ∈ GG := GG_i 84 (rfl) (by decide +kernel)
theorem k_85 : (Cond.fieldLink RX2 21 "WatchBeats$Pushes" "waiting" "I") ∈ GG := GG_i 85 (rfl) (by decide +kernel)
theorem k_86 : (Cond.fieldLink RX0 68 "WatchBeats$Pushes" "waiting" "I") ∈ GG := GG_i 86 (rfl) (by decide +kernel)
theorem k_87 : (Cond.fieldLink RX8 91 "WatchBeats$Pushes" "waiting" "I") ∈ GG := GG_i 87 (rfl) (by decide +kernel)
theorem k_88 : (Cond.laysFinal "WatchBeats$Pushes" "WatchBeats$Pushes" "times" "[I") ∈ GG := GG_i 88 (rfl) (by decide +kernel)
theorem k_90 : (Cond.laysFinal "WatchBeats$Pushes" "WatchBeats$Pushes" "whats" "[I") ∈ GG := GG_i 90 (rfl) (by decide +kernel)
theorem k_92 : (Cond.laysFinal "WatchBeats$Pushes" "WatchBeats$Pushes" "sizes" "[I") ∈ GG := GG_i 92 (rfl) (by decide +kernel)
theorem k_94 : (Cond.lays "WatchBeats$Pushes" "WatchBeats$Pushes" "waiting" "I") ∈ GG := GG_i 94 (rfl) (by decide +kernel)
theorem k_97 : (Cond.arrayClass .int) ∈ GG := GG_i 97 (rfl) (by decide +kernel)
theorem k_98 : (Cond.fieldLink RX0 36 "WatchBeats$Balance" "angle" "I") ∈ GG := GG_i 98 (rfl) (by decide +kernel)
theorem k_99 : (Cond.fieldLink RX8 298 "WatchBeats$Balance" "angle" "I") ∈ GG := GG_i 99 (rfl) (by decide +kernel)
theorem k_100 : (Cond.fieldLink RX0 39 "WatchBeats$Balance" "speed" "I") ∈ GG := GG_i 100 (rfl) (by decide +kernel)
theorem k_101 : (Cond.fieldLink RX0 42 "WatchBeats$Balance" "drag" "I") ∈ GG := GG_i 101 (rfl) (by decide +kernel)
theorem k_102 : (Cond.fieldLink RX0 45 "WatchBeats$Balance" "offset" "I") ∈ GG := GG_i 102 (rfl) (by decide +kernel)
theorem k_103 : (Cond.fieldLink RX8 285 "WatchBeats$Balance" "offset" "I") ∈ GG := GG_i 103 (rfl) (by decide +kernel)
theorem k_104 : (Cond.fieldLink RX0 48 "WatchBeats$Balance" "pallets" "I") ∈ GG := GG_i 104 (rfl) (by decide +kernel)
theorem k_105 : (Cond.fieldLink RX0 51 "WatchBeats$Balance" "clock" "I") ∈ GG := GG_i 105 (rfl) (by decide +kernel)
theorem k_106 : (Cond.fieldLink RX8 76 "WatchBeats$Balance" "clock" "I") ∈ GG := GG_i 106 (rfl) (by decide +kernel)
theorem k_107 : (Cond.fieldLink RX0 54 "WatchBeats$Balance" "beats" "I") ∈ GG := GG_i 107 (rfl) (by decide +kernel)
theorem k_108 : (Cond.fieldLink RX8 119 "WatchBeats$Balance" "beats" "I") ∈ GG := GG_i 108 (rfl) (by decide +kernel)
theorem k_109 : (Cond.fieldLink RX0 57 "WatchBeats$Balance" "bangs" "I") ∈ GG := GG_i 109 (rfl) (by decide +kernel)
theorem k_110 : (Cond.fieldLink RX0 9 "WatchBeats$Balance" "stiff" "I") ∈ GG := GG_i 110 (rfl) (by decide +kernel)
theorem k_111 : (Cond.fieldLink RX0 15 "WatchBeats$Balance" "force" "I") ∈ GG := GG_i 111 (rfl) (by decide +kernel)
theorem k_112 : (Cond.fieldLink RX0 18 "WatchBeats$Balance" "life" "I") ∈ GG := GG_i 112 (rfl) (by decide +kernel)
theorem k_113 : (Cond.fieldLink RX0 24 "WatchBeats$Balance" "pushes" "LWatchBeats$Pushes;") ∈ GG := GG_i 113 (rfl) (by decide +kernel)
theorem k_114 : (Cond.fieldLink RX8 87 "WatchBeats$Balance" "pushes" "LWatchBeats$Pushes;") ∈ GG := GG_i 114 (rfl) (by decide +kernel)
theorem k_115 : (Cond.fieldLink RX0 28 "WatchBeats$Balance" "account" "[J") ∈ GG := GG_i 115 (rfl) (by decide +kernel)
theorem k_116 : (Cond.fieldLink RX8 134 "WatchBeats$Balance" "account" "[J") ∈ GG := GG_i 116 (rfl) (by decide +kernel)
theorem k_117 : (Cond.fieldLink RX0 60 "WatchBeats$Balance" "settled" "J") ∈ GG := GG_i 117 (rfl) (by decide +kernel)
theorem k_118 : (Cond.fieldLink RX0 32 "WatchBeats$Balance" "isAccounted" "Z") ∈ GG := GG_i 118 (rfl) (by decide +kernel)
theorem k_119 : (Cond.lays "WatchBeats$Balance" "WatchBeats$Balance" "angle" "I") ∈ GG := GG_i 119 (rfl) (by decide +kernel)
theorem k_121 : (Cond.lays "WatchBeats$Balance" "WatchBeats$Balance" "speed" "I") ∈ GG := GG_i 121 (rfl) (by decide +kernel)
theorem k_123 : (Cond.lays "WatchBeats$Balance" "WatchBeats$Balance" "drag" "I") ∈ GG := GG_i 123 (rfl) (by decide +kernel)
theorem k_125 : (Cond.lays "WatchBeats$Balance" "WatchBeats$Balance" "offset" "I") ∈ GG := GG_i 125 (rfl) (by decide +kernel)
theorem k_127 : (Cond.lays "WatchBeats$Balance" "WatchBeats$Balance" "pallets" "I") ∈ GG := GG_i 127 (rfl) (by decide +kernel)
theorem k_129 : (Cond.lays "WatchBeats$Balance" "WatchBeats$Balance" "clock" "I") ∈ GG := GG_i 129 (rfl) (by decide +kernel)
theorem k_131 : (Cond.lays "WatchBeats$Balance" "WatchBeats$Balance" "beats" "I") ∈ GG := GG_i 131 (rfl) (by decide +kernel)
theorem k_133 : (Cond.lays "WatchBeats$Balance" "WatchBeats$Balance" "bangs" "I") ∈ GG := GG_i 133 (rfl) (by decide +kernel)
theorem k_135 : (Cond.lays "WatchBeats$Balance" "WatchBeats$Balance" "stiff" "I") ∈ GG := GG_i 135 (rfl) (by decide +kernel)
theorem k_137 : (Cond.lays "WatchBeats$Balance" "WatchBeats$Balance" "force" "I") ∈ GG := GG_i 137 (rfl) (by decide +kernel)
theorem k_139 : (Cond.lays "WatchBeats$Balance" "WatchBeats$Balance" "life" "I") ∈ GG := GG_i 139 (rfl) (by decide +kernel)
theorem k_141 : (Cond.laysFinal "WatchBeats$Balance" "WatchBeats$Balance" "pushes" "LWatchBeats$Pushes;") ∈ GG := GG_i 141 (rfl) (by decide +kernel)
theorem k_143 : (Cond.laysFinal "WatchBeats$Balance" "WatchBeats$Balance" "account" "[J") ∈ GG := GG_i 143 (rfl) (by decide +kernel)
theorem k_145 : (Cond.lays "WatchBeats$Balance" "WatchBeats$Balance" "settled" "J") ∈ GG := GG_i 145 (rfl) (by decide +kernel)
theorem k_147 : (Cond.laysFinal "WatchBeats$Balance" "WatchBeats$Balance" "isAccounted" "Z") ∈ GG := GG_i 147 (rfl) (by decide +kernel)
theorem k_150 : (Cond.arrayClass .long) ∈ GG := GG_i 150 (rfl) (by decide +kernel)
theorem k_151 : (Cond.classLink RX7 18 RX6) ∈ GG := GG_i 151 (rfl) (by decide +kernel)
theorem k_152 : (Cond.instantiable RX6 2) ∈ GG := GG_i 152 (rfl) (by decide +kernel)
theorem k_154 : (Cond.instanceMethod yX6_init) ∈ GG := GG_i 154 (rfl) (by decide +kernel)
theorem k_155 : (Cond.code yX6_init cX6_init 1 none) ∈ GG := GG_i 155 (rfl) (by decide +kernel)
theorem k_156 : (Cond.methodLink RX6 3 objectInit) ∈ GG := GG_i 156 (rfl) (by decide +kernel)
theorem k_157 : (Cond.fieldLink RX6 9 "WatchBeats$Train" "teeth" "[I") ∈ GG := GG_i 157 (rfl) (by decide +kernel)
theorem k_158 : (Cond.fieldLink RX6 15 "WatchBeats$Train" "wheels" "I") ∈ GG := GG_i 158 (rfl) (by decide +kernel)
theorem k_159 : (Cond.fieldLink RX8 70 "WatchBeats$Train" "wheels" "I") ∈ GG := GG_i 159 (rfl) (by decide +kernel)
theorem k_160 : (Cond.laysFinal "WatchBeats$Train" "WatchBeats$Train" "teeth" "[I") ∈ GG := GG_i 160 (rfl) (by decide +kernel)
theorem k_162 : (Cond.lays "WatchBeats$Train" "WatchBeats$Train" "wheels" "I") ∈ GG := GG_i 162 (rfl) (by decide +kernel)
theorem k_165 : (Cond.classLink RX7 25 RX3) ∈ GG := GG_i 165 (rfl) (by decide +kernel)
theorem k_166 : (Cond.instantiable RX3 3) ∈ GG := GG_i 166 (rfl) (by decide +kernel)
theorem k_168 : (Cond.instanceMethod yX3_init) ∈ GG := GG_i 168 (rfl) (by decide +kernel)
theorem k_169 : (Cond.code yX3_init cX3_init 1 none) ∈ GG := GG_i 169 (rfl) (by decide +kernel)
theorem k_170 : (Cond.methodLink RX3 3 objectInit) ∈ GG := GG_i 170 (rfl) (by decide +kernel)
theorem k_171 : (Cond.fieldLink RX3 9 "WatchBeats$Rows" "first" "[I") ∈ GG := GG_i 171 (rfl) (by decide +kernel)
theorem k_172 : (Cond.fieldLink RX8 207 "WatchBeats$Rows" "first" "[I") ∈ GG := GG_i 172 (rfl) (by decide +kernel)
theorem k_173 : (Cond.fieldLink RX3 15 "WatchBeats$Rows" "second" "[I") ∈ GG := GG_i 173 (rfl) (by decide +kernel)
theorem k_174 : (Cond.fieldLink RX8 210 "WatchBeats$Rows" "second" "[I") ∈ GG := GG_i 174 (rfl) (by decide +kernel)
theorem k_175 : (Cond.fieldLink RX3 18 "WatchBeats$Rows" "held" "I") ∈ GG := GG_i 175 (rfl) (by decide +kernel)
theorem k_176 : (Cond.fieldLink RX8 188 "WatchBeats$Rows" "held" "I") ∈ GG := GG_i 176 (rfl) (by decide +kernel)
theorem k_177 : (Cond.laysFinal "WatchBeats$Rows" "WatchBeats$Rows" "first" "[I") ∈ GG := GG_i 177 (rfl) (by decide +kernel)
theorem k_179 : (Cond.laysFinal "WatchBeats$Rows" "WatchBeats$Rows" "second" "[I") ∈ GG := GG_i 179 (rfl) (by decide +kernel)
theorem k_181 : (Cond.lays "WatchBeats$Rows" "WatchBeats$Rows" "held" "I") ∈ GG := GG_i 181 (rfl) (by decide +kernel)
theorem k_184 : (Cond.fieldLink RX7 12 "WatchBeats$Whole" "balance" "LWatchBeats$Balance;") ∈ GG := GG_i 184 (rfl) (by decide +kernel)
theorem k_185 : (Cond.fieldLink RX8 55 "WatchBeats$Whole" "balance" "LWatchBeats$Balance;") ∈ GG := GG_i 185 (rfl) (by decide +kernel)
theorem k_186 : (Cond.fieldLink RX7 21 "WatchBeats$Whole" "train" "LWatchBeats$Train;") ∈ GG := GG_i 186 (rfl) (by decide +kernel)
theorem k_187 : (Cond.fieldLink RX8 66 "WatchBeats$Whole" "train" "LWatchBeats$Train;") ∈ GG := GG_i 187 (rfl) (by decide +kernel)
theorem k_188 : (Cond.fieldLink RX7 28 "WatchBeats$Whole" "seen" "LWatchBeats$Rows;") ∈ GG := GG_i 188 (rfl) (by decide +kernel)
theorem k_189 : (Cond.fieldLink RX8 184 "WatchBeats$Whole" "seen" "LWatchBeats$Rows;") ∈ GG := GG_i 189 (rfl) (by decide +kernel)
theorem k_190 : (Cond.fieldLink RX7 32 "WatchBeats$Whole" "book" "LWatchBeats$Rows;") ∈ GG := GG_i 190 (rfl) (by decide +kernel)
theorem k_191 : (Cond.fieldLink RX8 204 "WatchBeats$Whole" "book" "LWatchBeats$Rows;") ∈ GG := GG_i 191 (rfl) (by decide +kernel)
theorem k_192 : (Cond.laysFinal "WatchBeats$Whole" "WatchBeats$Whole" "balance" "LWatchBeats$Balance;") ∈ GG := GG_i 192 (rfl) (by decide +kernel)
theorem k_194 : (Cond.laysFinal "WatchBeats$Whole" "WatchBeats$Whole" "train" "LWatchBeats$Train;") ∈ GG := GG_i 194 (rfl) (by decide +kernel)
theorem k_196 : (Cond.laysFinal "WatchBeats$Whole" "WatchBeats$Whole" "seen" "LWatchBeats$Rows;") ∈ GG := GG_i 196 (rfl) (by decide +kernel)
theorem k_198 : (Cond.laysFinal "WatchBeats$Whole" "WatchBeats$Whole" "book" "LWatchBeats$Rows;") ∈ GG := GG_i 198 (rfl) (by decide +kernel)
theorem k_201 : (Cond.classLink RX8 21 RX0) ∈ GG := GG_i 201 (rfl) (by decide +kernel)
theorem k_202 : (Cond.methodLink RX8 23 yX0_init) ∈ GG := GG_i 202 (rfl) (by decide +kernel)
theorem k_203 : (Cond.classLink RX8 30 RX1) ∈ GG := GG_i 203 (rfl) (by decide +kernel)
theorem k_204 : (Cond.instantiable RX1 2) ∈ GG := GG_i 204 (rfl) (by decide +kernel)
theorem k_206 : (Cond.instanceMethod yX1_init) ∈ GG := GG_i 206 (rfl) (by decide +kernel)
theorem k_207 : (Cond.code yX1_init cX1_init 1 none) ∈ GG := GG_i 207 (rfl) (by decide +kernel)
theorem k_208 : (Cond.methodLink RX1 3 objectInit) ∈ GG := GG_i 208 (rfl) (by decide +kernel)
theorem k_209 : (Cond.fieldLink RX1 9 "WatchBeats$Heard" "at" "[I") ∈ GG := GG_i 209 (rfl) (by decide +kernel)
theorem k_210 : (Cond.fieldLink RX1 15 "WatchBeats$Heard" "beats" "I") ∈ GG := GG_i 210 (rfl) (by decide +kernel)
theorem k_211 : (Cond.fieldLink RX8 171 "WatchBeats$Heard" "beats" "I") ∈ GG := GG_i 211 (rfl) (by decide +kernel)
theorem k_212 : (Cond.laysFinal "WatchBeats$Heard" "WatchBeats$Heard" "at" "[I") ∈ GG := GG_i 212 (rfl) (by decide +kernel)
theorem k_214 : (Cond.lays "WatchBeats$Heard" "WatchBeats$Heard" "beats" "I") ∈ GG := GG_i 214 (rfl) (by decide +kernel)
theorem k_217 : (Cond.classLink RX8 37 RX5) ∈ GG := GG_i 217 (rfl) (by decide +kernel)
theorem k_218 : (Cond.instantiable RX5 5) ∈ GG := GG_i 218 (rfl) (by decide +kernel)
theorem k_220 : (Cond.instanceMethod yX5_init) ∈ GG := GG_i 220 (rfl) (by decide +kernel)
theorem k_221 : (Cond.code yX5_init cX5_init 1 none) ∈ GG := GG_i 221 (rfl) (by decide +kernel)
theorem k_222 : (Cond.methodLink RX5 3 objectInit) ∈ GG := GG_i 222 (rfl) (by decide +kernel)
theorem k_223 : (Cond.fieldLink RX5 9 "WatchBeats$Text" "signs" "[B") ∈ GG := GG_i 223 (rfl) (by decide +kernel)
theorem k_224 : (Cond.fieldLink RX5 22 "WatchBeats$Text" "length" "I") ∈ GG := GG_i 224 (rfl) (by decide +kernel)
theorem k_225 : (Cond.fieldLink RX8 138 "WatchBeats$Text" "length" "I") ∈ GG := GG_i 225 (rfl) (by decide +kernel)
theorem k_226 : (Cond.fieldLink RX5 15 "WatchBeats$Text" "whats" "[I") ∈ GG := GG_i 226 (rfl) (by decide +kernel)
theorem k_227 : (Cond.fieldLink RX8 149 "WatchBeats$Text" "whats" "[I") ∈ GG := GG_i 227 (rfl) (by decide +kernel)
theorem k_228 : (Cond.fieldLink RX5 19 "WatchBeats$Text" "numbers" "[I") ∈ GG := GG_i 228 (rfl) (by decide +kernel)
theorem k_229 : (Cond.fieldLink RX8 150 "WatchBeats$Text" "numbers" "[I") ∈ GG := GG_i 229 (rfl) (by decide +kernel)
theorem k_230 : (Cond.fieldLink RX5 26 "WatchBeats$Text" "clauses" "I") ∈ GG := GG_i 230 (rfl) (by decide +kernel)
theorem k_231 : (Cond.fieldLink RX8 146 "WatchBeats$Text" "clauses" "I") ∈ GG := GG_i 231 (rfl) (by decide +kernel)
theorem k_232 : (Cond.laysFinal "WatchBeats$Text" "WatchBeats$Text" "signs" "[B") ∈ GG := GG_i 232 (rfl) (by decide +kernel)
theorem k_234 : (Cond.lays "WatchBeats$Text" "WatchBeats$Text" "length" "I") ∈ GG := GG_i 234 (rfl) (by decide +kernel)
theorem k_236 : (Cond.laysFinal "WatchBeats$Text" "WatchBeats$Text" "whats" "[I") ∈ GG := GG_i 236 (rfl) (by decide +kernel)
theorem k_238 : (Cond.laysFinal "WatchBeats$Text" "WatchBeats$Text" "numbers" "[I") ∈ GG := GG_i 238 (rfl) (by decide +kernel)
theorem k_240 : (Cond.lays "WatchBeats$Text" "WatchBeats$Text" "clauses" "I") ∈ GG := GG_i 240 (rfl) (by decide +kernel)
theorem k_243 : (Cond.arrayClass .byte) ∈ GG := GG_i 243 (rfl) (by decide +kernel)
theorem k_244 : (Cond.classLink RX8 44 RX4) ∈ GG := GG_i 244 (rfl) (by decide +kernel)
theorem k_246 : (Cond.instantiable RX4 3) ∈ GG := GG_i 246 (rfl) (by decide +kernel)
theorem k_248 : (Cond.instanceMethod yX4_init) ∈ GG := GG_i 248 (rfl) (by decide +kernel)
theorem k_249 : (Cond.code yX4_init cX4_init 1 none) ∈ GG := GG_i 249 (rfl) (by decide +kernel)
theorem k_250 : (Cond.methodLink RX4 3 objectInit) ∈ GG := GG_i 250 (rfl) (by decide +kernel)
theorem k_251 : (Cond.fieldLink RX4 9 "WatchBeats$Tape" "sort" "I") ∈ GG := GG_i 251 (rfl) (by decide +kernel)
theorem k_252 : (Cond.fieldLink RX8 217 "WatchBeats$Tape" "sort" "I") ∈ GG := GG_i 252 (rfl) (by decide +kernel)
theorem k_253 : (Cond.fieldLink RX4 19 "WatchBeats$Tape" "size" "I") ∈ GG := GG_i 253 (rfl) (by decide +kernel)
theorem k_254 : (Cond.fieldLink RX8 304 "WatchBeats$Tape" "size" "I") ∈ GG := GG_i 254 (rfl) (by decide +kernel)
theorem k_255 : (Cond.fieldLink RX4 15 "WatchBeats$Tape" "items" "[J") ∈ GG := GG_i 255 (rfl) (by decide +kernel)
theorem k_256 : (Cond.fieldLink RX8 238 "WatchBeats$Tape" "items" "[J") ∈ GG := GG_i 256 (rfl) (by decide +kernel)
theorem k_257 : (Cond.lays "WatchBeats$Tape" "WatchBeats$Tape" "sort" "I") ∈ GG := GG_i 257 (rfl) (by decide +kernel)
theorem k_259 : (Cond.lays "WatchBeats$Tape" "WatchBeats$Tape" "size" "I") ∈ GG := GG_i 259 (rfl) (by decide +kernel)
theorem k_261 : (Cond.laysFinal "WatchBeats$Tape" "WatchBeats$Tape" "items" "[J") ∈ GG := GG_i 261 (rfl) (by decide +kernel)
theorem k_264 : (Cond.fieldLink RX8 12 "WatchBeats" "now" "LWatchBeats$Whole;") ∈ GG := GG_i 264 (rfl) (by decide +kernel)
theorem k_265 : (Cond.fieldLink RX8 18 "WatchBeats" "kept" "LWatchBeats$Whole;") ∈ GG := GG_i 265 (rfl) (by decide +kernel)
theorem k_266 : (Cond.fieldLink RX8 228 "WatchBeats" "isKept" "Z") ∈ GG := GG_i 266 (rfl) (by decide +kernel)
theorem k_267 : (Cond.fieldLink RX8 26 "WatchBeats" "thought" "LWatchBeats$Balance;") ∈ GG := GG_i 267 (rfl) (by decide +kernel)
theorem k_268 : (Cond.fieldLink RX8 33 "WatchBeats" "heardAhead" "LWatchBeats$Heard;") ∈ GG := GG_i 268 (rfl) (by decide +kernel)
theorem k_269 : (Cond.fieldLink RX8 40 "WatchBeats" "text" "LWatchBeats$Text;") ∈ GG := GG_i 269 (rfl) (by decide +kernel)
theorem k_270 : (Cond.fieldLink RX8 46 "WatchBeats" "tapes" "[LWatchBeats$Tape;") ∈ GG := GG_i 270 (rfl) (by decide +kernel)
theorem k_271 : (Cond.laysFinal "WatchBeats" "WatchBeats" "now" "LWatchBeats$Whole;") ∈ GG := GG_i 271 (rfl) (by decide +kernel)
theorem k_273 : (Cond.laysFinal "WatchBeats" "WatchBeats" "kept" "LWatchBeats$Whole;") ∈ GG := GG_i 273 (rfl) (by decide +kernel)
theorem k_275 : (Cond.lays "WatchBeats" "WatchBeats" "isKept" "Z") ∈ GG := GG_i 275 (rfl) (by decide +kernel)
theorem k_277 : (Cond.laysFinal "WatchBeats" "WatchBeats" "thought" "LWatchBeats$Balance;") ∈ GG := GG_i 277 (rfl) (by decide +kernel)
theorem k_279 : (Cond.laysFinal "WatchBeats" "WatchBeats" "heardAhead" "LWatchBeats$Heard;") ∈ GG := GG_i 279 (rfl) (by decide +kernel)
theorem k_281 : (Cond.laysFinal "WatchBeats" "WatchBeats" "text" "LWatchBeats$Text;") ∈ GG := GG_i 281 (rfl) (by decide +kernel)
theorem k_283 : (Cond.laysFinal "WatchBeats" "WatchBeats" "tapes" "[LWatchBeats$Tape;") ∈ GG := GG_i 283 (rfl) (by decide +kernel)
theorem k_286 : (Cond.methodLink RL 13 yX8_set) ∈ GG := GG_i 286 (rfl) (by decide +kernel)
theorem k_287 : (Cond.instanceMethod yX8_set) ∈ GG := GG_i 287 (rfl) (by decide +kernel)
theorem k_288 : (Cond.selects RX8 yX8_set yX8_set) ∈ GG := GG_i 288 (rfl) (by decide +kernel)
theorem k_289 : (Cond.code yX8_set cX8_set 4 (some .int)) ∈ GG := GG_i 289 (rfl) (by decide +kernel)
theorem k_290 : (Cond.methodLink RX8 51 yX8_isSettable) ∈ GG := GG_i 290 (rfl) (by decide +kernel)
theorem k_291 : (Cond.static yX8_isSettable) ∈ GG := GG_i 291 (rfl) (by decide +kernel)
theorem k_292 : (Cond.code yX8_isSettable cX8_isSettable 2 (some .boolean)) ∈ GG := GG_i 292 (rfl) (by decide +kernel)
theorem k_293 : (Cond.fieldLink RX8 254 "WatchBeats" "LEAST" "[I") ∈ GG := GG_i 293 (rfl) (by decide +kernel)
theorem k_295 : (Cond.fieldLink RX8 257 "WatchBeats" "MOST" "[I") ∈ GG := GG_i 295 (rfl) (by decide +kernel)
theorem k_297 : (Cond.methodLink RX8 80 yX8_isBetween) ∈ GG := GG_i 297 (rfl) (by decide +kernel)
theorem k_298 : (Cond.static yX8_isBetween) ∈ GG := GG_i 298 (rfl) (by decide +kernel)
theorem k_299 : (Cond.code yX8_isBetween cX8_isBetween 3 (some .boolean)) ∈ GG := GG_i 299 (rfl) (by decide +kernel)
theorem k_300 : (Cond.methodLink RX8 58 yX0_valueOf) ∈ GG := GG_i 300 (rfl) (by decide +kernel)
theorem k_301 : (Cond.instanceMethod yX0_valueOf) ∈ GG := GG_i 301 (rfl) (by decide +kernel)
theorem k_302 : (Cond.selects RX0 yX0_valueOf yX0_valueOf) ∈ GG := GG_i 302 (rfl) (by decide +kernel)
theorem k_303 : (Cond.code yX0_valueOf cX0_valueOf 2 (some .int)) ∈ GG := GG_i 303 (rfl) (by decide +kernel)
theorem k_304 : (Cond.methodLink RX8 62 yX0_putByHand) ∈ GG := GG_i 304 (rfl) (by decide +kernel)
theorem k_305 : (Cond.instanceMethod yX0_putByHand) ∈ GG := GG_i 305 (rfl) (by decide +kernel)
theorem k_306 : (Cond.selects RX0 yX0_putByHand yX0_putByHand) ∈ GG := GG_i 306 (rfl) (by decide +kernel)
theorem k_307 : (Cond.code yX0_putByHand cX0_putByHand 3 none) ∈ GG := GG_i 307 (rfl) (by decide +kernel)
theorem k_308 : (Cond.methodLink RX0 71 yX0_put) ∈ GG := GG_i 308 (rfl) (by decide +kernel)
theorem k_309 : (Cond.instanceMethod yX0_put) ∈ GG := GG_i 309 (rfl) (by decide +kernel)
theorem k_310 : (Cond.selects RX0 yX0_put yX0_put) ∈ GG := GG_i 310 (rfl) (by decide +kernel)
theorem k_311 : (Cond.code yX0_put cX0_put 3 none) ∈ GG := GG_i 311 (rfl) (by decide +kernel)
theorem k_312 : (Cond.methodLink RX0 75 yX0_settle) ∈ GG := GG_i 312 (rfl) (by decide +kernel)
theorem k_314 : (Cond.instanceMethod yX0_settle) ∈ GG := GG_i 314 (rfl) (by decide +kernel)
theorem k_315 : (Cond.code yX0_settle cX0_settle 4 none) ∈ GG := GG_i 315 (rfl) (by decide +kernel)
theorem k_316 : (Cond.methodLink RX0 81 yX0_energyNow) ∈ GG := GG_i 316 (rfl) (by decide +kernel)
theorem k_317 : (Cond.instanceMethod yX0_energyNow) ∈ GG := GG_i 317 (rfl) (by decide +kernel)
theorem k_318 : (Cond.selects RX0 yX0_energyNow yX0_energyNow) ∈ GG := GG_i 318 (rfl) (by decide +kernel)
theorem k_319 : (Cond.code yX0_energyNow cX0_energyNow 1 (some .long)) ∈ GG := GG_i 319 (rfl) (by decide +kernel)
theorem k_320 : (Cond.constantLong RX0 79 (32)) ∈ GG := GG_i 320 (rfl) (by decide +kernel)
theorem k_321 : (Cond.methodLink RL 18 yX8_told) ∈ GG := GG_i 321 (rfl) (by decide +kernel)
theorem k_322 : (Cond.instanceMethod yX8_told) ∈ GG := GG_i 322 (rfl) (by decide +kernel)
theorem k_323 : (Cond.selects RX8 yX8_told yX8_told) ∈ GG := GG_i 323 (rfl) (by decide +kernel)
theorem k_324 : (Cond.code yX8_told cX8_told 2 (some .int)) ∈ GG := GG_i 324 (rfl) (by decide +kernel)
theorem k_325 : (Cond.methodLink RL 23 yX8_push) ∈ GG := GG_i 325 (rfl) (by decide +kernel)
theorem k_326 : (Cond.instanceMethod yX8_push) ∈ GG := GG_i 326 (rfl) (by decide +kernel)
theorem k_327 : (Cond.selects RX8 yX8_push yX8_push) ∈ GG := GG_i 327 (rfl) (by decide +kernel)
theorem k_328 : (Cond.code yX8_push cX8_push 4 (some .int)) ∈ GG := GG_i 328 (rfl) (by decide +kernel)
theorem k_329 : (Cond.constant RX8 79 (99999)) ∈ GG := GG_i 329 (rfl) (by decide +kernel)
theorem k_330 : (Cond.methodLink RX8 84 yX8_isPushable) ∈ GG := GG_i 330 (rfl) (by decide +kernel)
theorem k_331 : (Cond.static yX8_isPushable) ∈ GG := GG_i 331 (rfl) (by decide +kernel)
theorem k_332 : (Cond.code yX8_isPushable cX8_isPushable 2 (some .boolean)) ∈ GG := GG_i 332 (rfl) (by decide +kernel)
theorem k_333 : (Cond.fieldLink RX8 260 "WatchBeats" "PUSH_LEAST" "[I") ∈ GG := GG_i 333 (rfl) (by decide +kernel)
theorem k_335 : (Cond.fieldLink RX8 263 "WatchBeats" "PUSH_MOST" "[I") ∈ GG := GG_i 335 (rfl) (by decide +kernel)
theorem k_337 : (Cond.methodLink RX8 96 yX2_add) ∈ GG := GG_i 337 (rfl) (by decide +kernel)
theorem k_338 : (Cond.instanceMethod yX2_add) ∈ GG := GG_i 338 (rfl) (by decide +kernel)
theorem k_339 : (Cond.selects RX2 yX2_add yX2_add) ∈ GG := GG_i 339 (rfl) (by decide +kernel)
theorem k_340 : (Cond.code yX2_add cX2_add 5 none) ∈ GG := GG_i 340 (rfl) (by decide +kernel)
theorem k_341 : (Cond.methodLink RL 28 yX8_pushOf) ∈ GG := GG_i 341 (rfl) (by decide +kernel)
theorem k_342 : (Cond.instanceMethod yX8_pushOf) ∈ GG := GG_i 342 (rfl) (by decide +kernel)
theorem k_343 : (Cond.selects RX8 yX8_pushOf yX8_pushOf) ∈ GG := GG_i 343 (rfl) (by decide +kernel)
theorem k_344 : (Cond.code yX8_pushOf cX8_pushOf 4 (some .int)) ∈ GG := GG_i 344 (rfl) (by decide +kernel)
theorem k_345 : (Cond.methodLink RL 32 yX8_go) ∈ GG := GG_i 345 (rfl) (by decide +kernel)
theorem k_346 : (Cond.instanceMethod yX8_go) ∈ GG := GG_i 346 (rfl) (by decide +kernel)
theorem k_347 : (Cond.selects RX8 yX8_go yX8_go) ∈ GG := GG_i 347 (rfl) (by decide +kernel)
theorem k_348 : (Cond.code yX8_go cX8_go 4 (some .int)) ∈ GG := GG_i 348 (rfl) (by decide +kernel)
theorem k_349 : (Cond.methodLink RX8 110 yX0_tick) ∈ GG := GG_i 349 (rfl) (by decide +kernel)
theorem k_350 : (Cond.instanceMethod yX0_tick) ∈ GG := GG_i 350 (rfl) (by decide +kernel)
theorem k_351 : (Cond.selects RX0 yX0_tick yX0_tick) ∈ GG := GG_i 351 (rfl) (by decide +kernel)
theorem k_352 : (Cond.code yX0_tick cX0_tick 3 (some .boolean)) ∈ GG := GG_i 352 (rfl) (by decide +kernel)
theorem k_353 : (Cond.methodLink RX0 85 yX0_bePushed) ∈ GG := GG_i 353 (rfl) (by decide +kernel)
theorem k_355 : (Cond.instanceMethod yX0_bePushed) ∈ GG := GG_i 355 (rfl) (by decide +kernel)
theorem k_356 : (Cond.code yX0_bePushed cX0_bePushed 2 none) ∈ GG := GG_i 356 (rfl) (by decide +kernel)
theorem k_357 : (Cond.methodLink RX0 111 yX0_doPush) ∈ GG := GG_i 357 (rfl) (by decide +kernel)
theorem k_359 : (Cond.instanceMethod yX0_doPush) ∈ GG := GG_i 359 (rfl) (by decide +kernel)
theorem k_360 : (Cond.code yX0_doPush cX0_doPush 3 none) ∈ GG := GG_i 360 (rfl) (by decide +kernel)
theorem k_361 : (Cond.methodLink RX0 117 Lib.Math.min.name) ∈ GG := GG_i 361 (rfl) (by decide +kernel)
theorem k_362 : (Cond.static Lib.Math.min.name) ∈ GG := GG_i 362 (rfl) (by decide +kernel)
theorem k_363 : (Cond.code Lib.Math.min.name Lib.Math.min.code 2 (some .int)) ∈ GG := GG_i 363 (rfl) (by decide +kernel)
theorem k_364 : (Cond.methodLink RX0 123 Lib.Math.max.name) ∈ GG := GG_i 364 (rfl) (by decide +kernel)
theorem k_365 : (Cond.static Lib.Math.max.name) ∈ GG := GG_i 365 (rfl) (by decide +kernel)
theorem k_366 : (Cond.code Lib.Math.max.name Lib.Math.max.code 2 (some .int)) ∈ GG := GG_i 366 (rfl) (by decide +kernel)
theorem k_367 : (Cond.methodLink RX0 114 yX2_removeFirst) ∈ GG := GG_i 367 (rfl) (by decide +kernel)
theorem k_368 : (Cond.instanceMethod yX2_removeFirst) ∈ GG := GG_i 368 (rfl) (by decide +kernel)
theorem k_369 : (Cond.selects RX2 yX2_removeFirst yX2_removeFirst) ∈ GG := GG_i 369 (rfl) (by decide +kernel)
theorem k_370 : (Cond.code yX2_removeFirst cX2_removeFirst 3 none) ∈ GG := GG_i 370 (rfl) (by decide +kernel)
theorem k_371 : (Cond.methodLink RX0 88 yX0_beDragged) ∈ GG := GG_i 371 (rfl) (by decide +kernel)
theorem k_373 : (Cond.instanceMethod yX0_beDragged) ∈ GG := GG_i 373 (rfl) (by decide +kernel)
theorem k_374 : (Cond.code yX0_beDragged cX0_beDragged 1 none) ∈ GG := GG_i 374 (rfl) (by decide +kernel)
theorem k_375 : (Cond.methodLink RX0 91 yX0_swing) ∈ GG := GG_i 375 (rfl) (by decide +kernel)
theorem k_377 : (Cond.instanceMethod yX0_swing) ∈ GG := GG_i 377 (rfl) (by decide +kernel)
theorem k_378 : (Cond.code yX0_swing cX0_swing 1 none) ∈ GG := GG_i 378 (rfl) (by decide +kernel)
theorem k_379 : (Cond.methodLink RX0 94 yX0_isLetGo) ∈ GG := GG_i 379 (rfl) (by decide +kernel)
set_option maxRecDepth 100000 in
theorem k_381 : (Cond.instanceMethod yX0_isLetGo) ∈ GG := GG_i 381 (rfl) (by decide +kernel)
set_option maxRecDepth 100000 in
theorem k_382 : (Cond.code yX0_isLetGo cX0_isLetGo 2 (some .boolean)) ∈ GG := GG_i 382 (rfl) (by decide +kernel)
set_option maxRecDepth 100000 in
theorem k_383 : (Cond.methodLink RX0 98 yX0_beKicked) ∈ GG := GG_i 383 (rfl) (by decide +kernel)
set_option maxRecDepth 100000 in
theorem k_385 : (Cond.instanceMethod yX0_beKicked) ∈ GG := GG_i 385 (rfl) (by decide +kernel)
set_option maxRecDepth 100000 in
theorem k_386 : (Cond.code yX0_beKicked cX0_beKicked 2 none) ∈ GG := GG_i 386 (rfl) (by decide +kernel)
set_option maxRecDepth 100000 in
theorem k_387 : (Cond.methodLink RL 36 yX8_wheel) ∈ GG := GG_i 387 (rfl) (by decide +kernel)
set_option maxRecDepth 100000 in
theorem k_388 : (Cond.instanceMethod yX8_wheel) ∈ GG := GG_i 388 (rfl) (by decide +kernel)
set_option maxRecDepth 100000 in
theorem k_389 : (Cond.selects RX8 yX8_wheel yX8_wheel) ∈ GG := GG_i 389 (rfl) (by decide +kernel)
set_option maxRecDepth 100000 in
theorem k_390 : (Cond.code yX8_wheel cX8_wheel 2 (some .int)) ∈ GG := GG_i 390 (rfl) (by decide +kernel)
set_option maxRecDepth 100000 in
theorem k_391 : (Cond.methodLink RX8 114 yX6_add) ∈ GG := GG_i 391 (rfl) (by decide +kernel)
set_option maxRecDepth 100000 in
theorem k_392 : (Cond.instanceMethod yX6_add) ∈ GG := GG_i 392 (rfl) (by decide +kernel)
set_option maxRecDepth 100000 in
theorem k_393 : (Cond.selects RX6 yX6_add yX6_add) ∈ GG := GG_i 393 (rfl) (by decide +kernel)
set_option maxRecDepth 100000 in
theorem k_394 : (Cond.code yX6_add cX6_add 2 none) ∈ GG := GG_i 394 (rfl) (by decide +kernel)
set_option maxRecDepth 100000 in
theorem k_395 : (Cond.methodLink RL 40 yX8_turns) ∈ GG := GG_i 395 (rfl) (by decide +kernel)
set_option maxRecDepth 100000 in
theorem k_396 : (Cond.instanceMethod yX8_turns) ∈ GG := GG_i 396 (rfl) (by decide +kernel)
set_option maxRecDepth 100000 in
theorem k_397 : (Cond.selects RX8 yX8_turns yX8_turns) ∈ GG := GG_i 397 (rfl) (by decide +kernel)
set_option maxRecDepth 100000 in
theorem k_398 : (Cond.code yX8_turns cX8_turns 3 (some .long)) ∈ GG := GG_i 398 (rfl) (by decide +kernel)
set_option maxRecDepth 100000 in
theorem k_399 : (Cond.constantLong RX8 117 (-9223372036854775808)) ∈ GG := GG_i 399 (rfl) (by decide +kernel)
set_option maxRecDepth 100000 in
theorem k_400 : (Cond.methodLink RX8 122 yX6_beatsOfOneTurn) ∈ GG := GG_i 400 (rfl) (by decide +kernel)
set_option maxRecDepth 100000 in
theorem k_401 : (Cond.instanceMethod yX6_beatsOfOneTurn) ∈ GG := GG_i 401 (rfl) (by decide +kernel)
set_option maxRecDepth 100000 in
theorem k_402 : (Cond.selects RX6 yX6_beatsOfOneTurn yX6_beatsOfOneTurn) ∈ GG := GG_i 402 (rfl) (by decide +kernel)
set_option maxRecDepth 100000 in
theorem k_403 : (Cond.code yX6_beatsOfOneTurn cX6_beatsOfOneTurn 5 (some .long)) ∈ GG := GG_i 403 (rfl) (by decide +kernel)
set_option maxRecDepth 100000 in
theorem k_404 : (Cond.constantLong RX6 19 (2)) ∈ GG := GG_i 404 (rfl) (by decide +kernel)
set_option maxRecDepth 100000 in
theorem k_405 : (Cond.methodLink RX8 126 yX8_partOfFraction) ∈ GG := GG_i 405 (rfl) (by decide +kernel)
set_option maxRecDepth 100000 in
theorem k_406 : (Cond.static yX8_partOfFraction) ∈ GG := GG_i 406 (rfl) (by decide +kernel)
set_option maxRecDepth 100000 in
theorem k_407 : (Cond.code yX8_partOfFraction cX8_partOfFraction 7 (some .long)) ∈ GG := GG_i 407 (rfl) (by decide +kernel)
set_option maxRecDepth 100000 in
theorem k_408 : (Cond.methodLink RX8 266 yX8_commonDivisor) ∈ GG := GG_i 408 (rfl) (by decide +kernel)
set_option maxRecDepth 100000 in
theorem k_409 : (Cond.static yX8_commonDivisor) ∈ GG := GG_i 409 (rfl) (by decide +kernel)
set_option maxRecDepth 100000 in
theorem k_410 : (Cond.code yX8_commonDivisor cX8_commonDivisor 7 (some .long)) ∈ GG := GG_i 410 (rfl) (by decide +kernel)
set_option maxRecDepth 100000 in
theorem k_411 : (Cond.methodLink RL 45 yX8_energy) ∈ GG := GG_i 411 (rfl) (by decide +kernel)
set_option maxRecDepth 100000 in
theorem k_412 : (Cond.instanceMethod yX8_energy) ∈ GG := GG_i 412 (rfl) (by decide +kernel)
set_option maxRecDepth 100000 in
theorem k_413 : (Cond.selects RX8 yX8_energy yX8_energy) ∈ GG := GG_i 413 (rfl) (by decide +kernel)
set_option maxRecDepth 100000 in
theorem k_414 : (Cond.code yX8_energy cX8_energy 2 (some .long)) ∈ GG := GG_i 414 (rfl) (by decide +kernel)
set_option maxRecDepth 100000 in
theorem k_415 : (Cond.methodLink RX8 130 yX0_energyNow) ∈ GG := GG_i 415 (rfl) (by decide +kernel)
set_option maxRecDepth 100000 in
theorem k_416 : (Cond.methodLink RL 50 yX8_feed) ∈ GG := GG_i 416 (rfl) (by decide +kernel)
set_option maxRecDepth 100000 in
theorem k_417 : (Cond.instanceMethod yX8_feed) ∈ GG := GG_i 417 (rfl) (by decide +kernel)
set_option maxRecDepth 100000 in
theorem k_418 : (Cond.selects RX8 yX8_feed yX8_feed) ∈ GG := GG_i 418 (rfl) (by decide +kernel)
set_option maxRecDepth 100000 in
theorem k_419 : (Cond.code yX8_feed cX8_feed 2 (some .int)) ∈ GG := GG_i 419 (rfl) (by decide +kernel)
set_option maxRecDepth 100000 in
theorem k_420 : (Cond.methodLink RX8 141 yX5_add) ∈ GG := GG_i 420 (rfl) (by decide +kernel)
set_option maxRecDepth 100000 in
theorem k_421 : (Cond.instanceMethod yX5_add) ∈ GG := GG_i 421 (rfl) (by decide +kernel)
set_option maxRecDepth 100000 in
theorem k_422 : (Cond.selects RX5 yX5_add yX5_add) ∈ GG := GG_i 422 (rfl) (by decide +kernel)
set_option maxRecDepth 100000 in
theorem k_423 : (Cond.code yX5_add cX5_add 2 none) ∈ GG := GG_i 423 (rfl) (by decide +kernel)
set_option maxRecDepth 100000 in
theorem k_424 : (Cond.methodLink RL 54 yX8_read) ∈ GG := GG_i 424 (rfl) (by decide +kernel)
set_option maxRecDepth 100000 in
theorem k_425 : (Cond.instanceMethod yX8_read) ∈ GG := GG_i 425 (rfl) (by decide +kernel)
set_option maxRecDepth 100000 in
theorem k_426 : (Cond.selects RX8 yX8_read yX8_read) ∈ GG := GG_i 426 (rfl) (by decide +kernel)
set_option maxRecDepth 100000 in
theorem k_427 : (Cond.code yX8_read cX8_read 4 (some .int)) ∈ GG := GG_i 427 (rfl) (by decide +kernel)
set_option maxRecDepth 100000 in
theorem k_428 : (Cond.methodLink RX8 142 yX5_parse) ∈ GG := GG_i 428 (rfl) (by decide +kernel)
set_option maxRecDepth 100000 in
theorem k_429 : (Cond.instanceMethod yX5_parse) ∈ GG := GG_i 429 (rfl) (by decide +kernel)
set_option maxRecDepth 100000 in
theorem k_430 : (Cond.selects RX5 yX5_parse yX5_parse) ∈ GG := GG_i 430 (rfl) (by decide +kernel)
set_option maxRecDepth 100000 in
theorem k_431 : (Cond.code yX5_parse cX5_parse 6 (some .int)) ∈ GG := GG_i 431 (rfl) (by decide +kernel)
set_option maxRecDepth 100000 in
theorem k_432 : (Cond.methodLink RX5 29 yX5_letterAt) ∈ GG := GG_i 432 (rfl) (by decide +kernel)
set_option maxRecDepth 100000 in
theorem k_434 : (Cond.instanceMethod yX5_letterAt) ∈ GG := GG_i 434 (rfl) (by decide +kernel)
set_option maxRecDepth 100000 in
theorem k_435 : (Cond.code yX5_letterAt cX5_letterAt 4 (some .int)) ∈ GG := GG_i 435 (rfl) (by decide +kernel)
set_option maxRecDepth 100000 in
theorem k_436 : (Cond.methodLink RX5 33 yX5_signAt) ∈ GG := GG_i 436 (rfl) (by decide +kernel)
set_option maxRecDepth 100000 in
theorem k_438 : (Cond.instanceMethod yX5_signAt) ∈ GG := GG_i 438 (rfl) (by decide +kernel)
set_option maxRecDepth 100000 in
theorem k_439 : (Cond.code yX5_signAt cX5_signAt 2 (some .int)) ∈ GG := GG_i 439 (rfl) (by decide +kernel)
set_option maxRecDepth 100000 in
theorem k_442 : (Cond.methodLink RX5 36 yX5_digitsEnd) ∈ GG := GG_i 442 (rfl) (by decide +kernel)
set_option maxRecDepth 100000 in
theorem k_444 : (Cond.instanceMethod yX5_digitsEnd) ∈ GG := GG_i 444 (rfl) (by decide +kernel)
set_option maxRecDepth 100000 in
theorem k_445 : (Cond.code yX5_digitsEnd cX5_digitsEnd 3 (some .int)) ∈ GG := GG_i 445 (rfl) (by decide +kernel)
set_option maxRecDepth 100000 in
theorem k_447 : (Cond.methodLink RX5 39 yX5_number) ∈ GG := GG_i 447 (rfl) (by decide +kernel)
set_option maxRecDepth 100000 in
theorem k_449 : (Cond.instanceMethod yX5_number) ∈ GG := GG_i 449 (rfl) (by decide +kernel)
set_option maxRecDepth 100000 in
theorem k_450 : (Cond.code yX5_number cX5_number 5 (some .int)) ∈ GG := GG_i 450 (rfl) (by decide +kernel)
set_option maxRecDepth 100000 in
theorem k_451 : (Cond.methodLink RX8 153 yX8_isClauseDone) ∈ GG := GG_i 451 (rfl) (by decide +kernel)
set_option maxRecDepth 100000 in
theorem k_453 : (Cond.instanceMethod yX8_isClauseDone) ∈ GG := GG_i 453 (rfl) (by decide +kernel)
set_option maxRecDepth 100000 in
theorem k_454 : (Cond.code yX8_isClauseDone cX8_isClauseDone 3 (some .boolean)) ∈ GG := GG_i 454 (rfl) (by decide +kernel)
set_option maxRecDepth 100000 in
theorem k_455 : (Cond.methodLink RX8 270 yX8_wheel) ∈ GG := GG_i 455 (rfl) (by decide +kernel)
set_option maxRecDepth 100000 in
theorem k_456 : (Cond.methodLink RX8 273 yX8_go) ∈ GG := GG_i 456 (rfl) (by decide +kernel)
set_option maxRecDepth 100000 in
theorem k_457 : (Cond.methodLink RL 59 yX8_ahead) ∈ GG := GG_i 457 (rfl) (by decide +kernel)
set_option maxRecDepth 100000 in
theorem k_458 : (Cond.instanceMethod yX8_ahead) ∈ GG := GG_i 458 (rfl) (by decide +kernel)
set_option maxRecDepth 100000 in
theorem k_459 : (Cond.selects RX8 yX8_ahead yX8_ahead) ∈ GG := GG_i 459 (rfl) (by decide +kernel)
set_option maxRecDepth 100000 in
theorem k_460 : (Cond.code yX8_ahead cX8_ahead 3 (some .int)) ∈ GG := GG_i 460 (rfl) (by decide +kernel)
set_option maxRecDepth 100000 in
theorem k_461 : (Cond.fieldLink RX8 156 "WatchBeats" "TOLD_AHEAD" "[I") ∈ GG := GG_i 461 (rfl) (by decide +kernel)
set_option maxRecDepth 100000 in
theorem k_463 : (Cond.methodLink RX8 159 yX8_thinkAhead) ∈ GG := GG_i 463 (rfl) (by decide +kernel)
set_option maxRecDepth 100000 in
theorem k_465 : (Cond.instanceMethod yX8_thinkAhead) ∈ GG := GG_i 465 (rfl) (by decide +kernel)
set_option maxRecDepth 100000 in
theorem k_466 : (Cond.code yX8_thinkAhead cX8_thinkAhead 3 none) ∈ GG := GG_i 466 (rfl) (by decide +kernel)
set_option maxRecDepth 100000 in
theorem k_467 : (Cond.methodLink RX8 276 yX0_copy) ∈ GG := GG_i 467 (rfl) (by decide +kernel)
set_option maxRecDepth 100000 in
theorem k_468 : (Cond.instanceMethod yX0_copy) ∈ GG := GG_i 468 (rfl) (by decide +kernel)
set_option maxRecDepth 100000 in
theorem k_469 : (Cond.selects RX0 yX0_copy yX0_copy) ∈ GG := GG_i 469 (rfl) (by decide +kernel)
set_option maxRecDepth 100000 in
theorem k_470 : (Cond.code yX0_copy cX0_copy 3 none) ∈ GG := GG_i 470 (rfl) (by decide +kernel)
set_option maxRecDepth 100000 in
theorem k_471 : (Cond.methodLink RX0 64 yX2_copy) ∈ GG := GG_i 471 (rfl) (by decide +kernel)
set_option maxRecDepth 100000 in
theorem k_472 : (Cond.instanceMethod yX2_copy) ∈ GG := GG_i 472 (rfl) (by decide +kernel)
set_option maxRecDepth 100000 in
theorem k_473 : (Cond.selects RX2 yX2_copy yX2_copy) ∈ GG := GG_i 473 (rfl) (by decide +kernel)
set_option maxRecDepth 100000 in
theorem k_474 : (Cond.code yX2_copy cX2_copy 3 none) ∈ GG := GG_i 474 (rfl) (by decide +kernel)
set_option maxRecDepth 100000 in
theorem k_475 : (Cond.methodLink RL 63 yX8_energyAt) ∈ GG := GG_i 475 (rfl) (by decide +kernel)
set_option maxRecDepth 100000 in
theorem k_476 : (Cond.instanceMethod yX8_energyAt) ∈ GG := GG_i 476 (rfl) (by decide +kernel)
set_option maxRecDepth 100000 in
theorem k_477 : (Cond.selects RX8 yX8_energyAt yX8_energyAt) ∈ GG := GG_i 477 (rfl) (by decide +kernel)
set_option maxRecDepth 100000 in
theorem k_478 : (Cond.code yX8_energyAt cX8_energyAt 2 (some .long)) ∈ GG := GG_i 478 (rfl) (by decide +kernel)
set_option maxRecDepth 100000 in
theorem k_479 : (Cond.methodLink RL 67 yX8_heard) ∈ GG := GG_i 479 (rfl) (by decide +kernel)
set_option maxRecDepth 100000 in
theorem k_480 : (Cond.instanceMethod yX8_heard) ∈ GG := GG_i 480 (rfl) (by decide +kernel)
set_option maxRecDepth 100000 in
theorem k_481 : (Cond.selects RX8 yX8_heard yX8_heard) ∈ GG := GG_i 481 (rfl) (by decide +kernel)
set_option maxRecDepth 100000 in
theorem k_482 : (Cond.code yX8_heard cX8_heard 2 (some .int)) ∈ GG := GG_i 482 (rfl) (by decide +kernel)
set_option maxRecDepth 100000 in
theorem k_483 : (Cond.methodLink RX8 162 yX8_listenFromNow) ∈ GG := GG_i 483 (rfl) (by decide +kernel)
set_option maxRecDepth 100000 in
theorem k_485 : (Cond.instanceMethod yX8_listenFromNow) ∈ GG := GG_i 485 (rfl) (by decide +kernel)
set_option maxRecDepth 100000 in
theorem k_486 : (Cond.code yX8_listenFromNow cX8_listenFromNow 1 none) ∈ GG := GG_i 486 (rfl) (by decide +kernel)
set_option maxRecDepth 100000 in
theorem k_487 : (Cond.methodLink RX8 279 yX1_listen) ∈ GG := GG_i 487 (rfl) (by decide +kernel)
set_option maxRecDepth 100000 in
theorem k_488 : (Cond.instanceMethod yX1_listen) ∈ GG := GG_i 488 (rfl) (by decide +kernel)
set_option maxRecDepth 100000 in
theorem k_489 : (Cond.selects RX1 yX1_listen yX1_listen) ∈ GG := GG_i 489 (rfl) (by decide +kernel)
set_option maxRecDepth 100000 in
theorem k_490 : (Cond.code yX1_listen cX1_listen 3 none) ∈ GG := GG_i 490 (rfl) (by decide +kernel)
set_option maxRecDepth 100000 in
theorem k_491 : (Cond.methodLink RX1 19 yX0_tick) ∈ GG := GG_i 491 (rfl) (by decide +kernel)
set_option maxRecDepth 100000 in
theorem k_492 : (Cond.methodLink RX8 165 yX1_beatAt) ∈ GG := GG_i 492 (rfl) (by decide +kernel)
set_option maxRecDepth 100000 in
theorem k_493 : (Cond.instanceMethod yX1_beatAt) ∈ GG := GG_i 493 (rfl) (by decide +kernel)
set_option maxRecDepth 100000 in
theorem k_494 : (Cond.selects RX1 yX1_beatAt yX1_beatAt) ∈ GG := GG_i 494 (rfl) (by decide +kernel)
set_option maxRecDepth 100000 in
theorem k_495 : (Cond.code yX1_beatAt cX1_beatAt 2 (some .int)) ∈ GG := GG_i 495 (rfl) (by decide +kernel)
set_option maxRecDepth 100000 in
theorem k_496 : (Cond.methodLink RL 71 yX8_beat) ∈ GG := GG_i 496 (rfl) (by decide +kernel)
set_option maxRecDepth 100000 in
theorem k_497 : (Cond.instanceMethod yX8_beat) ∈ GG := GG_i 497 (rfl) (by decide +kernel)
set_option maxRecDepth 100000 in
theorem k_498 : (Cond.selects RX8 yX8_beat yX8_beat) ∈ GG := GG_i 498 (rfl) (by decide +kernel)
set_option maxRecDepth 100000 in
theorem k_499 : (Cond.code yX8_beat cX8_beat 2 (some .int)) ∈ GG := GG_i 499 (rfl) (by decide +kernel)
set_option maxRecDepth 100000 in
theorem k_500 : (Cond.methodLink RX8 168 yX8_evenest) ∈ GG := GG_i 500 (rfl) (by decide +kernel)
set_option maxRecDepth 100000 in
theorem k_502 : (Cond.instanceMethod yX8_evenest) ∈ GG := GG_i 502 (rfl) (by decide +kernel)
set_option maxRecDepth 100000 in
theorem k_503 : (Cond.code yX8_evenest cX8_evenest 9 (some .int)) ∈ GG := GG_i 503 (rfl) (by decide +kernel)
set_option maxRecDepth 100000 in
theorem k_504 : (Cond.methodLink RX8 199 yX8_listenWith) ∈ GG := GG_i 504 (rfl) (by decide +kernel)
set_option maxRecDepth 100000 in
theorem k_506 : (Cond.instanceMethod yX8_listenWith) ∈ GG := GG_i 506 (rfl) (by decide +kernel)
set_option maxRecDepth 100000 in
theorem k_507 : (Cond.code yX8_listenWith cX8_listenWith 3 none) ∈ GG := GG_i 507 (rfl) (by decide +kernel)
set_option maxRecDepth 100000 in
theorem k_508 : (Cond.methodLink RX8 282 yX0_put) ∈ GG := GG_i 508 (rfl) (by decide +kernel)
set_option maxRecDepth 100000 in
theorem k_509 : (Cond.methodLink RX8 175 yX1_uneven) ∈ GG := GG_i 509 (rfl) (by decide +kernel)
set_option maxRecDepth 100000 in
theorem k_510 : (Cond.instanceMethod yX1_uneven) ∈ GG := GG_i 510 (rfl) (by decide +kernel)
set_option maxRecDepth 100000 in
theorem k_511 : (Cond.selects RX1 yX1_uneven yX1_uneven) ∈ GG := GG_i 511 (rfl) (by decide +kernel)
set_option maxRecDepth 100000 in
theorem k_512 : (Cond.code yX1_uneven cX1_uneven 4 (some .int)) ∈ GG := GG_i 512 (rfl) (by decide +kernel)
set_option maxRecDepth 100000 in
theorem k_513 : (Cond.methodLink RX1 31 yX1_gaps) ∈ GG := GG_i 513 (rfl) (by decide +kernel)
set_option maxRecDepth 100000 in
theorem k_514 : (Cond.instanceMethod yX1_gaps) ∈ GG := GG_i 514 (rfl) (by decide +kernel)
set_option maxRecDepth 100000 in
theorem k_515 : (Cond.selects RX1 yX1_gaps yX1_gaps) ∈ GG := GG_i 515 (rfl) (by decide +kernel)
set_option maxRecDepth 100000 in
theorem k_516 : (Cond.code yX1_gaps cX1_gaps 1 (some .int)) ∈ GG := GG_i 516 (rfl) (by decide +kernel)
set_option maxRecDepth 100000 in
theorem k_517 : (Cond.methodLink RX1 25 Lib.Math.max.name) ∈ GG := GG_i 517 (rfl) (by decide +kernel)
set_option maxRecDepth 100000 in
theorem k_518 : (Cond.methodLink RX1 39 yX1_gapAt) ∈ GG := GG_i 518 (rfl) (by decide +kernel)
set_option maxRecDepth 100000 in
theorem k_519 : (Cond.instanceMethod yX1_gapAt) ∈ GG := GG_i 519 (rfl) (by decide +kernel)
set_option maxRecDepth 100000 in
theorem k_520 : (Cond.selects RX1 yX1_gapAt yX1_gapAt) ∈ GG := GG_i 520 (rfl) (by decide +kernel)
set_option maxRecDepth 100000 in
theorem k_521 : (Cond.code yX1_gapAt cX1_gapAt 2 (some .int)) ∈ GG := GG_i 521 (rfl) (by decide +kernel)
set_option maxRecDepth 100000 in
theorem k_522 : (Cond.methodLink RX1 35 yX1_beatAt) ∈ GG := GG_i 522 (rfl) (by decide +kernel)
set_option maxRecDepth 100000 in
theorem k_523 : (Cond.methodLink RX8 288 Lib.Math.abs.name) ∈ GG := GG_i 523 (rfl) (by decide +kernel)
set_option maxRecDepth 100000 in
theorem k_524 : (Cond.static Lib.Math.abs.name) ∈ GG := GG_i 524 (rfl) (by decide +kernel)
set_option maxRecDepth 100000 in
theorem k_525 : (Cond.code Lib.Math.abs.name Lib.Math.abs.code 1 (some .int)) ∈ GG := GG_i 525 (rfl) (by decide +kernel)
set_option maxRecDepth 100000 in
theorem k_526 : (Cond.constantLong RX8 293 (1000)) ∈ GG := GG_i 526 (rfl) (by decide +kernel)
set_option maxRecDepth 100000 in
theorem k_527 : (Cond.methodLink RX8 172 yX1_gaps) ∈ GG := GG_i 527 (rfl) (by decide +kernel)
set_option maxRecDepth 100000 in
theorem k_528 : (Cond.methodLink RL 75 yX8_gap) ∈ GG := GG_i 528 (rfl) (by decide +kernel)
set_option maxRecDepth 100000 in
theorem k_529 : (Cond.instanceMethod yX8_gap) ∈ GG := GG_i 529 (rfl) (by decide +kernel)
set_option maxRecDepth 100000 in
theorem k_530 : (Cond.selects RX8 yX8_gap yX8_gap) ∈ GG := GG_i 530 (rfl) (by decide +kernel)
set_option maxRecDepth 100000 in
theorem k_531 : (Cond.code yX8_gap cX8_gap 2 (some .int)) ∈ GG := GG_i 531 (rfl) (by decide +kernel)
set_option maxRecDepth 100000 in
theorem k_532 : (Cond.methodLink RX8 178 yX1_gapAt) ∈ GG := GG_i 532 (rfl) (by decide +kernel)
set_option maxRecDepth 100000 in
theorem k_533 : (Cond.methodLink RL 79 yX8_longest) ∈ GG := GG_i 533 (rfl) (by decide +kernel)
set_option maxRecDepth 100000 in
theorem k_534 : (Cond.instanceMethod yX8_longest) ∈ GG := GG_i 534 (rfl) (by decide +kernel)
set_option maxRecDepth 100000 in
theorem k_535 : (Cond.selects RX8 yX8_longest yX8_longest) ∈ GG := GG_i 535 (rfl) (by decide +kernel)
set_option maxRecDepth 100000 in
theorem k_536 : (Cond.code yX8_longest cX8_longest 4 (some .int)) ∈ GG := GG_i 536 (rfl) (by decide +kernel)
set_option maxRecDepth 100000 in
theorem k_537 : (Cond.methodLink RX8 181 yX1_longestGap) ∈ GG := GG_i 537 (rfl) (by decide +kernel)
set_option maxRecDepth 100000 in
theorem k_538 : (Cond.instanceMethod yX1_longestGap) ∈ GG := GG_i 538 (rfl) (by decide +kernel)
set_option maxRecDepth 100000 in
theorem k_539 : (Cond.selects RX1 yX1_longestGap yX1_longestGap) ∈ GG := GG_i 539 (rfl) (by decide +kernel)
set_option maxRecDepth 100000 in
theorem k_540 : (Cond.code yX1_longestGap cX1_longestGap 4 (some .int)) ∈ GG := GG_i 540 (rfl) (by decide +kernel)
set_option maxRecDepth 100000 in
theorem k_541 : (Cond.methodLink RX1 42 yX1_gapsAheadOf) ∈ GG := GG_i 541 (rfl) (by decide +kernel)
set_option maxRecDepth 100000 in
theorem k_543 : (Cond.instanceMethod yX1_gapsAheadOf) ∈ GG := GG_i 543 (rfl) (by decide +kernel)
set_option maxRecDepth 100000 in
theorem k_544 : (Cond.code yX1_gapsAheadOf cX1_gapsAheadOf 7 (some .int)) ∈ GG := GG_i 544 (rfl) (by decide +kernel)
set_option maxRecDepth 100000 in
theorem k_545 : (Cond.methodLink RL 83 yX8_see) ∈ GG := GG_i 545 (rfl) (by decide +kernel)
set_option maxRecDepth 100000 in
theorem k_546 : (Cond.instanceMethod yX8_see) ∈ GG := GG_i 546 (rfl) (by decide +kernel)
set_option maxRecDepth 100000 in
theorem k_547 : (Cond.selects RX8 yX8_see yX8_see) ∈ GG := GG_i 547 (rfl) (by decide +kernel)
set_option maxRecDepth 100000 in
theorem k_548 : (Cond.code yX8_see cX8_see 3 (some .int)) ∈ GG := GG_i 548 (rfl) (by decide +kernel)
set_option maxRecDepth 100000 in
theorem k_549 : (Cond.methodLink RX8 193 yX3_add) ∈ GG := GG_i 549 (rfl) (by decide +kernel)
set_option maxRecDepth 100000 in
theorem k_550 : (Cond.instanceMethod yX3_add) ∈ GG := GG_i 550 (rfl) (by decide +kernel)
set_option maxRecDepth 100000 in
theorem k_551 : (Cond.selects RX3 yX3_add yX3_add) ∈ GG := GG_i 551 (rfl) (by decide +kernel)
set_option maxRecDepth 100000 in
theorem k_552 : (Cond.code yX3_add cX3_add 3 none) ∈ GG := GG_i 552 (rfl) (by decide +kernel)
set_option maxRecDepth 100000 in
theorem k_553 : (Cond.methodLink RL 87 yX8_fits) ∈ GG := GG_i 553 (rfl) (by decide +kernel)
set_option maxRecDepth 100000 in
theorem k_554 : (Cond.instanceMethod yX8_fits) ∈ GG := GG_i 554 (rfl) (by decide +kernel)
set_option maxRecDepth 100000 in
theorem k_555 : (Cond.selects RX8 yX8_fits yX8_fits) ∈ GG := GG_i 555 (rfl) (by decide +kernel)
set_option maxRecDepth 100000 in
theorem k_556 : (Cond.code yX8_fits cX8_fits 5 (some .int)) ∈ GG := GG_i 556 (rfl) (by decide +kernel)
set_option maxRecDepth 100000 in
theorem k_557 : (Cond.methodLink RX8 195 yX8_goesAsSeen) ∈ GG := GG_i 557 (rfl) (by decide +kernel)
set_option maxRecDepth 100000 in
theorem k_559 : (Cond.instanceMethod yX8_goesAsSeen) ∈ GG := GG_i 559 (rfl) (by decide +kernel)
set_option maxRecDepth 100000 in
theorem k_560 : (Cond.code yX8_goesAsSeen cX8_goesAsSeen 4 (some .boolean)) ∈ GG := GG_i 560 (rfl) (by decide +kernel)
set_option maxRecDepth 100000 in
theorem k_561 : (Cond.methodLink RX8 295 yX3_greatestFirst) ∈ GG := GG_i 561 (rfl) (by decide +kernel)
set_option maxRecDepth 100000 in
theorem k_562 : (Cond.instanceMethod yX3_greatestFirst) ∈ GG := GG_i 562 (rfl) (by decide +kernel)
set_option maxRecDepth 100000 in
theorem k_563 : (Cond.selects RX3 yX3_greatestFirst yX3_greatestFirst) ∈ GG := GG_i 563 (rfl) (by decide +kernel)
set_option maxRecDepth 100000 in
theorem k_564 : (Cond.code yX3_greatestFirst cX3_greatestFirst 3 (some .int)) ∈ GG := GG_i 564 (rfl) (by decide +kernel)
set_option maxRecDepth 100000 in
theorem k_565 : (Cond.methodLink RX3 22 Lib.Math.max.name) ∈ GG := GG_i 565 (rfl) (by decide +kernel)
set_option maxRecDepth 100000 in
theorem k_566 : (Cond.methodLink RX8 301 yX3_allows) ∈ GG := GG_i 566 (rfl) (by decide +kernel)
set_option maxRecDepth 100000 in
theorem k_567 : (Cond.instanceMethod yX3_allows) ∈ GG := GG_i 567 (rfl) (by decide +kernel)
set_option maxRecDepth 100000 in
theorem k_568 : (Cond.selects RX3 yX3_allows yX3_allows) ∈ GG := GG_i 568 (rfl) (by decide +kernel)
set_option maxRecDepth 100000 in
theorem k_569 : (Cond.code yX3_allows cX3_allows 4 (some .boolean)) ∈ GG := GG_i 569 (rfl) (by decide +kernel)
set_option maxRecDepth 100000 in
theorem k_570 : (Cond.methodLink RL 91 yX8_odds) ∈ GG := GG_i 570 (rfl) (by decide +kernel)
set_option maxRecDepth 100000 in
theorem k_571 : (Cond.instanceMethod yX8_odds) ∈ GG := GG_i 571 (rfl) (by decide +kernel)
set_option maxRecDepth 100000 in
theorem k_572 : (Cond.selects RX8 yX8_odds yX8_odds) ∈ GG := GG_i 572 (rfl) (by decide +kernel)
set_option maxRecDepth 100000 in
theorem k_573 : (Cond.code yX8_odds cX8_odds 5 (some .long)) ∈ GG := GG_i 573 (rfl) (by decide +kernel)
set_option maxRecDepth 100000 in
theorem k_574 : (Cond.constantLong RX8 202 (11)) ∈ GG := GG_i 574 (rfl) (by decide +kernel)
set_option maxRecDepth 100000 in
theorem k_575 : (Cond.methodLink RL 95 yX8_mean) ∈ GG := GG_i 575 (rfl) (by decide +kernel)
set_option maxRecDepth 100000 in
theorem k_576 : (Cond.instanceMethod yX8_mean) ∈ GG := GG_i 576 (rfl) (by decide +kernel)
set_option maxRecDepth 100000 in
theorem k_577 : (Cond.selects RX8 yX8_mean yX8_mean) ∈ GG := GG_i 577 (rfl) (by decide +kernel)
set_option maxRecDepth 100000 in
theorem k_578 : (Cond.code yX8_mean cX8_mean 3 (some .long)) ∈ GG := GG_i 578 (rfl) (by decide +kernel)
set_option maxRecDepth 100000 in
theorem k_579 : (Cond.methodLink RL 99 yX8_book) ∈ GG := GG_i 579 (rfl) (by decide +kernel)
set_option maxRecDepth 100000 in
theorem k_580 : (Cond.instanceMethod yX8_book) ∈ GG := GG_i 580 (rfl) (by decide +kernel)
set_option maxRecDepth 100000 in
theorem k_581 : (Cond.selects RX8 yX8_book yX8_book) ∈ GG := GG_i 581 (rfl) (by decide +kernel)
set_option maxRecDepth 100000 in
theorem k_582 : (Cond.code yX8_book cX8_book 3 (some .int)) ∈ GG := GG_i 582 (rfl) (by decide +kernel)
set_option maxRecDepth 100000 in
theorem k_583 : (Cond.methodLink RL 103 yX8_looked) ∈ GG := GG_i 583 (rfl) (by decide +kernel)
set_option maxRecDepth 100000 in
theorem k_584 : (Cond.instanceMethod yX8_looked) ∈ GG := GG_i 584 (rfl) (by decide +kernel)
set_option maxRecDepth 100000 in
theorem k_585 : (Cond.selects RX8 yX8_looked yX8_looked) ∈ GG := GG_i 585 (rfl) (by decide +kernel)
set_option maxRecDepth 100000 in
theorem k_586 : (Cond.code yX8_looked cX8_looked 2 (some .int)) ∈ GG := GG_i 586 (rfl) (by decide +kernel)
set_option maxRecDepth 100000 in
theorem k_587 : (Cond.methodLink RL 107 yX8_judge) ∈ GG := GG_i 587 (rfl) (by decide +kernel)
set_option maxRecDepth 100000 in
theorem k_588 : (Cond.instanceMethod yX8_judge) ∈ GG := GG_i 588 (rfl) (by decide +kernel)
set_option maxRecDepth 100000 in
theorem k_589 : (Cond.selects RX8 yX8_judge yX8_judge) ∈ GG := GG_i 589 (rfl) (by decide +kernel)
set_option maxRecDepth 100000 in
theorem k_590 : (Cond.code yX8_judge cX8_judge 4 (some .int)) ∈ GG := GG_i 590 (rfl) (by decide +kernel)
set_option maxRecDepth 100000 in
theorem k_591 : (Cond.methodLink RX8 213 yX8_tapeAt) ∈ GG := GG_i 591 (rfl) (by decide +kernel)
set_option maxRecDepth 100000 in
theorem k_593 : (Cond.instanceMethod yX8_tapeAt) ∈ GG := GG_i 593 (rfl) (by decide +kernel)
set_option maxRecDepth 100000 in
theorem k_594 : (Cond.code yX8_tapeAt cX8_tapeAt 2 (some (.object "WatchBeats$Tape"))) ∈ GG := GG_i 594 (rfl) (by decide +kernel)
set_option maxRecDepth 100000 in
theorem k_595 : (Cond.methodLink RX8 220 yX8_judgement) ∈ GG := GG_i 595 (rfl) (by decide +kernel)
set_option maxRecDepth 100000 in
theorem k_597 : (Cond.instanceMethod yX8_judgement) ∈ GG := GG_i 597 (rfl) (by decide +kernel)
set_option maxRecDepth 100000 in
theorem k_598 : (Cond.code yX8_judgement cX8_judgement 4 (some .int)) ∈ GG := GG_i 598 (rfl) (by decide +kernel)
set_option maxRecDepth 100000 in
theorem k_599 : (Cond.methodLink RX8 235 yX4_has) ∈ GG := GG_i 599 (rfl) (by decide +kernel)
set_option maxRecDepth 100000 in
theorem k_600 : (Cond.instanceMethod yX4_has) ∈ GG := GG_i 600 (rfl) (by decide +kernel)
set_option maxRecDepth 100000 in
theorem k_601 : (Cond.selects RX4 yX4_has yX4_has) ∈ GG := GG_i 601 (rfl) (by decide +kernel)
set_option maxRecDepth 100000 in
theorem k_602 : (Cond.code yX4_has cX4_has 2 (some .boolean)) ∈ GG := GG_i 602 (rfl) (by decide +kernel)
set_option maxRecDepth 100000 in
theorem k_603 : (Cond.methodLink RL 111 yX8_image) ∈ GG := GG_i 603 (rfl) (by decide +kernel)
set_option maxRecDepth 100000 in
theorem k_604 : (Cond.instanceMethod yX8_image) ∈ GG := GG_i 604 (rfl) (by decide +kernel)
set_option maxRecDepth 100000 in
theorem k_605 : (Cond.selects RX8 yX8_image yX8_image) ∈ GG := GG_i 605 (rfl) (by decide +kernel)
set_option maxRecDepth 100000 in
theorem k_606 : (Cond.code yX8_image cX8_image 1 (some .int)) ∈ GG := GG_i 606 (rfl) (by decide +kernel)
set_option maxRecDepth 100000 in
theorem k_607 : (Cond.methodLink RX8 224 yX7_copy) ∈ GG := GG_i 607 (rfl) (by decide +kernel)
set_option maxRecDepth 100000 in
theorem k_608 : (Cond.instanceMethod yX7_copy) ∈ GG := GG_i 608 (rfl) (by decide +kernel)
set_option maxRecDepth 100000 in
theorem k_609 : (Cond.selects RX7 yX7_copy yX7_copy) ∈ GG := GG_i 609 (rfl) (by decide +kernel)
set_option maxRecDepth 100000 in
theorem k_610 : (Cond.code yX7_copy cX7_copy 2 none) ∈ GG := GG_i 610 (rfl) (by decide +kernel)
set_option maxRecDepth 100000 in
theorem k_611 : (Cond.methodLink RX7 35 yX0_copy) ∈ GG := GG_i 611 (rfl) (by decide +kernel)
set_option maxRecDepth 100000 in
theorem k_612 : (Cond.methodLink RX7 39 yX6_copy) ∈ GG := GG_i 612 (rfl) (by decide +kernel)
set_option maxRecDepth 100000 in
theorem k_613 : (Cond.instanceMethod yX6_copy) ∈ GG := GG_i 613 (rfl) (by decide +kernel)
set_option maxRecDepth 100000 in
theorem k_614 : (Cond.selects RX6 yX6_copy yX6_copy) ∈ GG := GG_i 614 (rfl) (by decide +kernel)
set_option maxRecDepth 100000 in
theorem k_615 : (Cond.code yX6_copy cX6_copy 3 none) ∈ GG := GG_i 615 (rfl) (by decide +kernel)
set_option maxRecDepth 100000 in
theorem k_616 : (Cond.methodLink RX7 42 yX3_copy) ∈ GG := GG_i 616 (rfl) (by decide +kernel)
set_option maxRecDepth 100000 in
theorem k_617 : (Cond.instanceMethod yX3_copy) ∈ GG := GG_i 617 (rfl) (by decide +kernel)
set_option maxRecDepth 100000 in
theorem k_618 : (Cond.selects RX3 yX3_copy yX3_copy) ∈ GG := GG_i 618 (rfl) (by decide +kernel)
set_option maxRecDepth 100000 in
theorem k_619 : (Cond.code yX3_copy cX3_copy 3 none) ∈ GG := GG_i 619 (rfl) (by decide +kernel)
set_option maxRecDepth 100000 in
theorem k_620 : (Cond.methodLink RL 115 yX8_undo) ∈ GG := GG_i 620 (rfl) (by decide +kernel)
set_option maxRecDepth 100000 in
theorem k_621 : (Cond.instanceMethod yX8_undo) ∈ GG := GG_i 621 (rfl) (by decide +kernel)
set_option maxRecDepth 100000 in
theorem k_622 : (Cond.selects RX8 yX8_undo yX8_undo) ∈ GG := GG_i 622 (rfl) (by decide +kernel)
set_option maxRecDepth 100000 in
theorem k_623 : (Cond.code yX8_undo cX8_undo 1 (some .int)) ∈ GG := GG_i 623 (rfl) (by decide +kernel)
set_option maxRecDepth 100000 in
theorem k_624 : (Cond.methodLink RL 119 yX8_count) ∈ GG := GG_i 624 (rfl) (by decide +kernel)
set_option maxRecDepth 100000 in
theorem k_625 : (Cond.instanceMethod yX8_count) ∈ GG := GG_i 625 (rfl) (by decide +kernel)
set_option maxRecDepth 100000 in
theorem k_626 : (Cond.selects RX8 yX8_count yX8_count) ∈ GG := GG_i 626 (rfl) (by decide +kernel)
set_option maxRecDepth 100000 in
theorem k_627 : (Cond.code yX8_count cX8_count 2 (some .int)) ∈ GG := GG_i 627 (rfl) (by decide +kernel)
set_option maxRecDepth 100000 in
theorem k_628 : (Cond.methodLink RL 123 yX8_tape) ∈ GG := GG_i 628 (rfl) (by decide +kernel)
set_option maxRecDepth 100000 in
theorem k_629 : (Cond.instanceMethod yX8_tape) ∈ GG := GG_i 629 (rfl) (by decide +kernel)
set_option maxRecDepth 100000 in
theorem k_630 : (Cond.selects RX8 yX8_tape yX8_tape) ∈ GG := GG_i 630 (rfl) (by decide +kernel)
set_option maxRecDepth 100000 in
theorem k_631 : (Cond.code yX8_tape cX8_tape 5 (some .int)) ∈ GG := GG_i 631 (rfl) (by decide +kernel)
set_option maxRecDepth 100000 in
theorem k_632 : (Cond.methodLink RX8 232 yX4_clear) ∈ GG := GG_i 632 (rfl) (by decide +kernel)
set_option maxRecDepth 100000 in
theorem k_633 : (Cond.instanceMethod yX4_clear) ∈ GG := GG_i 633 (rfl) (by decide +kernel)
set_option maxRecDepth 100000 in
theorem k_634 : (Cond.selects RX4 yX4_clear yX4_clear) ∈ GG := GG_i 634 (rfl) (by decide +kernel)
set_option maxRecDepth 100000 in
theorem k_635 : (Cond.code yX4_clear cX4_clear 4 none) ∈ GG := GG_i 635 (rfl) (by decide +kernel)
set_option maxRecDepth 100000 in
theorem k_636 : (Cond.methodLink RL 129 yX8_item) ∈ GG := GG_i 636 (rfl) (by decide +kernel)
set_option maxRecDepth 100000 in
theorem k_637 : (Cond.instanceMethod yX8_item) ∈ GG := GG_i 637 (rfl) (by decide +kernel)
set_option maxRecDepth 100000 in
theorem k_638 : (Cond.selects RX8 yX8_item yX8_item) ∈ GG := GG_i 638 (rfl) (by decide +kernel)
set_option maxRecDepth 100000 in
theorem k_639 : (Cond.code yX8_item cX8_item 6 (some .int)) ∈ GG := GG_i 639 (rfl) (by decide +kernel)
set_option maxRecDepth 100000 in
theorem k_640 : (Cond.methodLink RX8 241 yX4_asItem) ∈ GG := GG_i 640 (rfl) (by decide +kernel)
set_option maxRecDepth 100000 in
theorem k_641 : (Cond.instanceMethod yX4_asItem) ∈ GG := GG_i 641 (rfl) (by decide +kernel)
set_option maxRecDepth 100000 in
theorem k_642 : (Cond.selects RX4 yX4_asItem yX4_asItem) ∈ GG := GG_i 642 (rfl) (by decide +kernel)
set_option maxRecDepth 100000 in
theorem k_643 : (Cond.code yX4_asItem cX4_asItem 3 (some .long)) ∈ GG := GG_i 643 (rfl) (by decide +kernel)
set_option maxRecDepth 100000 in
theorem k_644 : (Cond.methodLink RL 134 yX8_peek) ∈ GG := GG_i 644 (rfl) (by decide +kernel)
set_option maxRecDepth 100000 in
theorem k_645 : (Cond.instanceMethod yX8_peek) ∈ GG := GG_i 645 (rfl) (by decide +kernel)
set_option maxRecDepth 100000 in
theorem k_646 : (Cond.selects RX8 yX8_peek yX8_peek) ∈ GG := GG_i 646 (rfl) (by decide +kernel)
set_option maxRecDepth 100000 in
theorem k_647 : (Cond.code yX8_peek cX8_peek 4 (some .long)) ∈ GG := GG_i 647 (rfl) (by decide +kernel)
set_option maxRecDepth 100000 in
theorem k_648 : (Cond.methodLink RL 138 yX8_shift) ∈ GG := GG_i 648 (rfl) (by decide +kernel)
set_option maxRecDepth 100000 in
theorem k_649 : (Cond.instanceMethod yX8_shift) ∈ GG := GG_i 649 (rfl) (by decide +kernel)
set_option maxRecDepth 100000 in
theorem k_650 : (Cond.selects RX8 yX8_shift yX8_shift) ∈ GG := GG_i 650 (rfl) (by decide +kernel)
set_option maxRecDepth 100000 in
theorem k_651 : (Cond.code yX8_shift cX8_shift 8 (some .int)) ∈ GG := GG_i 651 (rfl) (by decide +kernel)
set_option maxRecDepth 100000 in
theorem k_652 : (Cond.methodLink RX8 245 yX4_hasRun) ∈ GG := GG_i 652 (rfl) (by decide +kernel)
set_option maxRecDepth 100000 in
theorem k_653 : (Cond.instanceMethod yX4_hasRun) ∈ GG := GG_i 653 (rfl) (by decide +kernel)
set_option maxRecDepth 100000 in
theorem k_654 : (Cond.selects RX4 yX4_hasRun yX4_hasRun) ∈ GG := GG_i 654 (rfl) (by decide +kernel)
set_option maxRecDepth 100000 in
theorem k_655 : (Cond.code yX4_hasRun cX4_hasRun 3 (some .boolean)) ∈ GG := GG_i 655 (rfl) (by decide +kernel)
set_option maxRecDepth 100000 in
theorem k_656 : (Cond.methodLink RX8 248 arraycopyName) ∈ GG := GG_i 656 (rfl) (by decide +kernel)
set_option maxRecDepth 100000 in
theorem k_657 : (Cond.static arraycopyName) ∈ GG := GG_i 657 (rfl) (by decide +kernel)
set_option maxRecDepth 100000 in
theorem k_658 : (Cond.native arraycopyName) ∈ GG := GG_i 658 (rfl) (by decide +kernel)
set_option maxRecDepth 100000 in
theorem k_659 : (Cond.classLink RL 10 RX9) ∈ GG := GG_i 659 (rfl) (by decide +kernel)
set_option maxRecDepth 100000 in
theorem k_660 : (Cond.instantiable RX9 21) ∈ GG := GG_i 660 (rfl) (by decide +kernel)
set_option maxRecDepth 100000 in
theorem k_661 : (Cond.methodLink RL 12 yX9_init) ∈ GG := GG_i 661 (rfl) (by decide +kernel)
set_option maxRecDepth 100000 in
theorem k_662 : (Cond.instanceMethod yX9_init) ∈ GG := GG_i 662 (rfl) (by decide +kernel)
set_option maxRecDepth 100000 in
theorem k_663 : (Cond.code yX9_init cX9_init 1 none) ∈ GG := GG_i 663 (rfl) (by decide +kernel)
set_option maxRecDepth 100000 in
theorem k_664 : (Cond.methodLink RX9 3 objectInit) ∈ GG := GG_i 664 (rfl) (by decide +kernel)
set_option maxRecDepth 100000 in
theorem k_665 : (Cond.fieldLink RX9 9 "WatchBeatsModel" "now" "[I") ∈ GG := GG_i 665 (rfl) (by decide +kernel)
set_option maxRecDepth 100000 in
theorem k_666 : (Cond.fieldLink RX9 15 "WatchBeatsModel" "old" "[I") ∈ GG := GG_i 666 (rfl) (by decide +kernel)
set_option maxRecDepth 100000 in
theorem k_667 : (Cond.fieldLink RX9 18 "WatchBeatsModel" "ahead" "[I") ∈ GG := GG_i 667 (rfl) (by decide +kernel)
set_option maxRecDepth 100000 in
theorem k_668 : (Cond.fieldLink RX9 188 "WatchBeatsModel" "imaged" "Z") ∈ GG := GG_i 668 (rfl) (by decide +kernel)
set_option maxRecDepth 100000 in
theorem k_669 : (Cond.fieldLink RX9 21 "WatchBeatsModel" "account" "[J") ∈ GG := GG_i 669 (rfl) (by decide +kernel)
set_option maxRecDepth 100000 in
theorem k_670 : (Cond.fieldLink RX9 25 "WatchBeatsModel" "oldAccount" "[J") ∈ GG := GG_i 670 (rfl) (by decide +kernel)
set_option maxRecDepth 100000 in
theorem k_671 : (Cond.fieldLink RX9 28 "WatchBeatsModel" "aheadAccount" "[J") ∈ GG := GG_i 671 (rfl) (by decide +kernel)
set_option maxRecDepth 100000 in
theorem k_672 : (Cond.fieldLink RX9 86 "WatchBeatsModel" "beats" "I") ∈ GG := GG_i 672 (rfl) (by decide +kernel)
set_option maxRecDepth 100000 in
theorem k_673 : (Cond.fieldLink RX9 90 "WatchBeatsModel" "begun" "I") ∈ GG := GG_i 673 (rfl) (by decide +kernel)
set_option maxRecDepth 100000 in
theorem k_674 : (Cond.fieldLink RX9 31 "WatchBeatsModel" "beatAt" "[I") ∈ GG := GG_i 674 (rfl) (by decide +kernel)
set_option maxRecDepth 100000 in
theorem k_675 : (Cond.fieldLink RX9 108 "WatchBeatsModel" "texts" "I") ∈ GG := GG_i 675 (rfl) (by decide +kernel)
set_option maxRecDepth 100000 in
theorem k_676 : (Cond.fieldLink RX9 34 "WatchBeatsModel" "text" "[I") ∈ GG := GG_i 676 (rfl) (by decide +kernel)
set_option maxRecDepth 100000 in
theorem k_677 : (Cond.fieldLink RX9 111 "WatchBeatsModel" "at" "I") ∈ GG := GG_i 677 (rfl) (by decide +kernel)
set_option maxRecDepth 100000 in
theorem k_678 : (Cond.fieldLink RX9 118 "WatchBeatsModel" "fault" "I") ∈ GG := GG_i 678 (rfl) (by decide +kernel)
set_option maxRecDepth 100000 in
theorem k_679 : (Cond.fieldLink RX9 124 "WatchBeatsModel" "clauses" "I") ∈ GG := GG_i 679 (rfl) (by decide +kernel)
set_option maxRecDepth 100000 in
theorem k_680 : (Cond.fieldLink RX9 37 "WatchBeatsModel" "clause" "[I") ∈ GG := GG_i 680 (rfl) (by decide +kernel)
set_option maxRecDepth 100000 in
theorem k_681 : (Cond.fieldLink RX9 40 "WatchBeatsModel" "number" "[I") ∈ GG := GG_i 681 (rfl) (by decide +kernel)
set_option maxRecDepth 100000 in
theorem k_682 : (Cond.fieldLink RX9 43 "WatchBeatsModel" "sort" "[I") ∈ GG := GG_i 682 (rfl) (by decide +kernel)
set_option maxRecDepth 100000 in
theorem k_683 : (Cond.fieldLink RX9 46 "WatchBeatsModel" "size" "[I") ∈ GG := GG_i 683 (rfl) (by decide +kernel)
set_option maxRecDepth 100000 in
theorem k_684 : (Cond.fieldLink RX9 49 "WatchBeatsModel" "items" "[J") ∈ GG := GG_i 684 (rfl) (by decide +kernel)
set_option maxRecDepth 100000 in
theorem k_685 : (Cond.fieldLink RX9 52 "WatchBeatsModel" "moved" "[J") ∈ GG := GG_i 685 (rfl) (by decide +kernel)
set_option maxRecDepth 100000 in
theorem k_686 : (Cond.laysFinal "WatchBeatsModel" "WatchBeatsModel" "now" "[I") ∈ GG := GG_i 686 (rfl) (by decide +kernel)
set_option maxRecDepth 100000 in
theorem k_688 : (Cond.laysFinal "WatchBeatsModel" "WatchBeatsModel" "old" "[I") ∈ GG := GG_i 688 (rfl) (by decide +kernel)
set_option maxRecDepth 100000 in
theorem k_690 : (Cond.laysFinal "WatchBeatsModel" "WatchBeatsModel" "ahead" "[I") ∈ GG := GG_i 690 (rfl) (by decide +kernel)
set_option maxRecDepth 100000 in
theorem k_692 : (Cond.lays "WatchBeatsModel" "WatchBeatsModel" "imaged" "Z") ∈ GG := GG_i 692 (rfl) (by decide +kernel)
set_option maxRecDepth 100000 in
theorem k_694 : (Cond.laysFinal "WatchBeatsModel" "WatchBeatsModel" "account" "[J") ∈ GG := GG_i 694 (rfl) (by decide +kernel)
set_option maxRecDepth 100000 in
theorem k_696 : (Cond.laysFinal "WatchBeatsModel" "WatchBeatsModel" "oldAccount" "[J") ∈ GG := GG_i 696 (rfl) (by decide +kernel)
set_option maxRecDepth 100000 in
theorem k_698 : (Cond.laysFinal "WatchBeatsModel" "WatchBeatsModel" "aheadAccount" "[J") ∈ GG := GG_i 698 (rfl) (by decide +kernel)
set_option maxRecDepth 100000 in
theorem k_700 : (Cond.lays "WatchBeatsModel" "WatchBeatsModel" "beats" "I") ∈ GG := GG_i 700 (rfl) (by decide +kernel)
set_option maxRecDepth 100000 in
theorem k_702 : (Cond.lays "WatchBeatsModel" "WatchBeatsModel" "begun" "I") ∈ GG := GG_i 702 (rfl) (by decide +kernel)
set_option maxRecDepth 100000 in
theorem k_704 : (Cond.laysFinal "WatchBeatsModel" "WatchBeatsModel" "beatAt" "[I") ∈ GG := GG_i 704 (rfl) (by decide +kernel)
set_option maxRecDepth 100000 in
theorem k_706 : (Cond.lays "WatchBeatsModel" "WatchBeatsModel" "texts" "I") ∈ GG := GG_i 706 (rfl) (by decide +kernel)
set_option maxRecDepth 100000 in
theorem k_708 : (Cond.laysFinal "WatchBeatsModel" "WatchBeatsModel" "text" "[I") ∈ GG := GG_i 708 (rfl) (by decide +kernel)
set_option maxRecDepth 100000 in
theorem k_710 : (Cond.lays "WatchBeatsModel" "WatchBeatsModel" "at" "I") ∈ GG := GG_i 710 (rfl) (by decide +kernel)
set_option maxRecDepth 100000 in
theorem k_712 : (Cond.lays "WatchBeatsModel" "WatchBeatsModel" "fault" "I") ∈ GG := GG_i 712 (rfl) (by decide +kernel)
set_option maxRecDepth 100000 in
theorem k_714 : (Cond.lays "WatchBeatsModel" "WatchBeatsModel" "clauses" "I") ∈ GG := GG_i 714 (rfl) (by decide +kernel)
set_option maxRecDepth 100000 in
theorem k_716 : (Cond.laysFinal "WatchBeatsModel" "WatchBeatsModel" "clause" "[I") ∈ GG := GG_i 716 (rfl) (by decide +kernel)
set_option maxRecDepth 100000 in
theorem k_718 : (Cond.laysFinal "WatchBeatsModel" "WatchBeatsModel" "number" "[I") ∈ GG := GG_i 718 (rfl) (by decide +kernel)
set_option maxRecDepth 100000 in
theorem k_720 : (Cond.laysFinal "WatchBeatsModel" "WatchBeatsModel" "sort" "[I") ∈ GG := GG_i 720 (rfl) (by decide +kernel)
set_option maxRecDepth 100000 in
theorem k_722 : (Cond.laysFinal "WatchBeatsModel" "WatchBeatsModel" "size" "[I") ∈ GG := GG_i 722 (rfl) (by decide +kernel)
set_option maxRecDepth 100000 in
theorem k_724 : (Cond.laysFinal "WatchBeatsModel" "WatchBeatsModel" "items" "[J") ∈ GG := GG_i 724 (rfl) (by decide +kernel)
set_option maxRecDepth 100000 in
theorem k_726 : (Cond.laysFinal "WatchBeatsModel" "WatchBeatsModel" "moved" "[J") ∈ GG := GG_i 726 (rfl) (by decide +kernel)
set_option maxRecDepth 100000 in
theorem k_729 : (Cond.methodLink RL 17 yX9_set) ∈ GG := GG_i 729 (rfl) (by decide +kernel)
set_option maxRecDepth 100000 in
theorem k_730 : (Cond.instanceMethod yX9_set) ∈ GG := GG_i 730 (rfl) (by decide +kernel)
set_option maxRecDepth 100000 in
theorem k_731 : (Cond.selects RX9 yX9_set yX9_set) ∈ GG := GG_i 731 (rfl) (by decide +kernel)
set_option maxRecDepth 100000 in
theorem k_732 : (Cond.code yX9_set cX9_set 6 (some .int)) ∈ GG := GG_i 732 (rfl) (by decide +kernel)
set_option maxRecDepth 100000 in
theorem k_733 : (Cond.methodLink RX9 55 yX9_within) ∈ GG := GG_i 733 (rfl) (by decide +kernel)
set_option maxRecDepth 100000 in
theorem k_734 : (Cond.static yX9_within) ∈ GG := GG_i 734 (rfl) (by decide +kernel)
set_option maxRecDepth 100000 in
theorem k_735 : (Cond.code yX9_within cX9_within 3 (some .boolean)) ∈ GG := GG_i 735 (rfl) (by decide +kernel)
set_option maxRecDepth 100000 in
theorem k_736 : (Cond.methodLink RX9 61 yX9_isSo) ∈ GG := GG_i 736 (rfl) (by decide +kernel)
set_option maxRecDepth 100000 in
theorem k_737 : (Cond.static yX9_isSo) ∈ GG := GG_i 737 (rfl) (by decide +kernel)
set_option maxRecDepth 100000 in
theorem k_738 : (Cond.code yX9_isSo cX9_isSo 2 (some .boolean)) ∈ GG := GG_i 738 (rfl) (by decide +kernel)
set_option maxRecDepth 100000 in
theorem k_739 : (Cond.methodLink RX9 65 yX9_energyNow) ∈ GG := GG_i 739 (rfl) (by decide +kernel)
set_option maxRecDepth 100000 in
theorem k_741 : (Cond.instanceMethod yX9_energyNow) ∈ GG := GG_i 741 (rfl) (by decide +kernel)
set_option maxRecDepth 100000 in
theorem k_742 : (Cond.code yX9_energyNow cX9_energyNow 1 (some .long)) ∈ GG := GG_i 742 (rfl) (by decide +kernel)
set_option maxRecDepth 100000 in
theorem k_743 : (Cond.constantLong RX9 59 (32)) ∈ GG := GG_i 743 (rfl) (by decide +kernel)
set_option maxRecDepth 100000 in
theorem k_744 : (Cond.methodLink RL 22 yX9_told) ∈ GG := GG_i 744 (rfl) (by decide +kernel)
set_option maxRecDepth 100000 in
theorem k_745 : (Cond.instanceMethod yX9_told) ∈ GG := GG_i 745 (rfl) (by decide +kernel)
set_option maxRecDepth 100000 in
theorem k_746 : (Cond.selects RX9 yX9_told yX9_told) ∈ GG := GG_i 746 (rfl) (by decide +kernel)
set_option maxRecDepth 100000 in
theorem k_747 : (Cond.code yX9_told cX9_told 2 (some .int)) ∈ GG := GG_i 747 (rfl) (by decide +kernel)
set_option maxRecDepth 100000 in
theorem k_748 : (Cond.methodLink RL 27 yX9_push) ∈ GG := GG_i 748 (rfl) (by decide +kernel)
set_option maxRecDepth 100000 in
theorem k_749 : (Cond.instanceMethod yX9_push) ∈ GG := GG_i 749 (rfl) (by decide +kernel)
set_option maxRecDepth 100000 in
theorem k_750 : (Cond.selects RX9 yX9_push yX9_push) ∈ GG := GG_i 750 (rfl) (by decide +kernel)
set_option maxRecDepth 100000 in
theorem k_751 : (Cond.code yX9_push cX9_push 5 (some .int)) ∈ GG := GG_i 751 (rfl) (by decide +kernel)
set_option maxRecDepth 100000 in
theorem k_752 : (Cond.constant RX9 69 (99999)) ∈ GG := GG_i 752 (rfl) (by decide +kernel)
set_option maxRecDepth 100000 in
theorem k_753 : (Cond.methodLink RL 31 yX9_pushOf) ∈ GG := GG_i 753 (rfl) (by decide +kernel)
set_option maxRecDepth 100000 in
theorem k_754 : (Cond.instanceMethod yX9_pushOf) ∈ GG := GG_i 754 (rfl) (by decide +kernel)
set_option maxRecDepth 100000 in
theorem k_755 : (Cond.selects RX9 yX9_pushOf yX9_pushOf) ∈ GG := GG_i 755 (rfl) (by decide +kernel)
set_option maxRecDepth 100000 in
theorem k_756 : (Cond.code yX9_pushOf cX9_pushOf 7 (some .int)) ∈ GG := GG_i 756 (rfl) (by decide +kernel)
set_option maxRecDepth 100000 in
theorem k_757 : (Cond.methodLink RL 35 yX9_go) ∈ GG := GG_i 757 (rfl) (by decide +kernel)
set_option maxRecDepth 100000 in
theorem k_758 : (Cond.instanceMethod yX9_go) ∈ GG := GG_i 758 (rfl) (by decide +kernel)
set_option maxRecDepth 100000 in
theorem k_759 : (Cond.selects RX9 yX9_go yX9_go) ∈ GG := GG_i 759 (rfl) (by decide +kernel)
set_option maxRecDepth 100000 in
theorem k_760 : (Cond.code yX9_go cX9_go 2 (some .int)) ∈ GG := GG_i 760 (rfl) (by decide +kernel)
set_option maxRecDepth 100000 in
theorem k_761 : (Cond.methodLink RX9 96 yX9_goes) ∈ GG := GG_i 761 (rfl) (by decide +kernel)
set_option maxRecDepth 100000 in
theorem k_763 : (Cond.instanceMethod yX9_goes) ∈ GG := GG_i 763 (rfl) (by decide +kernel)
set_option maxRecDepth 100000 in
theorem k_764 : (Cond.code yX9_goes cX9_goes 3 none) ∈ GG := GG_i 764 (rfl) (by decide +kernel)
set_option maxRecDepth 100000 in
theorem k_765 : (Cond.methodLink RX9 93 yX9_tick) ∈ GG := GG_i 765 (rfl) (by decide +kernel)
set_option maxRecDepth 100000 in
theorem k_767 : (Cond.instanceMethod yX9_tick) ∈ GG := GG_i 767 (rfl) (by decide +kernel)
set_option maxRecDepth 100000 in
theorem k_768 : (Cond.code yX9_tick cX9_tick 9 none) ∈ GG := GG_i 768 (rfl) (by decide +kernel)
set_option maxRecDepth 100000 in
theorem k_769 : (Cond.methodLink RX9 79 yX9_pushes) ∈ GG := GG_i 769 (rfl) (by decide +kernel)
set_option maxRecDepth 100000 in
theorem k_771 : (Cond.instanceMethod yX9_pushes) ∈ GG := GG_i 771 (rfl) (by decide +kernel)
set_option maxRecDepth 100000 in
theorem k_772 : (Cond.code yX9_pushes cX9_pushes 7 none) ∈ GG := GG_i 772 (rfl) (by decide +kernel)
set_option maxRecDepth 100000 in
theorem k_773 : (Cond.methodLink RX9 70 Lib.Math.min.name) ∈ GG := GG_i 773 (rfl) (by decide +kernel)
set_option maxRecDepth 100000 in
theorem k_774 : (Cond.methodLink RX9 76 Lib.Math.max.name) ∈ GG := GG_i 774 (rfl) (by decide +kernel)
set_option maxRecDepth 100000 in
theorem k_775 : (Cond.methodLink RX9 82 yX9_accounts) ∈ GG := GG_i 775 (rfl) (by decide +kernel)
set_option maxRecDepth 100000 in
theorem k_777 : (Cond.instanceMethod yX9_accounts) ∈ GG := GG_i 777 (rfl) (by decide +kernel)
set_option maxRecDepth 100000 in
theorem k_778 : (Cond.code yX9_accounts cX9_accounts 6 (some .long)) ∈ GG := GG_i 778 (rfl) (by decide +kernel)
set_option maxRecDepth 100000 in
theorem k_779 : (Cond.methodLink RL 39 yX9_wheel) ∈ GG := GG_i 779 (rfl) (by decide +kernel)
set_option maxRecDepth 100000 in
theorem k_780 : (Cond.instanceMethod yX9_wheel) ∈ GG := GG_i 780 (rfl) (by decide +kernel)
set_option maxRecDepth 100000 in
theorem k_781 : (Cond.selects RX9 yX9_wheel yX9_wheel) ∈ GG := GG_i 781 (rfl) (by decide +kernel)
set_option maxRecDepth 100000 in
theorem k_782 : (Cond.code yX9_wheel cX9_wheel 2 (some .int)) ∈ GG := GG_i 782 (rfl) (by decide +kernel)
set_option maxRecDepth 100000 in
theorem k_783 : (Cond.methodLink RL 44 yX9_turns) ∈ GG := GG_i 783 (rfl) (by decide +kernel)
set_option maxRecDepth 100000 in
theorem k_784 : (Cond.instanceMethod yX9_turns) ∈ GG := GG_i 784 (rfl) (by decide +kernel)
set_option maxRecDepth 100000 in
theorem k_785 : (Cond.selects RX9 yX9_turns yX9_turns) ∈ GG := GG_i 785 (rfl) (by decide +kernel)
set_option maxRecDepth 100000 in
theorem k_786 : (Cond.code yX9_turns cX9_turns 6 (some .long)) ∈ GG := GG_i 786 (rfl) (by decide +kernel)
set_option maxRecDepth 100000 in
theorem k_787 : (Cond.constantLong RX9 100 (-9223372036854775808)) ∈ GG := GG_i 787 (rfl) (by decide +kernel)
set_option maxRecDepth 100000 in
theorem k_788 : (Cond.constantLong RX9 102 (2)) ∈ GG := GG_i 788 (rfl) (by decide +kernel)
set_option maxRecDepth 100000 in
theorem k_789 : (Cond.methodLink RX9 104 yX9_lowest) ∈ GG := GG_i 789 (rfl) (by decide +kernel)
set_option maxRecDepth 100000 in
theorem k_790 : (Cond.static yX9_lowest) ∈ GG := GG_i 790 (rfl) (by decide +kernel)
set_option maxRecDepth 100000 in
theorem k_791 : (Cond.code yX9_lowest cX9_lowest 11 (some .long)) ∈ GG := GG_i 791 (rfl) (by decide +kernel)
set_option maxRecDepth 100000 in
theorem k_792 : (Cond.methodLink RL 49 yX9_energy) ∈ GG := GG_i 792 (rfl) (by decide +kernel)
set_option maxRecDepth 100000 in
theorem k_793 : (Cond.instanceMethod yX9_energy) ∈ GG := GG_i 793 (rfl) (by decide +kernel)
set_option maxRecDepth 100000 in
theorem k_794 : (Cond.selects RX9 yX9_energy yX9_energy) ∈ GG := GG_i 794 (rfl) (by decide +kernel)
set_option maxRecDepth 100000 in
theorem k_795 : (Cond.code yX9_energy cX9_energy 2 (some .long)) ∈ GG := GG_i 795 (rfl) (by decide +kernel)
set_option maxRecDepth 100000 in
theorem k_796 : (Cond.methodLink RL 53 yX9_feed) ∈ GG := GG_i 796 (rfl) (by decide +kernel)
set_option maxRecDepth 100000 in
theorem k_797 : (Cond.instanceMethod yX9_feed) ∈ GG := GG_i 797 (rfl) (by decide +kernel)
set_option maxRecDepth 100000 in
theorem k_798 : (Cond.selects RX9 yX9_feed yX9_feed) ∈ GG := GG_i 798 (rfl) (by decide +kernel)
set_option maxRecDepth 100000 in
theorem k_799 : (Cond.code yX9_feed cX9_feed 2 (some .int)) ∈ GG := GG_i 799 (rfl) (by decide +kernel)
set_option maxRecDepth 100000 in
theorem k_800 : (Cond.methodLink RL 58 yX9_read) ∈ GG := GG_i 800 (rfl) (by decide +kernel)
set_option maxRecDepth 100000 in
theorem k_801 : (Cond.instanceMethod yX9_read) ∈ GG := GG_i 801 (rfl) (by decide +kernel)
set_option maxRecDepth 100000 in
theorem k_802 : (Cond.selects RX9 yX9_read yX9_read) ∈ GG := GG_i 802 (rfl) (by decide +kernel)
set_option maxRecDepth 100000 in
theorem k_803 : (Cond.code yX9_read cX9_read 3 (some .int)) ∈ GG := GG_i 803 (rfl) (by decide +kernel)
set_option maxRecDepth 100000 in
theorem k_804 : (Cond.methodLink RX9 136 yX9_reads) ∈ GG := GG_i 804 (rfl) (by decide +kernel)
set_option maxRecDepth 100000 in
theorem k_806 : (Cond.instanceMethod yX9_reads) ∈ GG := GG_i 806 (rfl) (by decide +kernel)
set_option maxRecDepth 100000 in
theorem k_807 : (Cond.code yX9_reads cX9_reads 5 none) ∈ GG := GG_i 807 (rfl) (by decide +kernel)
set_option maxRecDepth 100000 in
theorem k_808 : (Cond.methodLink RX9 114 yX9_letter) ∈ GG := GG_i 808 (rfl) (by decide +kernel)
set_option maxRecDepth 100000 in
theorem k_809 : (Cond.static yX9_letter) ∈ GG := GG_i 809 (rfl) (by decide +kernel)
set_option maxRecDepth 100000 in
theorem k_810 : (Cond.code yX9_letter cX9_letter 1 (some .int)) ∈ GG := GG_i 810 (rfl) (by decide +kernel)
set_option maxRecDepth 100000 in
theorem k_811 : (Cond.methodLink RX9 121 yX9_isFrom) ∈ GG := GG_i 811 (rfl) (by decide +kernel)
set_option maxRecDepth 100000 in
theorem k_813 : (Cond.instanceMethod yX9_isFrom) ∈ GG := GG_i 813 (rfl) (by decide +kernel)
set_option maxRecDepth 100000 in
theorem k_814 : (Cond.code yX9_isFrom cX9_isFrom 3 (some .boolean)) ∈ GG := GG_i 814 (rfl) (by decide +kernel)
set_option maxRecDepth 100000 in
theorem k_815 : (Cond.methodLink RX9 139 yX9_does) ∈ GG := GG_i 815 (rfl) (by decide +kernel)
set_option maxRecDepth 100000 in
theorem k_817 : (Cond.instanceMethod yX9_does) ∈ GG := GG_i 817 (rfl) (by decide +kernel)
set_option maxRecDepth 100000 in
theorem k_818 : (Cond.code yX9_does cX9_does 3 (some .boolean)) ∈ GG := GG_i 818 (rfl) (by decide +kernel)
set_option maxRecDepth 100000 in
theorem k_819 : (Cond.methodLink RX9 127 yX9_set) ∈ GG := GG_i 819 (rfl) (by decide +kernel)
set_option maxRecDepth 100000 in
theorem k_820 : (Cond.methodLink RX9 130 yX9_wheel) ∈ GG := GG_i 820 (rfl) (by decide +kernel)
set_option maxRecDepth 100000 in
theorem k_821 : (Cond.methodLink RX9 133 yX9_go) ∈ GG := GG_i 821 (rfl) (by decide +kernel)
set_option maxRecDepth 100000 in
theorem k_822 : (Cond.methodLink RL 62 yX9_ahead) ∈ GG := GG_i 822 (rfl) (by decide +kernel)
set_option maxRecDepth 100000 in
theorem k_823 : (Cond.instanceMethod yX9_ahead) ∈ GG := GG_i 823 (rfl) (by decide +kernel)
set_option maxRecDepth 100000 in
theorem k_824 : (Cond.selects RX9 yX9_ahead yX9_ahead) ∈ GG := GG_i 824 (rfl) (by decide +kernel)
set_option maxRecDepth 100000 in
theorem k_825 : (Cond.code yX9_ahead cX9_ahead 4 (some .int)) ∈ GG := GG_i 825 (rfl) (by decide +kernel)
set_option maxRecDepth 100000 in
theorem k_826 : (Cond.methodLink RX9 151 yX9_lays) ∈ GG := GG_i 826 (rfl) (by decide +kernel)
set_option maxRecDepth 100000 in
theorem k_828 : (Cond.instanceMethod yX9_lays) ∈ GG := GG_i 828 (rfl) (by decide +kernel)
set_option maxRecDepth 100000 in
theorem k_829 : (Cond.code yX9_lays cX9_lays 1 none) ∈ GG := GG_i 829 (rfl) (by decide +kernel)
set_option maxRecDepth 100000 in
theorem k_830 : (Cond.methodLink RX9 143 yX9_pours) ∈ GG := GG_i 830 (rfl) (by decide +kernel)
set_option maxRecDepth 100000 in
theorem k_831 : (Cond.static yX9_pours) ∈ GG := GG_i 831 (rfl) (by decide +kernel)
set_option maxRecDepth 100000 in
theorem k_832 : (Cond.code yX9_pours cX9_pours 3 none) ∈ GG := GG_i 832 (rfl) (by decide +kernel)
set_option maxRecDepth 100000 in
theorem k_833 : (Cond.methodLink RX9 147 yX9_poursLongs) ∈ GG := GG_i 833 (rfl) (by decide +kernel)
set_option maxRecDepth 100000 in
theorem k_834 : (Cond.static yX9_poursLongs) ∈ GG := GG_i 834 (rfl) (by decide +kernel)
set_option maxRecDepth 100000 in
theorem k_835 : (Cond.code yX9_poursLongs cX9_poursLongs 3 none) ∈ GG := GG_i 835 (rfl) (by decide +kernel)
set_option maxRecDepth 100000 in
theorem k_836 : (Cond.methodLink RX9 154 yX9_back) ∈ GG := GG_i 836 (rfl) (by decide +kernel)
set_option maxRecDepth 100000 in
theorem k_838 : (Cond.instanceMethod yX9_back) ∈ GG := GG_i 838 (rfl) (by decide +kernel)
set_option maxRecDepth 100000 in
theorem k_839 : (Cond.code yX9_back cX9_back 1 none) ∈ GG := GG_i 839 (rfl) (by decide +kernel)
set_option maxRecDepth 100000 in
theorem k_840 : (Cond.methodLink RL 66 yX9_energyAt) ∈ GG := GG_i 840 (rfl) (by decide +kernel)
set_option maxRecDepth 100000 in
theorem k_841 : (Cond.instanceMethod yX9_energyAt) ∈ GG := GG_i 841 (rfl) (by decide +kernel)
set_option maxRecDepth 100000 in
theorem k_842 : (Cond.selects RX9 yX9_energyAt yX9_energyAt) ∈ GG := GG_i 842 (rfl) (by decide +kernel)
set_option maxRecDepth 100000 in
theorem k_843 : (Cond.code yX9_energyAt cX9_energyAt 4 (some .long)) ∈ GG := GG_i 843 (rfl) (by decide +kernel)
set_option maxRecDepth 100000 in
theorem k_844 : (Cond.methodLink RL 70 yX9_heard) ∈ GG := GG_i 844 (rfl) (by decide +kernel)
set_option maxRecDepth 100000 in
theorem k_845 : (Cond.instanceMethod yX9_heard) ∈ GG := GG_i 845 (rfl) (by decide +kernel)
set_option maxRecDepth 100000 in
theorem k_846 : (Cond.selects RX9 yX9_heard yX9_heard) ∈ GG := GG_i 846 (rfl) (by decide +kernel)
set_option maxRecDepth 100000 in
theorem k_847 : (Cond.code yX9_heard cX9_heard 2 (some .int)) ∈ GG := GG_i 847 (rfl) (by decide +kernel)
set_option maxRecDepth 100000 in
theorem k_848 : (Cond.methodLink RX9 161 yX9_hears_) ∈ GG := GG_i 848 (rfl) (by decide +kernel)
set_option maxRecDepth 100000 in
theorem k_850 : (Cond.instanceMethod yX9_hears_) ∈ GG := GG_i 850 (rfl) (by decide +kernel)
set_option maxRecDepth 100000 in
theorem k_851 : (Cond.code yX9_hears_ cX9_hears_ 1 none) ∈ GG := GG_i 851 (rfl) (by decide +kernel)
set_option maxRecDepth 100000 in
theorem k_852 : (Cond.methodLink RX9 157 yX9_hears) ∈ GG := GG_i 852 (rfl) (by decide +kernel)
set_option maxRecDepth 100000 in
theorem k_854 : (Cond.instanceMethod yX9_hears) ∈ GG := GG_i 854 (rfl) (by decide +kernel)
set_option maxRecDepth 100000 in
theorem k_855 : (Cond.code yX9_hears cX9_hears 3 none) ∈ GG := GG_i 855 (rfl) (by decide +kernel)
set_option maxRecDepth 100000 in
theorem k_856 : (Cond.methodLink RL 74 yX9_beat) ∈ GG := GG_i 856 (rfl) (by decide +kernel)
set_option maxRecDepth 100000 in
theorem k_857 : (Cond.instanceMethod yX9_beat) ∈ GG := GG_i 857 (rfl) (by decide +kernel)
set_option maxRecDepth 100000 in
theorem k_858 : (Cond.selects RX9 yX9_beat yX9_beat) ∈ GG := GG_i 858 (rfl) (by decide +kernel)
set_option maxRecDepth 100000 in
theorem k_859 : (Cond.code yX9_beat cX9_beat 2 (some .int)) ∈ GG := GG_i 859 (rfl) (by decide +kernel)
set_option maxRecDepth 100000 in
theorem k_860 : (Cond.methodLink RX9 176 yX9_evenest) ∈ GG := GG_i 860 (rfl) (by decide +kernel)
set_option maxRecDepth 100000 in
theorem k_862 : (Cond.instanceMethod yX9_evenest) ∈ GG := GG_i 862 (rfl) (by decide +kernel)
set_option maxRecDepth 100000 in
theorem k_863 : (Cond.code yX9_evenest cX9_evenest 8 (some .int)) ∈ GG := GG_i 863 (rfl) (by decide +kernel)
set_option maxRecDepth 100000 in
theorem k_864 : (Cond.methodLink RX9 170 yX9_uneven) ∈ GG := GG_i 864 (rfl) (by decide +kernel)
set_option maxRecDepth 100000 in
theorem k_866 : (Cond.instanceMethod yX9_uneven) ∈ GG := GG_i 866 (rfl) (by decide +kernel)
set_option maxRecDepth 100000 in
theorem k_867 : (Cond.code yX9_uneven cX9_uneven 3 (some .int)) ∈ GG := GG_i 867 (rfl) (by decide +kernel)
set_option maxRecDepth 100000 in
theorem k_868 : (Cond.methodLink RX9 163 yX9_gaps) ∈ GG := GG_i 868 (rfl) (by decide +kernel)
set_option maxRecDepth 100000 in
theorem k_870 : (Cond.instanceMethod yX9_gaps) ∈ GG := GG_i 870 (rfl) (by decide +kernel)
set_option maxRecDepth 100000 in
theorem k_871 : (Cond.code yX9_gaps cX9_gaps 1 (some .int)) ∈ GG := GG_i 871 (rfl) (by decide +kernel)
set_option maxRecDepth 100000 in
theorem k_872 : (Cond.methodLink RX9 167 yX9_gapOf) ∈ GG := GG_i 872 (rfl) (by decide +kernel)
set_option maxRecDepth 100000 in
theorem k_874 : (Cond.instanceMethod yX9_gapOf) ∈ GG := GG_i 874 (rfl) (by decide +kernel)
set_option maxRecDepth 100000 in
theorem k_875 : (Cond.code yX9_gapOf cX9_gapOf 2 (some .int)) ∈ GG := GG_i 875 (rfl) (by decide +kernel)
set_option maxRecDepth 100000 in
theorem k_876 : (Cond.methodLink RX9 173 Lib.Math.abs.name) ∈ GG := GG_i 876 (rfl) (by decide +kernel)
set_option maxRecDepth 100000 in
theorem k_877 : (Cond.methodLink RL 78 yX9_gap) ∈ GG := GG_i 877 (rfl) (by decide +kernel)
set_option maxRecDepth 100000 in
theorem k_878 : (Cond.instanceMethod yX9_gap) ∈ GG := GG_i 878 (rfl) (by decide +kernel)
set_option maxRecDepth 100000 in
theorem k_879 : (Cond.selects RX9 yX9_gap yX9_gap) ∈ GG := GG_i 879 (rfl) (by decide +kernel)
set_option maxRecDepth 100000 in
theorem k_880 : (Cond.code yX9_gap cX9_gap 2 (some .int)) ∈ GG := GG_i 880 (rfl) (by decide +kernel)
set_option maxRecDepth 100000 in
theorem k_881 : (Cond.methodLink RL 82 yX9_longest) ∈ GG := GG_i 881 (rfl) (by decide +kernel)
set_option maxRecDepth 100000 in
theorem k_882 : (Cond.instanceMethod yX9_longest) ∈ GG := GG_i 882 (rfl) (by decide +kernel)
set_option maxRecDepth 100000 in
theorem k_883 : (Cond.selects RX9 yX9_longest yX9_longest) ∈ GG := GG_i 883 (rfl) (by decide +kernel)
set_option maxRecDepth 100000 in
theorem k_884 : (Cond.code yX9_longest cX9_longest 6 (some .int)) ∈ GG := GG_i 884 (rfl) (by decide +kernel)
set_option maxRecDepth 100000 in
theorem k_885 : (Cond.methodLink RL 86 yX9_see) ∈ GG := GG_i 885 (rfl) (by decide +kernel)
set_option maxRecDepth 100000 in
theorem k_886 : (Cond.instanceMethod yX9_see) ∈ GG := GG_i 886 (rfl) (by decide +kernel)
set_option maxRecDepth 100000 in
theorem k_887 : (Cond.selects RX9 yX9_see yX9_see) ∈ GG := GG_i 887 (rfl) (by decide +kernel)
set_option maxRecDepth 100000 in
theorem k_888 : (Cond.code yX9_see cX9_see 3 (some .int)) ∈ GG := GG_i 888 (rfl) (by decide +kernel)
set_option maxRecDepth 100000 in
theorem k_889 : (Cond.methodLink RL 90 yX9_fits) ∈ GG := GG_i 889 (rfl) (by decide +kernel)
set_option maxRecDepth 100000 in
theorem k_890 : (Cond.instanceMethod yX9_fits) ∈ GG := GG_i 890 (rfl) (by decide +kernel)
set_option maxRecDepth 100000 in
theorem k_891 : (Cond.selects RX9 yX9_fits yX9_fits) ∈ GG := GG_i 891 (rfl) (by decide +kernel)
set_option maxRecDepth 100000 in
theorem k_892 : (Cond.code yX9_fits cX9_fits 6 (some .int)) ∈ GG := GG_i 892 (rfl) (by decide +kernel)
set_option maxRecDepth 100000 in
theorem k_893 : (Cond.methodLink RX9 179 yX9_isSeen) ∈ GG := GG_i 893 (rfl) (by decide +kernel)
set_option maxRecDepth 100000 in
theorem k_895 : (Cond.instanceMethod yX9_isSeen) ∈ GG := GG_i 895 (rfl) (by decide +kernel)
set_option maxRecDepth 100000 in
theorem k_896 : (Cond.code yX9_isSeen cX9_isSeen 4 (some .boolean)) ∈ GG := GG_i 896 (rfl) (by decide +kernel)
set_option maxRecDepth 100000 in
theorem k_897 : (Cond.methodLink RL 94 yX9_odds) ∈ GG := GG_i 897 (rfl) (by decide +kernel)
set_option maxRecDepth 100000 in
theorem k_898 : (Cond.instanceMethod yX9_odds) ∈ GG := GG_i 898 (rfl) (by decide +kernel)
set_option maxRecDepth 100000 in
theorem k_899 : (Cond.selects RX9 yX9_odds yX9_odds) ∈ GG := GG_i 899 (rfl) (by decide +kernel)
set_option maxRecDepth 100000 in
theorem k_900 : (Cond.code yX9_odds cX9_odds 5 (some .long)) ∈ GG := GG_i 900 (rfl) (by decide +kernel)
set_option maxRecDepth 100000 in
theorem k_901 : (Cond.constantLong RX9 183 (11)) ∈ GG := GG_i 901 (rfl) (by decide +kernel)
set_option maxRecDepth 100000 in
theorem k_902 : (Cond.methodLink RL 98 yX9_mean) ∈ GG := GG_i 902 (rfl) (by decide +kernel)
set_option maxRecDepth 100000 in
theorem k_903 : (Cond.instanceMethod yX9_mean) ∈ GG := GG_i 903 (rfl) (by decide +kernel)
set_option maxRecDepth 100000 in
theorem k_904 : (Cond.selects RX9 yX9_mean yX9_mean) ∈ GG := GG_i 904 (rfl) (by decide +kernel)
set_option maxRecDepth 100000 in
theorem k_905 : (Cond.code yX9_mean cX9_mean 2 (some .long)) ∈ GG := GG_i 905 (rfl) (by decide +kernel)
set_option maxRecDepth 100000 in
theorem k_906 : (Cond.methodLink RL 102 yX9_book) ∈ GG := GG_i 906 (rfl) (by decide +kernel)
set_option maxRecDepth 100000 in
theorem k_907 : (Cond.instanceMethod yX9_book) ∈ GG := GG_i 907 (rfl) (by decide +kernel)
set_option maxRecDepth 100000 in
theorem k_908 : (Cond.selects RX9 yX9_book yX9_book) ∈ GG := GG_i 908 (rfl) (by decide +kernel)
set_option maxRecDepth 100000 in
theorem k_909 : (Cond.code yX9_book cX9_book 3 (some .int)) ∈ GG := GG_i 909 (rfl) (by decide +kernel)
set_option maxRecDepth 100000 in
theorem k_910 : (Cond.methodLink RL 106 yX9_looked) ∈ GG := GG_i 910 (rfl) (by decide +kernel)
set_option maxRecDepth 100000 in
theorem k_911 : (Cond.instanceMethod yX9_looked) ∈ GG := GG_i 911 (rfl) (by decide +kernel)
set_option maxRecDepth 100000 in
theorem k_912 : (Cond.selects RX9 yX9_looked yX9_looked) ∈ GG := GG_i 912 (rfl) (by decide +kernel)
set_option maxRecDepth 100000 in
theorem k_913 : (Cond.code yX9_looked cX9_looked 3 (some .int)) ∈ GG := GG_i 913 (rfl) (by decide +kernel)
set_option maxRecDepth 100000 in
theorem k_914 : (Cond.methodLink RL 110 yX9_judge) ∈ GG := GG_i 914 (rfl) (by decide +kernel)
set_option maxRecDepth 100000 in
theorem k_915 : (Cond.instanceMethod yX9_judge) ∈ GG := GG_i 915 (rfl) (by decide +kernel)
set_option maxRecDepth 100000 in
theorem k_916 : (Cond.selects RX9 yX9_judge yX9_judge) ∈ GG := GG_i 916 (rfl) (by decide +kernel)
set_option maxRecDepth 100000 in
theorem k_917 : (Cond.code yX9_judge cX9_judge 4 (some .int)) ∈ GG := GG_i 917 (rfl) (by decide +kernel)
set_option maxRecDepth 100000 in
theorem k_918 : (Cond.methodLink RX9 185 yX9_isTape) ∈ GG := GG_i 918 (rfl) (by decide +kernel)
set_option maxRecDepth 100000 in
theorem k_919 : (Cond.static yX9_isTape) ∈ GG := GG_i 919 (rfl) (by decide +kernel)
set_option maxRecDepth 100000 in
theorem k_920 : (Cond.code yX9_isTape cX9_isTape 1 (some .boolean)) ∈ GG := GG_i 920 (rfl) (by decide +kernel)
set_option maxRecDepth 100000 in
theorem k_921 : (Cond.methodLink RL 114 yX9_image) ∈ GG := GG_i 921 (rfl) (by decide +kernel)
set_option maxRecDepth 100000 in
theorem k_922 : (Cond.instanceMethod yX9_image) ∈ GG := GG_i 922 (rfl) (by decide +kernel)
set_option maxRecDepth 100000 in
theorem k_923 : (Cond.selects RX9 yX9_image yX9_image) ∈ GG := GG_i 923 (rfl) (by decide +kernel)
set_option maxRecDepth 100000 in
theorem k_924 : (Cond.code yX9_image cX9_image 1 (some .int)) ∈ GG := GG_i 924 (rfl) (by decide +kernel)
set_option maxRecDepth 100000 in
theorem k_925 : (Cond.methodLink RL 118 yX9_undo) ∈ GG := GG_i 925 (rfl) (by decide +kernel)
set_option maxRecDepth 100000 in
theorem k_926 : (Cond.instanceMethod yX9_undo) ∈ GG := GG_i 926 (rfl) (by decide +kernel)
set_option maxRecDepth 100000 in
theorem k_927 : (Cond.selects RX9 yX9_undo yX9_undo) ∈ GG := GG_i 927 (rfl) (by decide +kernel)
set_option maxRecDepth 100000 in
theorem k_928 : (Cond.code yX9_undo cX9_undo 1 (some .int)) ∈ GG := GG_i 928 (rfl) (by decide +kernel)
set_option maxRecDepth 100000 in
theorem k_929 : (Cond.methodLink RL 122 yX9_count) ∈ GG := GG_i 929 (rfl) (by decide +kernel)
set_option maxRecDepth 100000 in
theorem k_930 : (Cond.instanceMethod yX9_count) ∈ GG := GG_i 930 (rfl) (by decide +kernel)
set_option maxRecDepth 100000 in
theorem k_931 : (Cond.selects RX9 yX9_count yX9_count) ∈ GG := GG_i 931 (rfl) (by decide +kernel)
set_option maxRecDepth 100000 in
theorem k_932 : (Cond.code yX9_count cX9_count 2 (some .int)) ∈ GG := GG_i 932 (rfl) (by decide +kernel)
set_option maxRecDepth 100000 in
theorem k_933 : (Cond.methodLink RL 126 yX9_tape) ∈ GG := GG_i 933 (rfl) (by decide +kernel)
set_option maxRecDepth 100000 in
theorem k_934 : (Cond.instanceMethod yX9_tape) ∈ GG := GG_i 934 (rfl) (by decide +kernel)
set_option maxRecDepth 100000 in
theorem k_935 : (Cond.selects RX9 yX9_tape yX9_tape) ∈ GG := GG_i 935 (rfl) (by decide +kernel)
set_option maxRecDepth 100000 in
theorem k_936 : (Cond.code yX9_tape cX9_tape 5 (some .int)) ∈ GG := GG_i 936 (rfl) (by decide +kernel)
set_option maxRecDepth 100000 in
theorem k_937 : (Cond.methodLink RL 133 yX9_item) ∈ GG := GG_i 937 (rfl) (by decide +kernel)
set_option maxRecDepth 100000 in
theorem k_938 : (Cond.instanceMethod yX9_item) ∈ GG := GG_i 938 (rfl) (by decide +kernel)
set_option maxRecDepth 100000 in
theorem k_939 : (Cond.selects RX9 yX9_item yX9_item) ∈ GG := GG_i 939 (rfl) (by decide +kernel)
set_option maxRecDepth 100000 in
theorem k_940 : (Cond.code yX9_item cX9_item 6 (some .int)) ∈ GG := GG_i 940 (rfl) (by decide +kernel)
set_option maxRecDepth 100000 in
theorem k_941 : (Cond.methodLink RL 137 yX9_peek) ∈ GG := GG_i 941 (rfl) (by decide +kernel)
set_option maxRecDepth 100000 in
theorem k_942 : (Cond.instanceMethod yX9_peek) ∈ GG := GG_i 942 (rfl) (by decide +kernel)
set_option maxRecDepth 100000 in
theorem k_943 : (Cond.selects RX9 yX9_peek yX9_peek) ∈ GG := GG_i 943 (rfl) (by decide +kernel)
set_option maxRecDepth 100000 in
theorem k_944 : (Cond.code yX9_peek cX9_peek 3 (some .long)) ∈ GG := GG_i 944 (rfl) (by decide +kernel)
set_option maxRecDepth 100000 in
theorem k_945 : (Cond.methodLink RL 142 yX9_shift) ∈ GG := GG_i 945 (rfl) (by decide +kernel)
set_option maxRecDepth 100000 in
theorem k_946 : (Cond.instanceMethod yX9_shift) ∈ GG := GG_i 946 (rfl) (by decide +kernel)
set_option maxRecDepth 100000 in
theorem k_947 : (Cond.selects RX9 yX9_shift yX9_shift) ∈ GG := GG_i 947 (rfl) (by decide +kernel)
set_option maxRecDepth 100000 in
theorem k_948 : (Cond.code yX9_shift cX9_shift 7 (some .int)) ∈ GG := GG_i 948 (rfl) (by decide +kernel)
set_option maxRecDepth 100000 in
theorem k_949 : (Cond.constantLong RL 127 (4294967295)) ∈ GG := GG_i 949 (rfl) (by decide +kernel)
set_option maxRecDepth 100000 in
theorem k_950 : (Cond.arrayClass .char) ∈ GG := GG_i 950 (rfl) (by decide +kernel)
end
section
theorem dX0_init_0 : decode cX0_init 0 = .ok (.aload_n 0, 1) := by decide +kernel
theorem dX0_init_1 : decode cX0_init 1 = .ok (.invokespecial 3, 3) := by decide +kernel
theorem dX0_init_4 : decode cX0_init 4 = .ok (.aload_n 0, 1) := by decide +kernel
theorem dX0_init_5 : decode cX0_init 5 = .ok (.iconst 4, 1) := by decide +kernel
theorem dX0_init_6 : decode cX0_init 6 = .ok (.putfield 9, 3) := by decide +kernel
theorem dX0_init_9 : decode cX0_init 9 = .ok (.aload_n 0, 1) := by decide +kernel
theorem dX0_init_10 : decode cX0_init 10 = .ok (.bipush 20, 2) := by decide +kernel
theorem dX0_init_12 : decode cX0_init 12 = .ok (.putfield 15, 3) := by decide +kernel
theorem dX0_init_15 : decode cX0_init 15 = .ok (.aload_n 0, 1) := by decide +kernel
theorem dX0_init_16 : decode cX0_init 16 = .ok (.bipush 10, 2) := by decide +kernel
theorem dX0_init_18 : decode cX0_init 18 = .ok (.putfield 18, 3) := by decide +kernel
theorem dX0_init_21 : decode cX0_init 21 = .ok (.aload_n 0, 1) := by decide +kernel
theorem dX0_init_22 : decode cX0_init 22 = .ok (.new 21, 3) := by decide +kernel
theorem dX0_init_25 : decode cX0_init 25 = .ok (.dup, 1) := by decide +kernel
theorem dX0_init_26 : decode cX0_init 26 = .ok (.invokespecial 23, 3) := by decide +kernel
theorem dX0_init_29 : decode cX0_init 29 = .ok (.putfield 24, 3) := by decide +kernel
theorem dX0_init_32 : decode cX0_init 32 = .ok (.aload_n 0, 1) := by decide +kernel
theorem dX0_init_33 : decode cX0_init 33 = .ok (.iconst 4, 1) := by decide +kernel
theorem dX0_init_34 : decode cX0_init 34 = .ok (.newarray .long, 2) := by decide +kernel
theorem dX0_init_36 : decode cX0_init 36 = .ok (.putfield 28, 3) := by decide +kernel
theorem dX0_init_39 : decode cX0_init 39 = .ok (.aload_n 0, 1) := by decide +kernel
theorem dX0_init_40 : decode cX0_init 40 = .ok (.iload_n 1, 1) := by decide +kernel
theorem dX0_init_41 : decode cX0_init 41 = .ok (.putfield 32, 3) := by decide +kernel
theorem dX0_init_44 : decode cX0_init 44 = .ok (.return_, 1) := by decide +kernel
theorem dX0_copy_0 : decode cX0_copy 0 = .ok (.aload_n 0, 1) := by decide +kernel
theorem dX0_copy_1 : decode cX0_copy 1 = .ok (.aload_n 1, 1) := by decide +kernel
theorem dX0_copy_2 : decode cX0_copy 2 = .ok (.getfield 36, 3) := by decide +kernel
theorem dX0_copy_5 : decode cX0_copy 5 = .ok (.putfield 36, 3) := by decide +kernel
theorem dX0_copy_8 : decode cX0_copy 8 = .ok (.aload_n 0, 1) := by decide +kernel
theorem dX0_copy_9 : decode cX0_copy 9 = .ok (.aload_n 1, 1) := by decide +kernel
theorem dX0_copy_10 : decode cX0_copy 10 = .ok (.getfield 39, 3) := by decide +kernel
theorem dX0_copy_13 : decode cX0_copy 13 = .ok (.putfield 39, 3) := by decide +kernel
theorem dX0_copy_16 : decode cX0_copy 16 = .ok (.aload_n 0, 1) := by decide +kernel
theorem dX0_copy_17 : decode cX0_copy 17 = .ok (.aload_n 1, 1) := by decide +kernel
theorem dX0_copy_18 : decode cX0_copy 18 = .ok (.getfield 9, 3) := by decide +kernel
theorem dX0_copy_21 : decode cX0_copy 21 = .ok (.putfield 9, 3) := by decide +kernel
theorem dX0_copy_24 : decode cX0_copy 24 = .ok (.aload_n 0, 1) := by decide +kernel
theorem dX0_copy_25 : decode cX0_copy 25 = .ok (.aload_n 1, 1) := by decide +kernel
theorem dX0_copy_26 : decode cX0_copy 26 = .ok (.getfield 42, 3) := by decide +kernel
theorem dX0_copy_29 : decode cX0_copy 29 = .ok (.putfield 42, 3) := by decide +kernel
theorem dX0_copy_32 : decode cX0_copy 32 = .ok (.aload_n 0, 1) := by decide +kernel
theorem dX0_copy_33 : decode cX0_copy 33 = .ok (.aload_n 1, 1) := by decide +kernel
theorem dX0_copy_34 : decode cX0_copy 34 = .ok (.getfield 45, 3) := by decide +kernel
theorem dX0_copy_37 : decode cX0_copy 37 = .ok (.putfield 45, 3) := by decide +kernel
theorem dX0_copy_40 : decode cX0_copy 40 = .ok (.aload_n 0, 1) := by decide +kernel
theorem dX0_copy_41 : decode cX0_copy 41 = .ok (.aload_n 1, 1) := by decide +kernel
theorem dX0_copy_42 : decode cX0_copy 42 = .ok (.getfield 15, 3) := by decide +kernel
theorem dX0_copy_45 : decode cX0_copy 45 = .ok (.putfield 15, 3) := by decide +kernel
theorem dX0_copy_48 : decode cX0_copy 48 = .ok (.aload_n 0, 1) := by decide +kernel
theorem dX0_copy_49 : decode cX0_copy 49 = .ok (.aload_n 1, 1) := by decide +kernel
theorem dX0_copy_50 : decode cX0_copy 50 = .ok (.getfield 18, 3) := by decide +kernel
theorem dX0_copy_53 : decode cX0_copy 53 = .ok (.putfield 18, 3) := by decide +kernel
theorem dX0_copy_56 : decode cX0_copy 56 = .ok (.aload_n 0, 1) := by decide +kernel
theorem dX0_copy_57 : decode cX0_copy 57 = .ok (.aload_n 1, 1) := by decide +kernel
theorem dX0_copy_58 : decode cX0_copy 58 = .ok (.getfield 48, 3) := by decide +kernel
theorem dX0_copy_61 : decode cX0_copy 61 = .ok (.putfield 48, 3) := by decide +kernel
theorem dX0_copy_64 : decode cX0_copy 64 = .ok (.aload_n 0, 1) := by decide +kernel
theorem dX0_copy_65 : decode cX0_copy 65 = .ok (.aload_n 1, 1) := by decide +kernel
theorem dX0_copy_66 : decode cX0_copy 66 = .ok (.getfield 51, 3) := by decide +kernel
theorem dX0_copy_69 : decode cX0_copy 69 = .ok (.putfield 51, 3) := by decide +kernel
theorem dX0_copy_72 : decode cX0_copy 72 = .ok (.aload_n 0, 1) := by decide +kernel
theorem dX0_copy_73 : decode cX0_copy 73 = .ok (.aload_n 1, 1) := by decide +kernel
theorem dX0_copy_74 : decode cX0_copy 74 = .ok (.getfield 54, 3) := by decide +kernel
theorem dX0_copy_77 : decode cX0_copy 77 = .ok (.putfield 54, 3) := by decide +kernel
theorem dX0_copy_80 : decode cX0_copy 80 = .ok (.aload_n 0, 1) := by decide +kernel
theorem dX0_copy_81 : decode cX0_copy 81 = .ok (.aload_n 1, 1) := by decide +kernel
theorem dX0_copy_82 : decode cX0_copy 82 = .ok (.getfield 57, 3) := by decide +kernel
theorem dX0_copy_85 : decode cX0_copy 85 = .ok (.putfield 57, 3) := by decide +kernel
theorem dX0_copy_88 : decode cX0_copy 88 = .ok (.aload_n 0, 1) := by decide +kernel
theorem dX0_copy_89 : decode cX0_copy 89 = .ok (.aload_n 1, 1) := by decide +kernel
theorem dX0_copy_90 : decode cX0_copy 90 = .ok (.getfield 60, 3) := by decide +kernel
theorem dX0_copy_93 : decode cX0_copy 93 = .ok (.putfield 60, 3) := by decide +kernel
theorem dX0_copy_96 : decode cX0_copy 96 = .ok (.aload_n 0, 1) := by decide +kernel
theorem dX0_copy_97 : decode cX0_copy 97 = .ok (.getfield 24, 3) := by decide +kernel
theorem dX0_copy_100 : decode cX0_copy 100 = .ok (.aload_n 1, 1) := by decide +kernel
theorem dX0_copy_101 : decode cX0_copy 101 = .ok (.getfield 24, 3) := by decide +kernel
theorem dX0_copy_104 : decode cX0_copy 104 = .ok (.invokevirtual 64, 3) := by decide +kernel
theorem dX0_copy_107 : decode cX0_copy 107 = .ok (.iconst 0, 1) := by decide +kernel
theorem dX0_copy_108 : decode cX0_copy 108 = .ok (.istore_n 2, 1) := by decide +kernel
theorem dX0_copy_109 : decode cX0_copy 109 = .ok (.iload_n 2, 1) := by decide +kernel
theorem dX0_copy_110 : decode cX0_copy 110 = .ok (.aload_n 0, 1) := by decide +kernel
theorem dX0_copy_111 : decode cX0_copy 111 = .ok (.getfield 28, 3) := by decide +kernel
theorem dX0_copy_114 : decode cX0_copy 114 = .ok (.arraylength, 1) := by decide +kernel
theorem dX0_copy_115 : decode cX0_copy 115 = .ok (.if_icmp .ge 30, 3) := by decide +kernel
theorem dX0_copy_118 : decode cX0_copy 118 = .ok (.iload_n 2, 1) := by decide +kernel
theorem dX0_copy_119 : decode cX0_copy 119 = .ok (.aload_n 1, 1) := by decide +kernel
theorem dX0_copy_120 : decode cX0_copy 120 = .ok (.getfield 28, 3) := by decide +kernel
theorem dX0_copy_123 : decode cX0_copy 123 = .ok (.arraylength, 1) := by decide +kernel
theorem dX0_copy_124 : decode cX0_copy 124 = .ok (.if_icmp .ge 21, 3) := by decide +kernel
theorem dX0_copy_127 : decode cX0_copy 127 = .ok (.aload_n 0, 1) := by decide +kernel
theorem dX0_copy_128 : decode cX0_copy 128 = .ok (.getfield 28, 3) := by decide +kernel
theorem dX0_copy_131 : decode cX0_copy 131 = .ok (.iload_n 2, 1) := by decide +kernel
theorem dX0_copy_132 : decode cX0_copy 132 = .ok (.aload_n 1, 1) := by decide +kernel
theorem dX0_copy_133 : decode cX0_copy 133 = .ok (.getfield 28, 3) := by decide +kernel
theorem dX0_copy_136 : decode cX0_copy 136 = .ok (.iload_n 2, 1) := by decide +kernel
theorem dX0_copy_137 : decode cX0_copy 137 = .ok (.laload, 1) := by decide +kernel
theorem dX0_copy_138 : decode cX0_copy 138 = .ok (.lastore, 1) := by decide +kernel
theorem dX0_copy_139 : decode cX0_copy 139 = .ok (.iinc 2 1, 3) := by decide +kernel
theorem dX0_copy_142 : decode cX0_copy 142 = .ok (.goto (-33), 3) := by decide +kernel
theorem dX0_copy_145 : decode cX0_copy 145 = .ok (.return_, 1) := by decide +kernel
theorem dX0_valueOf_0 : decode cX0_valueOf 0 = .ok (.iload_n 1, 1) := by decide +kernel
theorem dX0_valueOf_1 : decode cX0_valueOf 1 = .ok (.tableswitch 126 0 11 #[63, 68, 73, 78, 83, 88, 93, 98, 103, 108, 113, 118], 63) := by decide +kernel
theorem dX0_valueOf_64 : decode cX0_valueOf 64 = .ok (.aload_n 0, 1) := by decide +kernel
theorem dX0_valueOf_65 : decode cX0_valueOf 65 = .ok (.getfield 36, 3) := by decide +kernel
theorem dX0_valueOf_68 : decode cX0_valueOf 68 = .ok (.ireturn, 1) := by decide +kernel
theorem dX0_valueOf_69 : decode cX0_valueOf 69 = .ok (.aload_n 0, 1) := by decide +kernel
theorem dX0_valueOf_70 : decode cX0_valueOf 70 = .ok (.getfield 39, 3) := by decide +kernel
theorem dX0_valueOf_73 : decode cX0_valueOf 73 = .ok (.ireturn, 1) := by decide +kernel
theorem dX0_valueOf_74 : decode cX0_valueOf 74 = .ok (.aload_n 0, 1) := by decide +kernel
theorem dX0_valueOf_75 : decode cX0_valueOf 75 = .ok (.getfield 9, 3) := by decide +kernel
theorem dX0_valueOf_78 : decode cX0_valueOf 78 = .ok (.ireturn, 1) := by decide +kernel
theorem dX0_valueOf_79 : decode cX0_valueOf 79 = .ok (.aload_n 0, 1) := by decide +kernel
theorem dX0_valueOf_80 : decode cX0_valueOf 80 = .ok (.getfield 42, 3) := by decide +kernel
theorem dX0_valueOf_83 : decode cX0_valueOf 83 = .ok (.ireturn, 1) := by decide +kernel
theorem dX0_valueOf_84 : decode cX0_valueOf 84 = .ok (.aload_n 0, 1) := by decide +kernel
theorem dX0_valueOf_85 : decode cX0_valueOf 85 = .ok (.getfield 45, 3) := by decide +kernel
theorem dX0_valueOf_88 : decode cX0_valueOf 88 = .ok (.ireturn, 1) := by decide +kernel
theorem dX0_valueOf_89 : decode cX0_valueOf 89 = .ok (.aload_n 0, 1) := by decide +kernel
theorem dX0_valueOf_90 : decode cX0_valueOf 90 = .ok (.getfield 15, 3) := by decide +kernel
theorem dX0_valueOf_93 : decode cX0_valueOf 93 = .ok (.ireturn, 1) := by decide +kernel
theorem dX0_valueOf_94 : decode cX0_valueOf 94 = .ok (.aload_n 0, 1) := by decide +kernel
theorem dX0_valueOf_95 : decode cX0_valueOf 95 = .ok (.getfield 18, 3) := by decide +kernel
theorem dX0_valueOf_98 : decode cX0_valueOf 98 = .ok (.ireturn, 1) := by decide +kernel
theorem dX0_valueOf_99 : decode cX0_valueOf 99 = .ok (.aload_n 0, 1) := by decide +kernel
theorem dX0_valueOf_100 : decode cX0_valueOf 100 = .ok (.getfield 48, 3) := by decide +kernel
theorem dX0_valueOf_103 : decode cX0_valueOf 103 = .ok (.ireturn, 1) := by decide +kernel
theorem dX0_valueOf_104 : decode cX0_valueOf 104 = .ok (.aload_n 0, 1) := by decide +kernel
theorem dX0_valueOf_105 : decode cX0_valueOf 105 = .ok (.getfield 51, 3) := by decide +kernel
theorem dX0_valueOf_108 : decode cX0_valueOf 108 = .ok (.ireturn, 1) := by decide +kernel
theorem dX0_valueOf_109 : decode cX0_valueOf 109 = .ok (.aload_n 0, 1) := by decide +kernel
theorem dX0_valueOf_110 : decode cX0_valueOf 110 = .ok (.getfield 54, 3) := by decide +kernel
theorem dX0_valueOf_113 : decode cX0_valueOf 113 = .ok (.ireturn, 1) := by decide +kernel
theorem dX0_valueOf_114 : decode cX0_valueOf 114 = .ok (.aload_n 0, 1) := by decide +kernel
theorem dX0_valueOf_115 : decode cX0_valueOf 115 = .ok (.getfield 57, 3) := by decide +kernel
theorem dX0_valueOf_118 : decode cX0_valueOf 118 = .ok (.ireturn, 1) := by decide +kernel
theorem dX0_valueOf_119 : decode cX0_valueOf 119 = .ok (.aload_n 0, 1) := by decide +kernel
theorem dX0_valueOf_120 : decode cX0_valueOf 120 = .ok (.getfield 24, 3) := by decide +kernel
theorem dX0_valueOf_123 : decode cX0_valueOf 123 = .ok (.getfield 68, 3) := by decide +kernel
theorem dX0_valueOf_126 : decode cX0_valueOf 126 = .ok (.ireturn, 1) := by decide +kernel
theorem dX0_valueOf_127 : decode cX0_valueOf 127 = .ok (.sipush (-1000), 3) := by decide +kernel
theorem dX0_valueOf_130 : decode cX0_valueOf 130 = .ok (.ireturn, 1) := by decide +kernel
theorem dX0_put_0 : decode cX0_put 0 = .ok (.iload_n 1, 1) := by decide +kernel
theorem dX0_put_1 : decode cX0_put 1 = .ok (.tableswitch 99 0 6 #[43, 51, 59, 67, 75, 83, 91], 43) := by decide +kernel
theorem dX0_put_44 : decode cX0_put 44 = .ok (.aload_n 0, 1) := by decide +kernel
theorem dX0_put_45 : decode cX0_put 45 = .ok (.iload_n 2, 1) := by decide +kernel
theorem dX0_put_46 : decode cX0_put 46 = .ok (.putfield 36, 3) := by decide +kernel
theorem dX0_put_49 : decode cX0_put 49 = .ok (.goto 51, 3) := by decide +kernel
theorem dX0_put_52 : decode cX0_put 52 = .ok (.aload_n 0, 1) := by decide +kernel
theorem dX0_put_53 : decode cX0_put 53 = .ok (.iload_n 2, 1) := by decide +kernel
theorem dX0_put_54 : decode cX0_put 54 = .ok (.putfield 39, 3) := by decide +kernel
theorem dX0_put_57 : decode cX0_put 57 = .ok (.goto 43, 3) := by decide +kernel
theorem dX0_put_60 : decode cX0_put 60 = .ok (.aload_n 0, 1) := by decide +kernel
theorem dX0_put_61 : decode cX0_put 61 = .ok (.iload_n 2, 1) := by decide +kernel
theorem dX0_put_62 : decode cX0_put 62 = .ok (.putfield 9, 3) := by decide +kernel
theorem dX0_put_65 : decode cX0_put 65 = .ok (.goto 35, 3) := by decide +kernel
theorem dX0_put_68 : decode cX0_put 68 = .ok (.aload_n 0, 1) := by decide +kernel
theorem dX0_put_69 : decode cX0_put 69 = .ok (.iload_n 2, 1) := by decide +kernel
theorem dX0_put_70 : decode cX0_put 70 = .ok (.putfield 42, 3) := by decide +kernel
theorem dX0_put_73 : decode cX0_put 73 = .ok (.goto 27, 3) := by decide +kernel
theorem dX0_put_76 : decode cX0_put 76 = .ok (.aload_n 0, 1) := by decide +kernel
theorem dX0_put_77 : decode cX0_put 77 = .ok (.iload_n 2, 1) := by decide +kernel
theorem dX0_put_78 : decode cX0_put 78 = .ok (.putfield 45, 3) := by decide +kernel
theorem dX0_put_81 : decode cX0_put 81 = .ok (.goto 19, 3) := by decide +kernel
theorem dX0_put_84 : decode cX0_put 84 = .ok (.aload_n 0, 1) := by decide +kernel
theorem dX0_put_85 : decode cX0_put 85 = .ok (.iload_n 2, 1) := by decide +kernel
theorem dX0_put_86 : decode cX0_put 86 = .ok (.putfield 15, 3) := by decide +kernel
theorem dX0_put_89 : decode cX0_put 89 = .ok (.goto 11, 3) := by decide +kernel
theorem dX0_put_92 : decode cX0_put 92 = .ok (.aload_n 0, 1) := by decide +kernel
theorem dX0_put_93 : decode cX0_put 93 = .ok (.iload_n 2, 1) := by decide +kernel
theorem dX0_put_94 : decode cX0_put 94 = .ok (.putfield 18, 3) := by decide +kernel
theorem dX0_put_97 : decode cX0_put 97 = .ok (.goto 3, 3) := by decide +kernel
theorem dX0_put_100 : decode cX0_put 100 = .ok (.return_, 1) := by decide +kernel
theorem dX0_putByHand_0 : decode cX0_putByHand 0 = .ok (.aload_n 0, 1) := by decide +kernel
theorem dX0_putByHand_1 : decode cX0_putByHand 1 = .ok (.iload_n 1, 1) := by decide +kernel
theorem dX0_putByHand_2 : decode cX0_putByHand 2 = .ok (.iload_n 2, 1) := by decide +kernel
theorem dX0_putByHand_3 : decode cX0_putByHand 3 = .ok (.invokevirtual 71, 3) := by decide +kernel
theorem dX0_putByHand_6 : decode cX0_putByHand 6 = .ok (.aload_n 0, 1) := by decide +kernel
theorem dX0_putByHand_7 : decode cX0_putByHand 7 = .ok (.iconst 0, 1) := by decide +kernel
theorem dX0_putByHand_8 : decode cX0_putByHand 8 = .ok (.invokevirtual 75, 3) := by decide +kernel
theorem dX0_putByHand_11 : decode cX0_putByHand 11 = .ok (.return_, 1) := by decide +kernel
theorem dX0_energyNow_0 : decode cX0_energyNow 0 = .ok (.ldc2_w 79, 3) := by decide +kernel
theorem dX0_energyNow_3 : decode cX0_energyNow 3 = .ok (.aload_n 0, 1) := by decide +kernel
theorem dX0_energyNow_4 : decode cX0_energyNow 4 = .ok (.getfield 39, 3) := by decide +kernel
theorem dX0_energyNow_7 : decode cX0_energyNow 7 = .ok (.i2l, 1) := by decide +kernel
theorem dX0_energyNow_8 : decode cX0_energyNow 8 = .ok (.lmul, 1) := by decide +kernel
theorem dX0_energyNow_9 : decode cX0_energyNow 9 = .ok (.aload_n 0, 1) := by decide +kernel
theorem dX0_energyNow_10 : decode cX0_energyNow 10 = .ok (.getfield 39, 3) := by decide +kernel
theorem dX0_energyNow_13 : decode cX0_energyNow 13 = .ok (.i2l, 1) := by decide +kernel
theorem dX0_energyNow_14 : decode cX0_energyNow 14 = .ok (.lmul, 1) := by decide +kernel
theorem dX0_energyNow_15 : decode cX0_energyNow 15 = .ok (.aload_n 0, 1) := by decide +kernel
theorem dX0_energyNow_16 : decode cX0_energyNow 16 = .ok (.getfield 9, 3) := by decide +kernel
theorem dX0_energyNow_19 : decode cX0_energyNow 19 = .ok (.i2l, 1) := by decide +kernel
theorem dX0_energyNow_20 : decode cX0_energyNow 20 = .ok (.aload_n 0, 1) := by decide +kernel
theorem dX0_energyNow_21 : decode cX0_energyNow 21 = .ok (.getfield 36, 3) := by decide +kernel
theorem dX0_energyNow_24 : decode cX0_energyNow 24 = .ok (.i2l, 1) := by decide +kernel
theorem dX0_energyNow_25 : decode cX0_energyNow 25 = .ok (.lmul, 1) := by decide +kernel
theorem dX0_energyNow_26 : decode cX0_energyNow 26 = .ok (.aload_n 0, 1) := by decide +kernel
theorem dX0_energyNow_27 : decode cX0_energyNow 27 = .ok (.getfield 36, 3) := by decide +kernel
theorem dX0_energyNow_30 : decode cX0_energyNow 30 = .ok (.i2l, 1) := by decide +kernel
theorem dX0_energyNow_31 : decode cX0_energyNow 31 = .ok (.lmul, 1) := by decide +kernel
theorem dX0_energyNow_32 : decode cX0_energyNow 32 = .ok (.ladd, 1) := by decide +kernel
theorem dX0_energyNow_33 : decode cX0_energyNow 33 = .ok (.lreturn, 1) := by decide +kernel
theorem dX0_settle_0 : decode cX0_settle 0 = .ok (.aload_n 0, 1) := by decide +kernel
theorem dX0_settle_1 : decode cX0_settle 1 = .ok (.getfield 32, 3) := by decide +kernel
theorem dX0_settle_4 : decode cX0_settle 4 = .ok (.ifCond .eq 16, 3) := by decide +kernel
theorem dX0_settle_7 : decode cX0_settle 7 = .ok (.iload_n 1, 1) := by decide +kernel
theorem dX0_settle_8 : decode cX0_settle 8 = .ok (.ifCond .lt 12, 3) := by decide +kernel
theorem dX0_settle_11 : decode cX0_settle 11 = .ok (.iload_n 1, 1) := by decide +kernel
theorem dX0_settle_12 : decode cX0_settle 12 = .ok (.aload_n 0, 1) := by decide +kernel
theorem dX0_settle_13 : decode cX0_settle 13 = .ok (.getfield 28, 3) := by decide +kernel
theorem dX0_settle_16 : decode cX0_settle 16 = .ok (.arraylength, 1) := by decide +kernel
theorem dX0_settle_17 : decode cX0_settle 17 = .ok (.if_icmp .lt 4, 3) := by decide +kernel
theorem dX0_settle_20 : decode cX0_settle 20 = .ok (.return_, 1) := by decide +kernel
theorem dX0_settle_21 : decode cX0_settle 21 = .ok (.aload_n 0, 1) := by decide +kernel
theorem dX0_settle_22 : decode cX0_settle 22 = .ok (.invokevirtual 81, 3) := by decide +kernel
theorem dX0_settle_25 : decode cX0_settle 25 = .ok (.lstore_n 2, 1) := by decide +kernel
theorem dX0_settle_26 : decode cX0_settle 26 = .ok (.aload_n 0, 1) := by decide +kernel
theorem dX0_settle_27 : decode cX0_settle 27 = .ok (.getfield 28, 3) := by decide +kernel
theorem dX0_settle_30 : decode cX0_settle 30 = .ok (.iload_n 1, 1) := by decide +kernel
theorem dX0_settle_31 : decode cX0_settle 31 = .ok (.dup2, 1) := by decide +kernel
theorem dX0_settle_32 : decode cX0_settle 32 = .ok (.laload, 1) := by decide +kernel
theorem dX0_settle_33 : decode cX0_settle 33 = .ok (.lload_n 2, 1) := by decide +kernel
theorem dX0_settle_34 : decode cX0_settle 34 = .ok (.aload_n 0, 1) := by decide +kernel
theorem dX0_settle_35 : decode cX0_settle 35 = .ok (.getfield 60, 3) := by decide +kernel
theorem dX0_settle_38 : decode cX0_settle 38 = .ok (.lsub, 1) := by decide +kernel
theorem dX0_settle_39 : decode cX0_settle 39 = .ok (.ladd, 1) := by decide +kernel
theorem dX0_settle_40 : decode cX0_settle 40 = .ok (.lastore, 1) := by decide +kernel
theorem dX0_settle_41 : decode cX0_settle 41 = .ok (.aload_n 0, 1) := by decide +kernel
theorem dX0_settle_42 : decode cX0_settle 42 = .ok (.lload_n 2, 1) := by decide +kernel
theorem dX0_settle_43 : decode cX0_settle 43 = .ok (.putfield 60, 3) := by decide +kernel
theorem dX0_settle_46 : decode cX0_settle 46 = .ok (.return_, 1) := by decide +kernel
theorem dX0_tick_0 : decode cX0_tick 0 = .ok (.aload_n 0, 1) := by decide +kernel
theorem dX0_tick_1 : decode cX0_tick 1 = .ok (.invokevirtual 85, 3) := by decide +kernel
theorem dX0_tick_4 : decode cX0_tick 4 = .ok (.aload_n 0, 1) := by decide +kernel
theorem dX0_tick_5 : decode cX0_tick 5 = .ok (.iconst 0, 1) := by decide +kernel
theorem dX0_tick_6 : decode cX0_tick 6 = .ok (.invokevirtual 75, 3) := by decide +kernel
theorem dX0_tick_9 : decode cX0_tick 9 = .ok (.aload_n 0, 1) := by decide +kernel
theorem dX0_tick_10 : decode cX0_tick 10 = .ok (.dup, 1) := by decide +kernel
theorem dX0_tick_11 : decode cX0_tick 11 = .ok (.getfield 39, 3) := by decide +kernel
theorem dX0_tick_14 : decode cX0_tick 14 = .ok (.aload_n 0, 1) := by decide +kernel
theorem dX0_tick_15 : decode cX0_tick 15 = .ok (.getfield 36, 3) := by decide +kernel
theorem dX0_tick_18 : decode cX0_tick 18 = .ok (.aload_n 0, 1) := by decide +kernel
theorem dX0_tick_19 : decode cX0_tick 19 = .ok (.getfield 9, 3) := by decide +kernel
theorem dX0_tick_22 : decode cX0_tick 22 = .ok (.imul, 1) := by decide +kernel
theorem dX0_tick_23 : decode cX0_tick 23 = .ok (.bipush 32, 2) := by decide +kernel
theorem dX0_tick_25 : decode cX0_tick 25 = .ok (.idiv, 1) := by decide +kernel
theorem dX0_tick_26 : decode cX0_tick 26 = .ok (.isub, 1) := by decide +kernel
theorem dX0_tick_27 : decode cX0_tick 27 = .ok (.putfield 39, 3) := by decide +kernel
theorem dX0_tick_30 : decode cX0_tick 30 = .ok (.aload_n 0, 1) := by decide +kernel
theorem dX0_tick_31 : decode cX0_tick 31 = .ok (.iconst 1, 1) := by decide +kernel
theorem dX0_tick_32 : decode cX0_tick 32 = .ok (.invokevirtual 75, 3) := by decide +kernel
theorem dX0_tick_35 : decode cX0_tick 35 = .ok (.aload_n 0, 1) := by decide +kernel
theorem dX0_tick_36 : decode cX0_tick 36 = .ok (.invokevirtual 88, 3) := by decide +kernel
theorem dX0_tick_39 : decode cX0_tick 39 = .ok (.aload_n 0, 1) := by decide +kernel
theorem dX0_tick_40 : decode cX0_tick 40 = .ok (.iconst 2, 1) := by decide +kernel
theorem dX0_tick_41 : decode cX0_tick 41 = .ok (.invokevirtual 75, 3) := by decide +kernel
theorem dX0_tick_44 : decode cX0_tick 44 = .ok (.aload_n 0, 1) := by decide +kernel
theorem dX0_tick_45 : decode cX0_tick 45 = .ok (.getfield 36, 3) := by decide +kernel
theorem dX0_tick_48 : decode cX0_tick 48 = .ok (.istore_n 1, 1) := by decide +kernel
theorem dX0_tick_49 : decode cX0_tick 49 = .ok (.aload_n 0, 1) := by decide +kernel
theorem dX0_tick_50 : decode cX0_tick 50 = .ok (.invokevirtual 91, 3) := by decide +kernel
theorem dX0_tick_53 : decode cX0_tick 53 = .ok (.aload_n 0, 1) := by decide +kernel
theorem dX0_tick_54 : decode cX0_tick 54 = .ok (.iconst 1, 1) := by decide +kernel
theorem dX0_tick_55 : decode cX0_tick 55 = .ok (.invokevirtual 75, 3) := by decide +kernel
theorem dX0_tick_58 : decode cX0_tick 58 = .ok (.aload_n 0, 1) := by decide +kernel
theorem dX0_tick_59 : decode cX0_tick 59 = .ok (.iload_n 1, 1) := by decide +kernel
theorem dX0_tick_60 : decode cX0_tick 60 = .ok (.invokevirtual 94, 3) := by decide +kernel
theorem dX0_tick_63 : decode cX0_tick 63 = .ok (.istore_n 2, 1) := by decide +kernel
theorem dX0_tick_64 : decode cX0_tick 64 = .ok (.iload_n 2, 1) := by decide +kernel
theorem dX0_tick_65 : decode cX0_tick 65 = .ok (.ifCond .eq 7, 3) := by decide +kernel
theorem dX0_tick_68 : decode cX0_tick 68 = .ok (.aload_n 0, 1) := by decide +kernel
theorem dX0_tick_69 : decode cX0_tick 69 = .ok (.invokevirtual 98, 3) := by decide +kernel
theorem dX0_tick_72 : decode cX0_tick 72 = .ok (.aload_n 0, 1) := by decide +kernel
theorem dX0_tick_73 : decode cX0_tick 73 = .ok (.iconst 3, 1) := by decide +kernel
theorem dX0_tick_74 : decode cX0_tick 74 = .ok (.invokevirtual 75, 3) := by decide +kernel
theorem dX0_tick_77 : decode cX0_tick 77 = .ok (.aload_n 0, 1) := by decide +kernel
theorem dX0_tick_78 : decode cX0_tick 78 = .ok (.dup, 1) := by decide +kernel
theorem dX0_tick_79 : decode cX0_tick 79 = .ok (.getfield 51, 3) := by decide +kernel
theorem dX0_tick_82 : decode cX0_tick 82 = .ok (.iconst 1, 1) := by decide +kernel
theorem dX0_tick_83 : decode cX0_tick 83 = .ok (.iadd, 1) := by decide +kernel
theorem dX0_tick_84 : decode cX0_tick 84 = .ok (.putfield 51, 3) := by decide +kernel
theorem dX0_tick_87 : decode cX0_tick 87 = .ok (.iload_n 2, 1) := by decide +kernel
theorem dX0_tick_88 : decode cX0_tick 88 = .ok (.ireturn, 1) := by decide +kernel
theorem dX0_bePushed_0 : decode cX0_bePushed 0 = .ok (.iconst 0, 1) := by decide +kernel
theorem dX0_bePushed_1 : decode cX0_bePushed 1 = .ok (.istore_n 1, 1) := by decide +kernel
theorem dX0_bePushed_2 : decode cX0_bePushed 2 = .ok (.iload_n 1, 1) := by decide +kernel
theorem dX0_bePushed_3 : decode cX0_bePushed 3 = .ok (.aload_n 0, 1) := by decide +kernel
theorem dX0_bePushed_4 : decode cX0_bePushed 4 = .ok (.getfield 24, 3) := by decide +kernel
theorem dX0_bePushed_7 : decode cX0_bePushed 7 = .ok (.getfield 68, 3) := by decide +kernel
theorem dX0_bePushed_10 : decode cX0_bePushed 10 = .ok (.if_icmp .ge 53, 3) := by decide +kernel
theorem dX0_bePushed_13 : decode cX0_bePushed 13 = .ok (.iload_n 1, 1) := by decide +kernel
theorem dX0_bePushed_14 : decode cX0_bePushed 14 = .ok (.bipush 8, 2) := by decide +kernel
theorem dX0_bePushed_16 : decode cX0_bePushed 16 = .ok (.if_icmp .ge 47, 3) := by decide +kernel
theorem dX0_bePushed_19 : decode cX0_bePushed 19 = .ok (.aload_n 0, 1) := by decide +kernel
theorem dX0_bePushed_20 : decode cX0_bePushed 20 = .ok (.getfield 24, 3) := by decide +kernel
theorem dX0_bePushed_23 : decode cX0_bePushed 23 = .ok (.getfield 101, 3) := by decide +kernel
theorem dX0_bePushed_26 : decode cX0_bePushed 26 = .ok (.iload_n 1, 1) := by decide +kernel
theorem dX0_bePushed_27 : decode cX0_bePushed 27 = .ok (.iaload, 1) := by decide +kernel
theorem dX0_bePushed_28 : decode cX0_bePushed 28 = .ok (.aload_n 0, 1) := by decide +kernel
theorem dX0_bePushed_29 : decode cX0_bePushed 29 = .ok (.getfield 51, 3) := by decide +kernel
theorem dX0_bePushed_32 : decode cX0_bePushed 32 = .ok (.if_icmp .ne 31, 3) := by decide +kernel
theorem dX0_bePushed_35 : decode cX0_bePushed 35 = .ok (.aload_n 0, 1) := by decide +kernel
theorem dX0_bePushed_36 : decode cX0_bePushed 36 = .ok (.aload_n 0, 1) := by decide +kernel
theorem dX0_bePushed_37 : decode cX0_bePushed 37 = .ok (.getfield 24, 3) := by decide +kernel
theorem dX0_bePushed_40 : decode cX0_bePushed 40 = .ok (.getfield 105, 3) := by decide +kernel
theorem dX0_bePushed_43 : decode cX0_bePushed 43 = .ok (.iload_n 1, 1) := by decide +kernel
theorem dX0_bePushed_44 : decode cX0_bePushed 44 = .ok (.iaload, 1) := by decide +kernel
theorem dX0_bePushed_45 : decode cX0_bePushed 45 = .ok (.aload_n 0, 1) := by decide +kernel
theorem dX0_bePushed_46 : decode cX0_bePushed 46 = .ok (.getfield 24, 3) := by decide +kernel
theorem dX0_bePushed_49 : decode cX0_bePushed 49 = .ok (.getfield 108, 3) := by decide +kernel
theorem dX0_bePushed_52 : decode cX0_bePushed 52 = .ok (.iload_n 1, 1) := by decide +kernel
theorem dX0_bePushed_53 : decode cX0_bePushed 53 = .ok (.iaload, 1) := by decide +kernel
theorem dX0_bePushed_54 : decode cX0_bePushed 54 = .ok (.invokevirtual 111, 3) := by decide +kernel
theorem dX0_bePushed_57 : decode cX0_bePushed 57 = .ok (.iinc 1 1, 3) := by decide +kernel
theorem dX0_bePushed_60 : decode cX0_bePushed 60 = .ok (.goto (-58), 3) := by decide +kernel
theorem dX0_bePushed_63 : decode cX0_bePushed 63 = .ok (.aload_n 0, 1) := by decide +kernel
theorem dX0_bePushed_64 : decode cX0_bePushed 64 = .ok (.getfield 24, 3) := by decide +kernel
theorem dX0_bePushed_67 : decode cX0_bePushed 67 = .ok (.iload_n 1, 1) := by decide +kernel
theorem dX0_bePushed_68 : decode cX0_bePushed 68 = .ok (.invokevirtual 114, 3) := by decide +kernel
theorem dX0_bePushed_71 : decode cX0_bePushed 71 = .ok (.return_, 1) := by decide +kernel
theorem dX0_doPush_0 : decode cX0_doPush 0 = .ok (.iload_n 1, 1) := by decide +kernel
theorem dX0_doPush_1 : decode cX0_doPush 1 = .ok (.tableswitch 82 0 3 #[31, 44, 66, 74], 31) := by decide +kernel
theorem dX0_doPush_32 : decode cX0_doPush 32 = .ok (.aload_n 0, 1) := by decide +kernel
theorem dX0_doPush_33 : decode cX0_doPush 33 = .ok (.dup, 1) := by decide +kernel
theorem dX0_doPush_34 : decode cX0_doPush 34 = .ok (.getfield 39, 3) := by decide +kernel
theorem dX0_doPush_37 : decode cX0_doPush 37 = .ok (.iload_n 2, 1) := by decide +kernel
theorem dX0_doPush_38 : decode cX0_doPush 38 = .ok (.iadd, 1) := by decide +kernel
theorem dX0_doPush_39 : decode cX0_doPush 39 = .ok (.putfield 39, 3) := by decide +kernel
theorem dX0_doPush_42 : decode cX0_doPush 42 = .ok (.goto 41, 3) := by decide +kernel
theorem dX0_doPush_45 : decode cX0_doPush 45 = .ok (.aload_n 0, 1) := by decide +kernel
theorem dX0_doPush_46 : decode cX0_doPush 46 = .ok (.iconst 0, 1) := by decide +kernel
theorem dX0_doPush_47 : decode cX0_doPush 47 = .ok (.bipush 60, 2) := by decide +kernel
theorem dX0_doPush_49 : decode cX0_doPush 49 = .ok (.aload_n 0, 1) := by decide +kernel
theorem dX0_doPush_50 : decode cX0_doPush 50 = .ok (.getfield 15, 3) := by decide +kernel
theorem dX0_doPush_53 : decode cX0_doPush 53 = .ok (.iload_n 2, 1) := by decide +kernel
theorem dX0_doPush_54 : decode cX0_doPush 54 = .ok (.iadd, 1) := by decide +kernel
theorem dX0_doPush_55 : decode cX0_doPush 55 = .ok (.invokestatic 117, 3) := by decide +kernel
theorem dX0_doPush_58 : decode cX0_doPush 58 = .ok (.invokestatic 123, 3) := by decide +kernel
theorem dX0_doPush_61 : decode cX0_doPush 61 = .ok (.putfield 15, 3) := by decide +kernel
theorem dX0_doPush_64 : decode cX0_doPush 64 = .ok (.goto 19, 3) := by decide +kernel
theorem dX0_doPush_67 : decode cX0_doPush 67 = .ok (.aload_n 0, 1) := by decide +kernel
theorem dX0_doPush_68 : decode cX0_doPush 68 = .ok (.iload_n 2, 1) := by decide +kernel
theorem dX0_doPush_69 : decode cX0_doPush 69 = .ok (.putfield 45, 3) := by decide +kernel
theorem dX0_doPush_72 : decode cX0_doPush 72 = .ok (.goto 11, 3) := by decide +kernel
theorem dX0_doPush_75 : decode cX0_doPush 75 = .ok (.aload_n 0, 1) := by decide +kernel
theorem dX0_doPush_76 : decode cX0_doPush 76 = .ok (.iload_n 2, 1) := by decide +kernel
theorem dX0_doPush_77 : decode cX0_doPush 77 = .ok (.putfield 42, 3) := by decide +kernel
theorem dX0_doPush_80 : decode cX0_doPush 80 = .ok (.goto 3, 3) := by decide +kernel
theorem dX0_doPush_83 : decode cX0_doPush 83 = .ok (.return_, 1) := by decide +kernel
theorem dX0_beDragged_0 : decode cX0_beDragged 0 = .ok (.aload_n 0, 1) := by decide +kernel
theorem dX0_beDragged_1 : decode cX0_beDragged 1 = .ok (.getfield 39, 3) := by decide +kernel
theorem dX0_beDragged_4 : decode cX0_beDragged 4 = .ok (.ifCond .le 23, 3) := by decide +kernel
theorem dX0_beDragged_7 : decode cX0_beDragged 7 = .ok (.aload_n 0, 1) := by decide +kernel
theorem dX0_beDragged_8 : decode cX0_beDragged 8 = .ok (.iconst 0, 1) := by decide +kernel
theorem dX0_beDragged_9 : decode cX0_beDragged 9 = .ok (.aload_n 0, 1) := by decide +kernel
theorem dX0_beDragged_10 : decode cX0_beDragged 10 = .ok (.getfield 39, 3) := by decide +kernel
theorem dX0_beDragged_13 : decode cX0_beDragged 13 = .ok (.aload_n 0, 1) := by decide +kernel
theorem dX0_beDragged_14 : decode cX0_beDragged 14 = .ok (.getfield 42, 3) := by decide +kernel
theorem dX0_beDragged_17 : decode cX0_beDragged 17 = .ok (.isub, 1) := by decide +kernel
theorem dX0_beDragged_18 : decode cX0_beDragged 18 = .ok (.invokestatic 123, 3) := by decide +kernel
theorem dX0_beDragged_21 : decode cX0_beDragged 21 = .ok (.putfield 39, 3) := by decide +kernel
theorem dX0_beDragged_24 : decode cX0_beDragged 24 = .ok (.goto 20, 3) := by decide +kernel
theorem dX0_beDragged_27 : decode cX0_beDragged 27 = .ok (.aload_n 0, 1) := by decide +kernel
theorem dX0_beDragged_28 : decode cX0_beDragged 28 = .ok (.iconst 0, 1) := by decide +kernel
theorem dX0_beDragged_29 : decode cX0_beDragged 29 = .ok (.aload_n 0, 1) := by decide +kernel
theorem dX0_beDragged_30 : decode cX0_beDragged 30 = .ok (.getfield 39, 3) := by decide +kernel
theorem dX0_beDragged_33 : decode cX0_beDragged 33 = .ok (.aload_n 0, 1) := by decide +kernel
theorem dX0_beDragged_34 : decode cX0_beDragged 34 = .ok (.getfield 42, 3) := by decide +kernel
theorem dX0_beDragged_37 : decode cX0_beDragged 37 = .ok (.iadd, 1) := by decide +kernel
theorem dX0_beDragged_38 : decode cX0_beDragged 38 = .ok (.invokestatic 117, 3) := by decide +kernel
theorem dX0_beDragged_41 : decode cX0_beDragged 41 = .ok (.putfield 39, 3) := by decide +kernel
theorem dX0_beDragged_44 : decode cX0_beDragged 44 = .ok (.return_, 1) := by decide +kernel
theorem dX0_swing_0 : decode cX0_swing 0 = .ok (.aload_n 0, 1) := by decide +kernel
theorem dX0_swing_1 : decode cX0_swing 1 = .ok (.dup, 1) := by decide +kernel
theorem dX0_swing_2 : decode cX0_swing 2 = .ok (.getfield 36, 3) := by decide +kernel
theorem dX0_swing_5 : decode cX0_swing 5 = .ok (.aload_n 0, 1) := by decide +kernel
theorem dX0_swing_6 : decode cX0_swing 6 = .ok (.getfield 39, 3) := by decide +kernel
theorem dX0_swing_9 : decode cX0_swing 9 = .ok (.iadd, 1) := by decide +kernel
theorem dX0_swing_10 : decode cX0_swing 10 = .ok (.putfield 36, 3) := by decide +kernel
theorem dX0_swing_13 : decode cX0_swing 13 = .ok (.aload_n 0, 1) := by decide +kernel
theorem dX0_swing_14 : decode cX0_swing 14 = .ok (.getfield 36, 3) := by decide +kernel
theorem dX0_swing_17 : decode cX0_swing 17 = .ok (.sipush 300, 3) := by decide +kernel
theorem dX0_swing_20 : decode cX0_swing 20 = .ok (.if_icmp .gt 13, 3) := by decide +kernel
theorem dX0_swing_23 : decode cX0_swing 23 = .ok (.aload_n 0, 1) := by decide +kernel
theorem dX0_swing_24 : decode cX0_swing 24 = .ok (.getfield 36, 3) := by decide +kernel
theorem dX0_swing_27 : decode cX0_swing 27 = .ok (.sipush (-300), 3) := by decide +kernel
theorem dX0_swing_30 : decode cX0_swing 30 = .ok (.if_icmp .ge 38, 3) := by decide +kernel
theorem dX0_swing_33 : decode cX0_swing 33 = .ok (.aload_n 0, 1) := by decide +kernel
theorem dX0_swing_34 : decode cX0_swing 34 = .ok (.aload_n 0, 1) := by decide +kernel
theorem dX0_swing_35 : decode cX0_swing 35 = .ok (.getfield 36, 3) := by decide +kernel
theorem dX0_swing_38 : decode cX0_swing 38 = .ok (.ifCond .le 9, 3) := by decide +kernel
theorem dX0_swing_41 : decode cX0_swing 41 = .ok (.sipush 300, 3) := by decide +kernel
theorem dX0_swing_44 : decode cX0_swing 44 = .ok (.goto 6, 3) := by decide +kernel
theorem dX0_swing_47 : decode cX0_swing 47 = .ok (.sipush (-300), 3) := by decide +kernel
theorem dX0_swing_50 : decode cX0_swing 50 = .ok (.putfield 36, 3) := by decide +kernel
theorem dX0_swing_53 : decode cX0_swing 53 = .ok (.aload_n 0, 1) := by decide +kernel
theorem dX0_swing_54 : decode cX0_swing 54 = .ok (.iconst 0, 1) := by decide +kernel
theorem dX0_swing_55 : decode cX0_swing 55 = .ok (.putfield 39, 3) := by decide +kernel
theorem dX0_swing_58 : decode cX0_swing 58 = .ok (.aload_n 0, 1) := by decide +kernel
theorem dX0_swing_59 : decode cX0_swing 59 = .ok (.dup, 1) := by decide +kernel
theorem dX0_swing_60 : decode cX0_swing 60 = .ok (.getfield 57, 3) := by decide +kernel
theorem dX0_swing_63 : decode cX0_swing 63 = .ok (.iconst 1, 1) := by decide +kernel
theorem dX0_swing_64 : decode cX0_swing 64 = .ok (.iadd, 1) := by decide +kernel
theorem dX0_swing_65 : decode cX0_swing 65 = .ok (.putfield 57, 3) := by decide +kernel
theorem dX0_swing_68 : decode cX0_swing 68 = .ok (.return_, 1) := by decide +kernel
theorem dX0_isLetGo_0 : decode cX0_isLetGo 0 = .ok (.aload_n 0, 1) := by decide +kernel
theorem dX0_isLetGo_1 : decode cX0_isLetGo 1 = .ok (.getfield 15, 3) := by decide +kernel
theorem dX0_isLetGo_4 : decode cX0_isLetGo 4 = .ok (.ifCond .gt 5, 3) := by decide +kernel
theorem dX0_isLetGo_7 : decode cX0_isLetGo 7 = .ok (.iconst 0, 1) := by decide +kernel
theorem dX0_isLetGo_8 : decode cX0_isLetGo 8 = .ok (.ireturn, 1) := by decide +kernel
theorem dX0_isLetGo_9 : decode cX0_isLetGo 9 = .ok (.aload_n 0, 1) := by decide +kernel
theorem dX0_isLetGo_10 : decode cX0_isLetGo 10 = .ok (.getfield 48, 3) := by decide +kernel
theorem dX0_isLetGo_13 : decode cX0_isLetGo 13 = .ok (.ifCond .ne 30, 3) := by decide +kernel
theorem dX0_isLetGo_16 : decode cX0_isLetGo 16 = .ok (.iload_n 1, 1) := by decide +kernel
theorem dX0_isLetGo_17 : decode cX0_isLetGo 17 = .ok (.aload_n 0, 1) := by decide +kernel
theorem dX0_isLetGo_18 : decode cX0_isLetGo 18 = .ok (.getfield 45, 3) := by decide +kernel
theorem dX0_isLetGo_21 : decode cX0_isLetGo 21 = .ok (.if_icmp .gt 18, 3) := by decide +kernel
theorem dX0_isLetGo_24 : decode cX0_isLetGo 24 = .ok (.aload_n 0, 1) := by decide +kernel
theorem dX0_isLetGo_25 : decode cX0_isLetGo 25 = .ok (.getfield 36, 3) := by decide +kernel
theorem dX0_isLetGo_28 : decode cX0_isLetGo 28 = .ok (.aload_n 0, 1) := by decide +kernel
theorem dX0_isLetGo_29 : decode cX0_isLetGo 29 = .ok (.getfield 45, 3) := by decide +kernel
theorem dX0_isLetGo_32 : decode cX0_isLetGo 32 = .ok (.if_icmp .le 7, 3) := by decide +kernel
theorem dX0_isLetGo_35 : decode cX0_isLetGo 35 = .ok (.iconst 1, 1) := by decide +kernel
theorem dX0_isLetGo_36 : decode cX0_isLetGo 36 = .ok (.goto 31, 3) := by decide +kernel
theorem dX0_isLetGo_39 : decode cX0_isLetGo 39 = .ok (.iconst 0, 1) := by decide +kernel
theorem dX0_isLetGo_40 : decode cX0_isLetGo 40 = .ok (.goto 27, 3) := by decide +kernel
theorem dX0_isLetGo_43 : decode cX0_isLetGo 43 = .ok (.iload_n 1, 1) := by decide +kernel
theorem dX0_isLetGo_44 : decode cX0_isLetGo 44 = .ok (.aload_n 0, 1) := by decide +kernel
theorem dX0_isLetGo_45 : decode cX0_isLetGo 45 = .ok (.getfield 45, 3) := by decide +kernel
theorem dX0_isLetGo_48 : decode cX0_isLetGo 48 = .ok (.if_icmp .lt 18, 3) := by decide +kernel
theorem dX0_isLetGo_51 : decode cX0_isLetGo 51 = .ok (.aload_n 0, 1) := by decide +kernel
theorem dX0_isLetGo_52 : decode cX0_isLetGo 52 = .ok (.getfield 36, 3) := by decide +kernel
theorem dX0_isLetGo_55 : decode cX0_isLetGo 55 = .ok (.aload_n 0, 1) := by decide +kernel
theorem dX0_isLetGo_56 : decode cX0_isLetGo 56 = .ok (.getfield 45, 3) := by decide +kernel
theorem dX0_isLetGo_59 : decode cX0_isLetGo 59 = .ok (.if_icmp .ge 7, 3) := by decide +kernel
theorem dX0_isLetGo_62 : decode cX0_isLetGo 62 = .ok (.iconst 1, 1) := by decide +kernel
theorem dX0_isLetGo_63 : decode cX0_isLetGo 63 = .ok (.goto 4, 3) := by decide +kernel
theorem dX0_isLetGo_66 : decode cX0_isLetGo 66 = .ok (.iconst 0, 1) := by decide +kernel
theorem dX0_isLetGo_67 : decode cX0_isLetGo 67 = .ok (.ireturn, 1) := by decide +kernel
theorem dX0_beKicked_0 : decode cX0_beKicked 0 = .ok (.aload_n 0, 1) := by decide +kernel
theorem dX0_beKicked_1 : decode cX0_beKicked 1 = .ok (.getfield 15, 3) := by decide +kernel
theorem dX0_beKicked_4 : decode cX0_beKicked 4 = .ok (.iconst 3, 1) := by decide +kernel
theorem dX0_beKicked_5 : decode cX0_beKicked 5 = .ok (.iadd, 1) := by decide +kernel
theorem dX0_beKicked_6 : decode cX0_beKicked 6 = .ok (.iconst 4, 1) := by decide +kernel
theorem dX0_beKicked_7 : decode cX0_beKicked 7 = .ok (.idiv, 1) := by decide +kernel
theorem dX0_beKicked_8 : decode cX0_beKicked 8 = .ok (.istore_n 1, 1) := by decide +kernel
theorem dX0_beKicked_9 : decode cX0_beKicked 9 = .ok (.aload_n 0, 1) := by decide +kernel
theorem dX0_beKicked_10 : decode cX0_beKicked 10 = .ok (.getfield 48, 3) := by decide +kernel
theorem dX0_beKicked_13 : decode cX0_beKicked 13 = .ok (.ifCond .ne 21, 3) := by decide +kernel
theorem dX0_beKicked_16 : decode cX0_beKicked 16 = .ok (.aload_n 0, 1) := by decide +kernel
theorem dX0_beKicked_17 : decode cX0_beKicked 17 = .ok (.dup, 1) := by decide +kernel
theorem dX0_beKicked_18 : decode cX0_beKicked 18 = .ok (.getfield 39, 3) := by decide +kernel
theorem dX0_beKicked_21 : decode cX0_beKicked 21 = .ok (.iload_n 1, 1) := by decide +kernel
theorem dX0_beKicked_22 : decode cX0_beKicked 22 = .ok (.iadd, 1) := by decide +kernel
theorem dX0_beKicked_23 : decode cX0_beKicked 23 = .ok (.putfield 39, 3) := by decide +kernel
theorem dX0_beKicked_26 : decode cX0_beKicked 26 = .ok (.aload_n 0, 1) := by decide +kernel
theorem dX0_beKicked_27 : decode cX0_beKicked 27 = .ok (.iconst 1, 1) := by decide +kernel
theorem dX0_beKicked_28 : decode cX0_beKicked 28 = .ok (.putfield 48, 3) := by decide +kernel
theorem dX0_beKicked_31 : decode cX0_beKicked 31 = .ok (.goto 18, 3) := by decide +kernel
theorem dX0_beKicked_34 : decode cX0_beKicked 34 = .ok (.aload_n 0, 1) := by decide +kernel
theorem dX0_beKicked_35 : decode cX0_beKicked 35 = .ok (.dup, 1) := by decide +kernel
theorem dX0_beKicked_36 : decode cX0_beKicked 36 = .ok (.getfield 39, 3) := by decide +kernel
theorem dX0_beKicked_39 : decode cX0_beKicked 39 = .ok (.iload_n 1, 1) := by decide +kernel
theorem dX0_beKicked_40 : decode cX0_beKicked 40 = .ok (.isub, 1) := by decide +kernel
theorem dX0_beKicked_41 : decode cX0_beKicked 41 = .ok (.putfield 39, 3) := by decide +kernel
theorem dX0_beKicked_44 : decode cX0_beKicked 44 = .ok (.aload_n 0, 1) := by decide +kernel
theorem dX0_beKicked_45 : decode cX0_beKicked 45 = .ok (.iconst 0, 1) := by decide +kernel
theorem dX0_beKicked_46 : decode cX0_beKicked 46 = .ok (.putfield 48, 3) := by decide +kernel
theorem dX0_beKicked_49 : decode cX0_beKicked 49 = .ok (.aload_n 0, 1) := by decide +kernel
theorem dX0_beKicked_50 : decode cX0_beKicked 50 = .ok (.dup, 1) := by decide +kernel
theorem dX0_beKicked_51 : decode cX0_beKicked 51 = .ok (.getfield 54, 3) := by decide +kernel
theorem dX0_beKicked_54 : decode cX0_beKicked 54 = .ok (.iconst 1, 1) := by decide +kernel
theorem dX0_beKicked_55 : decode cX0_beKicked 55 = .ok (.iadd, 1) := by decide +kernel
theorem dX0_beKicked_56 : decode cX0_beKicked 56 = .ok (.putfield 54, 3) := by decide +kernel
theorem dX0_beKicked_59 : decode cX0_beKicked 59 = .ok (.aload_n 0, 1) := by decide +kernel
theorem dX0_beKicked_60 : decode cX0_beKicked 60 = .ok (.getfield 18, 3) := by decide +kernel
theorem dX0_beKicked_63 : decode cX0_beKicked 63 = .ok (.ifCond .le 25, 3) := by decide +kernel
theorem dX0_beKicked_66 : decode cX0_beKicked 66 = .ok (.aload_n 0, 1) := by decide +kernel
theorem dX0_beKicked_67 : decode cX0_beKicked 67 = .ok (.getfield 54, 3) := by decide +kernel
theorem dX0_beKicked_70 : decode cX0_beKicked 70 = .ok (.aload_n 0, 1) := by decide +kernel
theorem dX0_beKicked_71 : decode cX0_beKicked 71 = .ok (.getfield 18, 3) := by decide +kernel
theorem dX0_beKicked_74 : decode cX0_beKicked 74 = .ok (.irem, 1) := by decide +kernel
theorem dX0_beKicked_75 : decode cX0_beKicked 75 = .ok (.ifCond .ne 13, 3) := by decide +kernel
theorem dX0_beKicked_78 : decode cX0_beKicked 78 = .ok (.aload_n 0, 1) := by decide +kernel
theorem dX0_beKicked_79 : decode cX0_beKicked 79 = .ok (.dup, 1) := by decide +kernel
theorem dX0_beKicked_80 : decode cX0_beKicked 80 = .ok (.getfield 15, 3) := by decide +kernel
theorem dX0_beKicked_83 : decode cX0_beKicked 83 = .ok (.iconst 1, 1) := by decide +kernel
theorem dX0_beKicked_84 : decode cX0_beKicked 84 = .ok (.isub, 1) := by decide +kernel
theorem dX0_beKicked_85 : decode cX0_beKicked 85 = .ok (.putfield 15, 3) := by decide +kernel
theorem dX0_beKicked_88 : decode cX0_beKicked 88 = .ok (.return_, 1) := by decide +kernel
theorem dX1_init_0 : decode cX1_init 0 = .ok (.aload_n 0, 1) := by decide +kernel
theorem dX1_init_1 : decode cX1_init 1 = .ok (.invokespecial 3, 3) := by decide +kernel
theorem dX1_init_4 : decode cX1_init 4 = .ok (.aload_n 0, 1) := by decide +kernel
theorem dX1_init_5 : decode cX1_init 5 = .ok (.sipush 400, 3) := by decide +kernel
theorem dX1_init_8 : decode cX1_init 8 = .ok (.newarray .int, 2) := by decide +kernel
theorem dX1_init_10 : decode cX1_init 10 = .ok (.putfield 9, 3) := by decide +kernel
theorem dX1_init_13 : decode cX1_init 13 = .ok (.return_, 1) := by decide +kernel
theorem dX1_listen_0 : decode cX1_listen 0 = .ok (.aload_n 0, 1) := by decide +kernel
theorem dX1_listen_1 : decode cX1_listen 1 = .ok (.iconst 0, 1) := by decide +kernel
theorem dX1_listen_2 : decode cX1_listen 2 = .ok (.putfield 15, 3) := by decide +kernel
theorem dX1_listen_5 : decode cX1_listen 5 = .ok (.iconst 0, 1) := by decide +kernel
theorem dX1_listen_6 : decode cX1_listen 6 = .ok (.istore_n 2, 1) := by decide +kernel
theorem dX1_listen_7 : decode cX1_listen 7 = .ok (.iload_n 2, 1) := by decide +kernel
theorem dX1_listen_8 : decode cX1_listen 8 = .ok (.sipush 400, 3) := by decide +kernel
theorem dX1_listen_11 : decode cX1_listen 11 = .ok (.if_icmp .ge 48, 3) := by decide +kernel
theorem dX1_listen_14 : decode cX1_listen 14 = .ok (.aload_n 1, 1) := by decide +kernel
theorem dX1_listen_15 : decode cX1_listen 15 = .ok (.invokevirtual 19, 3) := by decide +kernel
theorem dX1_listen_18 : decode cX1_listen 18 = .ok (.ifCond .eq 35, 3) := by decide +kernel
theorem dX1_listen_21 : decode cX1_listen 21 = .ok (.aload_n 0, 1) := by decide +kernel
theorem dX1_listen_22 : decode cX1_listen 22 = .ok (.getfield 15, 3) := by decide +kernel
theorem dX1_listen_25 : decode cX1_listen 25 = .ok (.aload_n 0, 1) := by decide +kernel
theorem dX1_listen_26 : decode cX1_listen 26 = .ok (.getfield 9, 3) := by decide +kernel
theorem dX1_listen_29 : decode cX1_listen 29 = .ok (.arraylength, 1) := by decide +kernel
theorem dX1_listen_30 : decode cX1_listen 30 = .ok (.if_icmp .ge 23, 3) := by decide +kernel
theorem dX1_listen_33 : decode cX1_listen 33 = .ok (.aload_n 0, 1) := by decide +kernel
theorem dX1_listen_34 : decode cX1_listen 34 = .ok (.getfield 9, 3) := by decide +kernel
theorem dX1_listen_37 : decode cX1_listen 37 = .ok (.aload_n 0, 1) := by decide +kernel
theorem dX1_listen_38 : decode cX1_listen 38 = .ok (.getfield 15, 3) := by decide +kernel
theorem dX1_listen_41 : decode cX1_listen 41 = .ok (.iload_n 2, 1) := by decide +kernel
theorem dX1_listen_42 : decode cX1_listen 42 = .ok (.iastore, 1) := by decide +kernel
theorem dX1_listen_43 : decode cX1_listen 43 = .ok (.aload_n 0, 1) := by decide +kernel
theorem dX1_listen_44 : decode cX1_listen 44 = .ok (.dup, 1) := by decide +kernel
theorem dX1_listen_45 : decode cX1_listen 45 = .ok (.getfield 15, 3) := by decide +kernel
theorem dX1_listen_48 : decode cX1_listen 48 = .ok (.iconst 1, 1) := by decide +kernel
theorem dX1_listen_49 : decode cX1_listen 49 = .ok (.iadd, 1) := by decide +kernel
theorem dX1_listen_50 : decode cX1_listen 50 = .ok (.putfield 15, 3) := by decide +kernel
theorem dX1_listen_53 : decode cX1_listen 53 = .ok (.iinc 2 1, 3) := by decide +kernel
theorem dX1_listen_56 : decode cX1_listen 56 = .ok (.goto (-49), 3) := by decide +kernel
theorem dX1_listen_59 : decode cX1_listen 59 = .ok (.return_, 1) := by decide +kernel
theorem dX1_beatAt_0 : decode cX1_beatAt 0 = .ok (.iload_n 1, 1) := by decide +kernel
theorem dX1_beatAt_1 : decode cX1_beatAt 1 = .ok (.ifCond .lt 29, 3) := by decide +kernel
theorem dX1_beatAt_4 : decode cX1_beatAt 4 = .ok (.iload_n 1, 1) := by decide +kernel
theorem dX1_beatAt_5 : decode cX1_beatAt 5 = .ok (.aload_n 0, 1) := by decide +kernel
theorem dX1_beatAt_6 : decode cX1_beatAt 6 = .ok (.getfield 15, 3) := by decide +kernel
theorem dX1_beatAt_9 : decode cX1_beatAt 9 = .ok (.if_icmp .ge 21, 3) := by decide +kernel
theorem dX1_beatAt_12 : decode cX1_beatAt 12 = .ok (.iload_n 1, 1) := by decide +kernel
theorem dX1_beatAt_13 : decode cX1_beatAt 13 = .ok (.aload_n 0, 1) := by decide +kernel
theorem dX1_beatAt_14 : decode cX1_beatAt 14 = .ok (.getfield 9, 3) := by decide +kernel
theorem dX1_beatAt_17 : decode cX1_beatAt 17 = .ok (.arraylength, 1) := by decide +kernel
theorem dX1_beatAt_18 : decode cX1_beatAt 18 = .ok (.if_icmp .ge 12, 3) := by decide +kernel
theorem dX1_beatAt_21 : decode cX1_beatAt 21 = .ok (.aload_n 0, 1) := by decide +kernel
theorem dX1_beatAt_22 : decode cX1_beatAt 22 = .ok (.getfield 9, 3) := by decide +kernel
theorem dX1_beatAt_25 : decode cX1_beatAt 25 = .ok (.iload_n 1, 1) := by decide +kernel
theorem dX1_beatAt_26 : decode cX1_beatAt 26 = .ok (.iaload, 1) := by decide +kernel
theorem dX1_beatAt_27 : decode cX1_beatAt 27 = .ok (.goto 5, 3) := by decide +kernel
theorem dX1_beatAt_30 : decode cX1_beatAt 30 = .ok (.bipush (-5), 2) := by decide +kernel
theorem dX1_beatAt_32 : decode cX1_beatAt 32 = .ok (.ireturn, 1) := by decide +kernel
theorem dX1_gaps_0 : decode cX1_gaps 0 = .ok (.iconst 0, 1) := by decide +kernel
theorem dX1_gaps_1 : decode cX1_gaps 1 = .ok (.aload_n 0, 1) := by decide +kernel
theorem dX1_gaps_2 : decode cX1_gaps 2 = .ok (.getfield 15, 3) := by decide +kernel
theorem dX1_gaps_5 : decode cX1_gaps 5 = .ok (.iconst 1, 1) := by decide +kernel
theorem dX1_gaps_6 : decode cX1_gaps 6 = .ok (.isub, 1) := by decide +kernel
theorem dX1_gaps_7 : decode cX1_gaps 7 = .ok (.invokestatic 25, 3) := by decide +kernel
theorem dX1_gaps_10 : decode cX1_gaps 10 = .ok (.ireturn, 1) := by decide +kernel
theorem dX1_gapAt_0 : decode cX1_gapAt 0 = .ok (.iload_n 1, 1) := by decide +kernel
theorem dX1_gapAt_1 : decode cX1_gapAt 1 = .ok (.ifCond .lt 27, 3) := by decide +kernel
theorem dX1_gapAt_4 : decode cX1_gapAt 4 = .ok (.iload_n 1, 1) := by decide +kernel
theorem dX1_gapAt_5 : decode cX1_gapAt 5 = .ok (.aload_n 0, 1) := by decide +kernel
theorem dX1_gapAt_6 : decode cX1_gapAt 6 = .ok (.invokevirtual 31, 3) := by decide +kernel
theorem dX1_gapAt_9 : decode cX1_gapAt 9 = .ok (.if_icmp .ge 19, 3) := by decide +kernel
theorem dX1_gapAt_12 : decode cX1_gapAt 12 = .ok (.aload_n 0, 1) := by decide +kernel
theorem dX1_gapAt_13 : decode cX1_gapAt 13 = .ok (.iload_n 1, 1) := by decide +kernel
theorem dX1_gapAt_14 : decode cX1_gapAt 14 = .ok (.iconst 1, 1) := by decide +kernel
theorem dX1_gapAt_15 : decode cX1_gapAt 15 = .ok (.iadd, 1) := by decide +kernel
theorem dX1_gapAt_16 : decode cX1_gapAt 16 = .ok (.invokevirtual 35, 3) := by decide +kernel
theorem dX1_gapAt_19 : decode cX1_gapAt 19 = .ok (.aload_n 0, 1) := by decide +kernel
theorem dX1_gapAt_20 : decode cX1_gapAt 20 = .ok (.iload_n 1, 1) := by decide +kernel
theorem dX1_gapAt_21 : decode cX1_gapAt 21 = .ok (.invokevirtual 35, 3) := by decide +kernel
theorem dX1_gapAt_24 : decode cX1_gapAt 24 = .ok (.isub, 1) := by decide +kernel
theorem dX1_gapAt_25 : decode cX1_gapAt 25 = .ok (.goto 5, 3) := by decide +kernel
theorem dX1_gapAt_28 : decode cX1_gapAt 28 = .ok (.bipush (-5), 2) := by decide +kernel
theorem dX1_gapAt_30 : decode cX1_gapAt 30 = .ok (.ireturn, 1) := by decide +kernel
theorem dX1_uneven_0 : decode cX1_uneven 0 = .ok (.iconst 0, 1) := by decide +kernel
theorem dX1_uneven_1 : decode cX1_uneven 1 = .ok (.istore_n 1, 1) := by decide +kernel
theorem dX1_uneven_2 : decode cX1_uneven 2 = .ok (.aload_n 0, 1) := by decide +kernel
theorem dX1_uneven_3 : decode cX1_uneven 3 = .ok (.invokevirtual 31, 3) := by decide +kernel
theorem dX1_uneven_6 : decode cX1_uneven 6 = .ok (.istore_n 2, 1) := by decide +kernel
theorem dX1_uneven_7 : decode cX1_uneven 7 = .ok (.iconst 0, 1) := by decide +kernel
theorem dX1_uneven_8 : decode cX1_uneven 8 = .ok (.istore_n 3, 1) := by decide +kernel
theorem dX1_uneven_9 : decode cX1_uneven 9 = .ok (.iload_n 3, 1) := by decide +kernel
theorem dX1_uneven_10 : decode cX1_uneven 10 = .ok (.iconst 1, 1) := by decide +kernel
theorem dX1_uneven_11 : decode cX1_uneven 11 = .ok (.iadd, 1) := by decide +kernel
theorem dX1_uneven_12 : decode cX1_uneven 12 = .ok (.iload_n 2, 1) := by decide +kernel
theorem dX1_uneven_13 : decode cX1_uneven 13 = .ok (.if_icmp .ge 25, 3) := by decide +kernel
theorem dX1_uneven_16 : decode cX1_uneven 16 = .ok (.iload_n 1, 1) := by decide +kernel
theorem dX1_uneven_17 : decode cX1_uneven 17 = .ok (.aload_n 0, 1) := by decide +kernel
theorem dX1_uneven_18 : decode cX1_uneven 18 = .ok (.iload_n 3, 1) := by decide +kernel
theorem dX1_uneven_19 : decode cX1_uneven 19 = .ok (.invokevirtual 39, 3) := by decide +kernel
theorem dX1_uneven_22 : decode cX1_uneven 22 = .ok (.aload_n 0, 1) := by decide +kernel
theorem dX1_uneven_23 : decode cX1_uneven 23 = .ok (.iload_n 3, 1) := by decide +kernel
theorem dX1_uneven_24 : decode cX1_uneven 24 = .ok (.iconst 1, 1) := by decide +kernel
theorem dX1_uneven_25 : decode cX1_uneven 25 = .ok (.iadd, 1) := by decide +kernel
theorem dX1_uneven_26 : decode cX1_uneven 26 = .ok (.invokevirtual 39, 3) := by decide +kernel
theorem dX1_uneven_29 : decode cX1_uneven 29 = .ok (.isub, 1) := by decide +kernel
theorem dX1_uneven_30 : decode cX1_uneven 30 = .ok (.iadd, 1) := by decide +kernel
theorem dX1_uneven_31 : decode cX1_uneven 31 = .ok (.istore_n 1, 1) := by decide +kernel
theorem dX1_uneven_32 : decode cX1_uneven 32 = .ok (.iinc 3 2, 3) := by decide +kernel
theorem dX1_uneven_35 : decode cX1_uneven 35 = .ok (.goto (-26), 3) := by decide +kernel
theorem dX1_uneven_38 : decode cX1_uneven 38 = .ok (.iload_n 1, 1) := by decide +kernel
theorem dX1_uneven_39 : decode cX1_uneven 39 = .ok (.ireturn, 1) := by decide +kernel
theorem dX1_longestGap_0 : decode cX1_longestGap 0 = .ok (.aload_n 0, 1) := by decide +kernel
theorem dX1_longestGap_1 : decode cX1_longestGap 1 = .ok (.invokevirtual 31, 3) := by decide +kernel
theorem dX1_longestGap_4 : decode cX1_longestGap 4 = .ok (.istore_n 2, 1) := by decide +kernel
theorem dX1_longestGap_5 : decode cX1_longestGap 5 = .ok (.iconst 0, 1) := by decide +kernel
theorem dX1_longestGap_6 : decode cX1_longestGap 6 = .ok (.istore_n 3, 1) := by decide +kernel
theorem dX1_longestGap_7 : decode cX1_longestGap 7 = .ok (.iload_n 3, 1) := by decide +kernel
theorem dX1_longestGap_8 : decode cX1_longestGap 8 = .ok (.iload_n 2, 1) := by decide +kernel
theorem dX1_longestGap_9 : decode cX1_longestGap 9 = .ok (.if_icmp .ge 20, 3) := by decide +kernel
theorem dX1_longestGap_12 : decode cX1_longestGap 12 = .ok (.aload_n 0, 1) := by decide +kernel
theorem dX1_longestGap_13 : decode cX1_longestGap 13 = .ok (.iload_n 3, 1) := by decide +kernel
theorem dX1_longestGap_14 : decode cX1_longestGap 14 = .ok (.invokevirtual 42, 3) := by decide +kernel
theorem dX1_longestGap_17 : decode cX1_longestGap 17 = .ok (.iload_n 1, 1) := by decide +kernel
theorem dX1_longestGap_18 : decode cX1_longestGap 18 = .ok (.if_icmp .ne 5, 3) := by decide +kernel
theorem dX1_longestGap_21 : decode cX1_longestGap 21 = .ok (.iload_n 3, 1) := by decide +kernel
theorem dX1_longestGap_22 : decode cX1_longestGap 22 = .ok (.ireturn, 1) := by decide +kernel
theorem dX1_longestGap_23 : decode cX1_longestGap 23 = .ok (.iinc 3 1, 3) := by decide +kernel
theorem dX1_longestGap_26 : decode cX1_longestGap 26 = .ok (.goto (-19), 3) := by decide +kernel
theorem dX1_longestGap_29 : decode cX1_longestGap 29 = .ok (.bipush (-5), 2) := by decide +kernel
theorem dX1_longestGap_31 : decode cX1_longestGap 31 = .ok (.ireturn, 1) := by decide +kernel
theorem dX1_gapsAheadOf_0 : decode cX1_gapsAheadOf 0 = .ok (.aload_n 0, 1) := by decide +kernel
theorem dX1_gapsAheadOf_1 : decode cX1_gapsAheadOf 1 = .ok (.iload_n 1, 1) := by decide +kernel
theorem dX1_gapsAheadOf_2 : decode cX1_gapsAheadOf 2 = .ok (.invokevirtual 39, 3) := by decide +kernel
theorem dX1_gapsAheadOf_5 : decode cX1_gapsAheadOf 5 = .ok (.istore_n 2, 1) := by decide +kernel
theorem dX1_gapsAheadOf_6 : decode cX1_gapsAheadOf 6 = .ok (.iconst 0, 1) := by decide +kernel
theorem dX1_gapsAheadOf_7 : decode cX1_gapsAheadOf 7 = .ok (.istore_n 3, 1) := by decide +kernel
theorem dX1_gapsAheadOf_8 : decode cX1_gapsAheadOf 8 = .ok (.aload_n 0, 1) := by decide +kernel
theorem dX1_gapsAheadOf_9 : decode cX1_gapsAheadOf 9 = .ok (.invokevirtual 31, 3) := by decide +kernel
theorem dX1_gapsAheadOf_12 : decode cX1_gapsAheadOf 12 = .ok (.istore 4, 2) := by decide +kernel
theorem dX1_gapsAheadOf_14 : decode cX1_gapsAheadOf 14 = .ok (.iconst 0, 1) := by decide +kernel
theorem dX1_gapsAheadOf_15 : decode cX1_gapsAheadOf 15 = .ok (.istore 5, 2) := by decide +kernel
theorem dX1_gapsAheadOf_17 : decode cX1_gapsAheadOf 17 = .ok (.iload 5, 2) := by decide +kernel
theorem dX1_gapsAheadOf_19 : decode cX1_gapsAheadOf 19 = .ok (.iload 4, 2) := by decide +kernel
theorem dX1_gapsAheadOf_21 : decode cX1_gapsAheadOf 21 = .ok (.if_icmp .ge 38, 3) := by decide +kernel
theorem dX1_gapsAheadOf_24 : decode cX1_gapsAheadOf 24 = .ok (.aload_n 0, 1) := by decide +kernel
theorem dX1_gapsAheadOf_25 : decode cX1_gapsAheadOf 25 = .ok (.iload 5, 2) := by decide +kernel
theorem dX1_gapsAheadOf_27 : decode cX1_gapsAheadOf 27 = .ok (.invokevirtual 39, 3) := by decide +kernel
theorem dX1_gapsAheadOf_30 : decode cX1_gapsAheadOf 30 = .ok (.istore 6, 2) := by decide +kernel
theorem dX1_gapsAheadOf_32 : decode cX1_gapsAheadOf 32 = .ok (.iload 6, 2) := by decide +kernel
theorem dX1_gapsAheadOf_34 : decode cX1_gapsAheadOf 34 = .ok (.iload_n 2, 1) := by decide +kernel
theorem dX1_gapsAheadOf_35 : decode cX1_gapsAheadOf 35 = .ok (.if_icmp .gt 15, 3) := by decide +kernel
theorem dX1_gapsAheadOf_38 : decode cX1_gapsAheadOf 38 = .ok (.iload 6, 2) := by decide +kernel
theorem dX1_gapsAheadOf_40 : decode cX1_gapsAheadOf 40 = .ok (.iload_n 2, 1) := by decide +kernel
theorem dX1_gapsAheadOf_41 : decode cX1_gapsAheadOf 41 = .ok (.if_icmp .ne 12, 3) := by decide +kernel
theorem dX1_gapsAheadOf_44 : decode cX1_gapsAheadOf 44 = .ok (.iload 5, 2) := by decide +kernel
theorem dX1_gapsAheadOf_46 : decode cX1_gapsAheadOf 46 = .ok (.iload_n 1, 1) := by decide +kernel
theorem dX1_gapsAheadOf_47 : decode cX1_gapsAheadOf 47 = .ok (.if_icmp .ge 6, 3) := by decide +kernel
theorem dX1_gapsAheadOf_50 : decode cX1_gapsAheadOf 50 = .ok (.iinc 3 1, 3) := by decide +kernel
theorem dX1_gapsAheadOf_53 : decode cX1_gapsAheadOf 53 = .ok (.iinc 5 1, 3) := by decide +kernel
theorem dX1_gapsAheadOf_56 : decode cX1_gapsAheadOf 56 = .ok (.goto (-39), 3) := by decide +kernel
theorem dX1_gapsAheadOf_59 : decode cX1_gapsAheadOf 59 = .ok (.iload_n 3, 1) := by decide +kernel
theorem dX1_gapsAheadOf_60 : decode cX1_gapsAheadOf 60 = .ok (.ireturn, 1) := by decide +kernel
theorem dX2_init_0 : decode cX2_init 0 = .ok (.aload_n 0, 1) := by decide +kernel
theorem dX2_init_1 : decode cX2_init 1 = .ok (.invokespecial 3, 3) := by decide +kernel
theorem dX2_init_4 : decode cX2_init 4 = .ok (.aload_n 0, 1) := by decide +kernel
theorem dX2_init_5 : decode cX2_init 5 = .ok (.bipush 8, 2) := by decide +kernel
theorem dX2_init_7 : decode cX2_init 7 = .ok (.newarray .int, 2) := by decide +kernel
theorem dX2_init_9 : decode cX2_init 9 = .ok (.putfield 9, 3) := by decide +kernel
theorem dX2_init_12 : decode cX2_init 12 = .ok (.aload_n 0, 1) := by decide +kernel
theorem dX2_init_13 : decode cX2_init 13 = .ok (.bipush 8, 2) := by decide +kernel
theorem dX2_init_15 : decode cX2_init 15 = .ok (.newarray .int, 2) := by decide +kernel
theorem dX2_init_17 : decode cX2_init 17 = .ok (.putfield 15, 3) := by decide +kernel
theorem dX2_init_20 : decode cX2_init 20 = .ok (.aload_n 0, 1) := by decide +kernel
theorem dX2_init_21 : decode cX2_init 21 = .ok (.bipush 8, 2) := by decide +kernel
theorem dX2_init_23 : decode cX2_init 23 = .ok (.newarray .int, 2) := by decide +kernel
theorem dX2_init_25 : decode cX2_init 25 = .ok (.putfield 18, 3) := by decide +kernel
theorem dX2_init_28 : decode cX2_init 28 = .ok (.return_, 1) := by decide +kernel
theorem dX2_add_0 : decode cX2_add 0 = .ok (.aload_n 0, 1) := by decide +kernel
theorem dX2_add_1 : decode cX2_add 1 = .ok (.getfield 21, 3) := by decide +kernel
theorem dX2_add_4 : decode cX2_add 4 = .ok (.ifCond .lt 12, 3) := by decide +kernel
theorem dX2_add_7 : decode cX2_add 7 = .ok (.aload_n 0, 1) := by decide +kernel
theorem dX2_add_8 : decode cX2_add 8 = .ok (.getfield 21, 3) := by decide +kernel
theorem dX2_add_11 : decode cX2_add 11 = .ok (.bipush 8, 2) := by decide +kernel
theorem dX2_add_13 : decode cX2_add 13 = .ok (.if_icmp .lt 4, 3) := by decide +kernel
theorem dX2_add_16 : decode cX2_add 16 = .ok (.return_, 1) := by decide +kernel
theorem dX2_add_17 : decode cX2_add 17 = .ok (.aload_n 0, 1) := by decide +kernel
theorem dX2_add_18 : decode cX2_add 18 = .ok (.getfield 21, 3) := by decide +kernel
theorem dX2_add_21 : decode cX2_add 21 = .ok (.istore 4, 2) := by decide +kernel
theorem dX2_add_23 : decode cX2_add 23 = .ok (.iload 4, 2) := by decide +kernel
theorem dX2_add_25 : decode cX2_add 25 = .ok (.ifCond .le 70, 3) := by decide +kernel
theorem dX2_add_28 : decode cX2_add 28 = .ok (.aload_n 0, 1) := by decide +kernel
theorem dX2_add_29 : decode cX2_add 29 = .ok (.getfield 9, 3) := by decide +kernel
theorem dX2_add_32 : decode cX2_add 32 = .ok (.iload 4, 2) := by decide +kernel
theorem dX2_add_34 : decode cX2_add 34 = .ok (.iconst 1, 1) := by decide +kernel
theorem dX2_add_35 : decode cX2_add 35 = .ok (.isub, 1) := by decide +kernel
theorem dX2_add_36 : decode cX2_add 36 = .ok (.iaload, 1) := by decide +kernel
theorem dX2_add_37 : decode cX2_add 37 = .ok (.iload_n 1, 1) := by decide +kernel
theorem dX2_add_38 : decode cX2_add 38 = .ok (.if_icmp .le 57, 3) := by decide +kernel
theorem dX2_add_41 : decode cX2_add 41 = .ok (.aload_n 0, 1) := by decide +kernel
theorem dX2_add_42 : decode cX2_add 42 = .ok (.getfield 9, 3) := by decide +kernel
theorem dX2_add_45 : decode cX2_add 45 = .ok (.iload 4, 2) := by decide +kernel
theorem dX2_add_47 : decode cX2_add 47 = .ok (.aload_n 0, 1) := by decide +kernel
theorem dX2_add_48 : decode cX2_add 48 = .ok (.getfield 9, 3) := by decide +kernel
theorem dX2_add_51 : decode cX2_add 51 = .ok (.iload 4, 2) := by decide +kernel
theorem dX2_add_53 : decode cX2_add 53 = .ok (.iconst 1, 1) := by decide +kernel
theorem dX2_add_54 : decode cX2_add 54 = .ok (.isub, 1) := by decide +kernel
theorem dX2_add_55 : decode cX2_add 55 = .ok (.iaload, 1) := by decide +kernel
theorem dX2_add_56 : decode cX2_add 56 = .ok (.iastore, 1) := by decide +kernel
theorem dX2_add_57 : decode cX2_add 57 = .ok (.aload_n 0, 1) := by decide +kernel
theorem dX2_add_58 : decode cX2_add 58 = .ok (.getfield 15, 3) := by decide +kernel
theorem dX2_add_61 : decode cX2_add 61 = .ok (.iload 4, 2) := by decide +kernel
theorem dX2_add_63 : decode cX2_add 63 = .ok (.aload_n 0, 1) := by decide +kernel
theorem dX2_add_64 : decode cX2_add 64 = .ok (.getfield 15, 3) := by decide +kernel
theorem dX2_add_67 : decode cX2_add 67 = .ok (.iload 4, 2) := by decide +kernel
theorem dX2_add_69 : decode cX2_add 69 = .ok (.iconst 1, 1) := by decide +kernel
theorem dX2_add_70 : decode cX2_add 70 = .ok (.isub, 1) := by decide +kernel
theorem dX2_add_71 : decode cX2_add 71 = .ok (.iaload, 1) := by decide +kernel
theorem dX2_add_72 : decode cX2_add 72 = .ok (.iastore, 1) := by decide +kernel
theorem dX2_add_73 : decode cX2_add 73 = .ok (.aload_n 0, 1) := by decide +kernel
theorem dX2_add_74 : decode cX2_add 74 = .ok (.getfield 18, 3) := by decide +kernel
theorem dX2_add_77 : decode cX2_add 77 = .ok (.iload 4, 2) := by decide +kernel
theorem dX2_add_79 : decode cX2_add 79 = .ok (.aload_n 0, 1) := by decide +kernel
theorem dX2_add_80 : decode cX2_add 80 = .ok (.getfield 18, 3) := by decide +kernel
theorem dX2_add_83 : decode cX2_add 83 = .ok (.iload 4, 2) := by decide +kernel
theorem dX2_add_85 : decode cX2_add 85 = .ok (.iconst 1, 1) := by decide +kernel
theorem dX2_add_86 : decode cX2_add 86 = .ok (.isub, 1) := by decide +kernel
theorem dX2_add_87 : decode cX2_add 87 = .ok (.iaload, 1) := by decide +kernel
theorem dX2_add_88 : decode cX2_add 88 = .ok (.iastore, 1) := by decide +kernel
theorem dX2_add_89 : decode cX2_add 89 = .ok (.iinc 4 (-1), 3) := by decide +kernel
theorem dX2_add_92 : decode cX2_add 92 = .ok (.goto (-69), 3) := by decide +kernel
theorem dX2_add_95 : decode cX2_add 95 = .ok (.aload_n 0, 1) := by decide +kernel
theorem dX2_add_96 : decode cX2_add 96 = .ok (.getfield 9, 3) := by decide +kernel
theorem dX2_add_99 : decode cX2_add 99 = .ok (.iload 4, 2) := by decide +kernel
theorem dX2_add_101 : decode cX2_add 101 = .ok (.iload_n 1, 1) := by decide +kernel
theorem dX2_add_102 : decode cX2_add 102 = .ok (.iastore, 1) := by decide +kernel
theorem dX2_add_103 : decode cX2_add 103 = .ok (.aload_n 0, 1) := by decide +kernel
theorem dX2_add_104 : decode cX2_add 104 = .ok (.getfield 15, 3) := by decide +kernel
theorem dX2_add_107 : decode cX2_add 107 = .ok (.iload 4, 2) := by decide +kernel
theorem dX2_add_109 : decode cX2_add 109 = .ok (.iload_n 2, 1) := by decide +kernel
theorem dX2_add_110 : decode cX2_add 110 = .ok (.iastore, 1) := by decide +kernel
theorem dX2_add_111 : decode cX2_add 111 = .ok (.aload_n 0, 1) := by decide +kernel
theorem dX2_add_112 : decode cX2_add 112 = .ok (.getfield 18, 3) := by decide +kernel
theorem dX2_add_115 : decode cX2_add 115 = .ok (.iload 4, 2) := by decide +kernel
theorem dX2_add_117 : decode cX2_add 117 = .ok (.iload_n 3, 1) := by decide +kernel
theorem dX2_add_118 : decode cX2_add 118 = .ok (.iastore, 1) := by decide +kernel
theorem dX2_add_119 : decode cX2_add 119 = .ok (.aload_n 0, 1) := by decide +kernel
theorem dX2_add_120 : decode cX2_add 120 = .ok (.dup, 1) := by decide +kernel
theorem dX2_add_121 : decode cX2_add 121 = .ok (.getfield 21, 3) := by decide +kernel
theorem dX2_add_124 : decode cX2_add 124 = .ok (.iconst 1, 1) := by decide +kernel
theorem dX2_add_125 : decode cX2_add 125 = .ok (.iadd, 1) := by decide +kernel
theorem dX2_add_126 : decode cX2_add 126 = .ok (.putfield 21, 3) := by decide +kernel
theorem dX2_add_129 : decode cX2_add 129 = .ok (.return_, 1) := by decide +kernel
theorem dX2_removeFirst_0 : decode cX2_removeFirst 0 = .ok (.iload_n 1, 1) := by decide +kernel
theorem dX2_removeFirst_1 : decode cX2_removeFirst 1 = .ok (.iconst 1, 1) := by decide +kernel
theorem dX2_removeFirst_2 : decode cX2_removeFirst 2 = .ok (.if_icmp .lt 11, 3) := by decide +kernel
theorem dX2_removeFirst_5 : decode cX2_removeFirst 5 = .ok (.iload_n 1, 1) := by decide +kernel
theorem dX2_removeFirst_6 : decode cX2_removeFirst 6 = .ok (.aload_n 0, 1) := by decide +kernel
theorem dX2_removeFirst_7 : decode cX2_removeFirst 7 = .ok (.getfield 21, 3) := by decide +kernel
theorem dX2_removeFirst_10 : decode cX2_removeFirst 10 = .ok (.if_icmp .le 4, 3) := by decide +kernel
theorem dX2_removeFirst_13 : decode cX2_removeFirst 13 = .ok (.return_, 1) := by decide +kernel
theorem dX2_removeFirst_14 : decode cX2_removeFirst 14 = .ok (.iload_n 1, 1) := by decide +kernel
theorem dX2_removeFirst_15 : decode cX2_removeFirst 15 = .ok (.istore_n 2, 1) := by decide +kernel
theorem dX2_removeFirst_16 : decode cX2_removeFirst 16 = .ok (.iload_n 2, 1) := by decide +kernel
theorem dX2_removeFirst_17 : decode cX2_removeFirst 17 = .ok (.aload_n 0, 1) := by decide +kernel
theorem dX2_removeFirst_18 : decode cX2_removeFirst 18 = .ok (.getfield 21, 3) := by decide +kernel
theorem dX2_removeFirst_21 : decode cX2_removeFirst 21 = .ok (.if_icmp .ge 57, 3) := by decide +kernel
theorem dX2_removeFirst_24 : decode cX2_removeFirst 24 = .ok (.iload_n 2, 1) := by decide +kernel
theorem dX2_removeFirst_25 : decode cX2_removeFirst 25 = .ok (.bipush 8, 2) := by decide +kernel
theorem dX2_removeFirst_27 : decode cX2_removeFirst 27 = .ok (.if_icmp .ge 51, 3) := by decide +kernel
theorem dX2_removeFirst_30 : decode cX2_removeFirst 30 = .ok (.aload_n 0, 1) := by decide +kernel
theorem dX2_removeFirst_31 : decode cX2_removeFirst 31 = .ok (.getfield 9, 3) := by decide +kernel
theorem dX2_removeFirst_34 : decode cX2_removeFirst 34 = .ok (.iload_n 2, 1) := by decide +kernel
theorem dX2_removeFirst_35 : decode cX2_removeFirst 35 = .ok (.iload_n 1, 1) := by decide +kernel
theorem dX2_removeFirst_36 : decode cX2_removeFirst 36 = .ok (.isub, 1) := by decide +kernel
theorem dX2_removeFirst_37 : decode cX2_removeFirst 37 = .ok (.aload_n 0, 1) := by decide +kernel
theorem dX2_removeFirst_38 : decode cX2_removeFirst 38 = .ok (.getfield 9, 3) := by decide +kernel
theorem dX2_removeFirst_41 : decode cX2_removeFirst 41 = .ok (.iload_n 2, 1) := by decide +kernel
theorem dX2_removeFirst_42 : decode cX2_removeFirst 42 = .ok (.iaload, 1) := by decide +kernel
theorem dX2_removeFirst_43 : decode cX2_removeFirst 43 = .ok (.iastore, 1) := by decide +kernel
theorem dX2_removeFirst_44 : decode cX2_removeFirst 44 = .ok (.aload_n 0, 1) := by decide +kernel
theorem dX2_removeFirst_45 : decode cX2_removeFirst 45 = .ok (.getfield 15, 3) := by decide +kernel
theorem dX2_removeFirst_48 : decode cX2_removeFirst 48 = .ok (.iload_n 2, 1) := by decide +kernel
theorem dX2_removeFirst_49 : decode cX2_removeFirst 49 = .ok (.iload_n 1, 1) := by decide +kernel
theorem dX2_removeFirst_50 : decode cX2_removeFirst 50 = .ok (.isub, 1) := by decide +kernel
theorem dX2_removeFirst_51 : decode cX2_removeFirst 51 = .ok (.aload_n 0, 1) := by decide +kernel
theorem dX2_removeFirst_52 : decode cX2_removeFirst 52 = .ok (.getfield 15, 3) := by decide +kernel
theorem dX2_removeFirst_55 : decode cX2_removeFirst 55 = .ok (.iload_n 2, 1) := by decide +kernel
theorem dX2_removeFirst_56 : decode cX2_removeFirst 56 = .ok (.iaload, 1) := by decide +kernel
theorem dX2_removeFirst_57 : decode cX2_removeFirst 57 = .ok (.iastore, 1) := by decide +kernel
theorem dX2_removeFirst_58 : decode cX2_removeFirst 58 = .ok (.aload_n 0, 1) := by decide +kernel
theorem dX2_removeFirst_59 : decode cX2_removeFirst 59 = .ok (.getfield 18, 3) := by decide +kernel
theorem dX2_removeFirst_62 : decode cX2_removeFirst 62 = .ok (.iload_n 2, 1) := by decide +kernel
theorem dX2_removeFirst_63 : decode cX2_removeFirst 63 = .ok (.iload_n 1, 1) := by decide +kernel
theorem dX2_removeFirst_64 : decode cX2_removeFirst 64 = .ok (.isub, 1) := by decide +kernel
theorem dX2_removeFirst_65 : decode cX2_removeFirst 65 = .ok (.aload_n 0, 1) := by decide +kernel
theorem dX2_removeFirst_66 : decode cX2_removeFirst 66 = .ok (.getfield 18, 3) := by decide +kernel
theorem dX2_removeFirst_69 : decode cX2_removeFirst 69 = .ok (.iload_n 2, 1) := by decide +kernel
theorem dX2_removeFirst_70 : decode cX2_removeFirst 70 = .ok (.iaload, 1) := by decide +kernel
theorem dX2_removeFirst_71 : decode cX2_removeFirst 71 = .ok (.iastore, 1) := by decide +kernel
theorem dX2_removeFirst_72 : decode cX2_removeFirst 72 = .ok (.iinc 2 1, 3) := by decide +kernel
theorem dX2_removeFirst_75 : decode cX2_removeFirst 75 = .ok (.goto (-59), 3) := by decide +kernel
theorem dX2_removeFirst_78 : decode cX2_removeFirst 78 = .ok (.aload_n 0, 1) := by decide +kernel
theorem dX2_removeFirst_79 : decode cX2_removeFirst 79 = .ok (.dup, 1) := by decide +kernel
theorem dX2_removeFirst_80 : decode cX2_removeFirst 80 = .ok (.getfield 21, 3) := by decide +kernel
theorem dX2_removeFirst_83 : decode cX2_removeFirst 83 = .ok (.iload_n 1, 1) := by decide +kernel
theorem dX2_removeFirst_84 : decode cX2_removeFirst 84 = .ok (.isub, 1) := by decide +kernel
theorem dX2_removeFirst_85 : decode cX2_removeFirst 85 = .ok (.putfield 21, 3) := by decide +kernel
theorem dX2_removeFirst_88 : decode cX2_removeFirst 88 = .ok (.return_, 1) := by decide +kernel
theorem dX2_copy_0 : decode cX2_copy 0 = .ok (.aload_n 0, 1) := by decide +kernel
theorem dX2_copy_1 : decode cX2_copy 1 = .ok (.aload_n 1, 1) := by decide +kernel
theorem dX2_copy_2 : decode cX2_copy 2 = .ok (.getfield 21, 3) := by decide +kernel
theorem dX2_copy_5 : decode cX2_copy 5 = .ok (.putfield 21, 3) := by decide +kernel
theorem dX2_copy_8 : decode cX2_copy 8 = .ok (.iconst 0, 1) := by decide +kernel
theorem dX2_copy_9 : decode cX2_copy 9 = .ok (.istore_n 2, 1) := by decide +kernel
theorem dX2_copy_10 : decode cX2_copy 10 = .ok (.iload_n 2, 1) := by decide +kernel
theorem dX2_copy_11 : decode cX2_copy 11 = .ok (.aload_n 0, 1) := by decide +kernel
theorem dX2_copy_12 : decode cX2_copy 12 = .ok (.getfield 21, 3) := by decide +kernel
theorem dX2_copy_15 : decode cX2_copy 15 = .ok (.if_icmp .ge 51, 3) := by decide +kernel
theorem dX2_copy_18 : decode cX2_copy 18 = .ok (.iload_n 2, 1) := by decide +kernel
theorem dX2_copy_19 : decode cX2_copy 19 = .ok (.bipush 8, 2) := by decide +kernel
theorem dX2_copy_21 : decode cX2_copy 21 = .ok (.if_icmp .ge 45, 3) := by decide +kernel
theorem dX2_copy_24 : decode cX2_copy 24 = .ok (.aload_n 0, 1) := by decide +kernel
theorem dX2_copy_25 : decode cX2_copy 25 = .ok (.getfield 9, 3) := by decide +kernel
theorem dX2_copy_28 : decode cX2_copy 28 = .ok (.iload_n 2, 1) := by decide +kernel
theorem dX2_copy_29 : decode cX2_copy 29 = .ok (.aload_n 1, 1) := by decide +kernel
theorem dX2_copy_30 : decode cX2_copy 30 = .ok (.getfield 9, 3) := by decide +kernel
theorem dX2_copy_33 : decode cX2_copy 33 = .ok (.iload_n 2, 1) := by decide +kernel
theorem dX2_copy_34 : decode cX2_copy 34 = .ok (.iaload, 1) := by decide +kernel
theorem dX2_copy_35 : decode cX2_copy 35 = .ok (.iastore, 1) := by decide +kernel
theorem dX2_copy_36 : decode cX2_copy 36 = .ok (.aload_n 0, 1) := by decide +kernel
theorem dX2_copy_37 : decode cX2_copy 37 = .ok (.getfield 15, 3) := by decide +kernel
theorem dX2_copy_40 : decode cX2_copy 40 = .ok (.iload_n 2, 1) := by decide +kernel
theorem dX2_copy_41 : decode cX2_copy 41 = .ok (.aload_n 1, 1) := by decide +kernel
theorem dX2_copy_42 : decode cX2_copy 42 = .ok (.getfield 15, 3) := by decide +kernel
theorem dX2_copy_45 : decode cX2_copy 45 = .ok (.iload_n 2, 1) := by decide +kernel
theorem dX2_copy_46 : decode cX2_copy 46 = .ok (.iaload, 1) := by decide +kernel
theorem dX2_copy_47 : decode cX2_copy 47 = .ok (.iastore, 1) := by decide +kernel
theorem dX2_copy_48 : decode cX2_copy 48 = .ok (.aload_n 0, 1) := by decide +kernel
theorem dX2_copy_49 : decode cX2_copy 49 = .ok (.getfield 18, 3) := by decide +kernel
theorem dX2_copy_52 : decode cX2_copy 52 = .ok (.iload_n 2, 1) := by decide +kernel
theorem dX2_copy_53 : decode cX2_copy 53 = .ok (.aload_n 1, 1) := by decide +kernel
theorem dX2_copy_54 : decode cX2_copy 54 = .ok (.getfield 18, 3) := by decide +kernel
theorem dX2_copy_57 : decode cX2_copy 57 = .ok (.iload_n 2, 1) := by decide +kernel
theorem dX2_copy_58 : decode cX2_copy 58 = .ok (.iaload, 1) := by decide +kernel
theorem dX2_copy_59 : decode cX2_copy 59 = .ok (.iastore, 1) := by decide +kernel
theorem dX2_copy_60 : decode cX2_copy 60 = .ok (.iinc 2 1, 3) := by decide +kernel
theorem dX2_copy_63 : decode cX2_copy 63 = .ok (.goto (-53), 3) := by decide +kernel
theorem dX2_copy_66 : decode cX2_copy 66 = .ok (.return_, 1) := by decide +kernel
theorem dX3_init_0 : decode cX3_init 0 = .ok (.aload_n 0, 1) := by decide +kernel
theorem dX3_init_1 : decode cX3_init 1 = .ok (.invokespecial 3, 3) := by decide +kernel
theorem dX3_init_4 : decode cX3_init 4 = .ok (.aload_n 0, 1) := by decide +kernel
theorem dX3_init_5 : decode cX3_init 5 = .ok (.bipush 8, 2) := by decide +kernel
theorem dX3_init_7 : decode cX3_init 7 = .ok (.newarray .int, 2) := by decide +kernel
theorem dX3_init_9 : decode cX3_init 9 = .ok (.putfield 9, 3) := by decide +kernel
theorem dX3_init_12 : decode cX3_init 12 = .ok (.aload_n 0, 1) := by decide +kernel
theorem dX3_init_13 : decode cX3_init 13 = .ok (.bipush 8, 2) := by decide +kernel
theorem dX3_init_15 : decode cX3_init 15 = .ok (.newarray .int, 2) := by decide +kernel
theorem dX3_init_17 : decode cX3_init 17 = .ok (.putfield 15, 3) := by decide +kernel
theorem dX3_init_20 : decode cX3_init 20 = .ok (.return_, 1) := by decide +kernel
theorem dX3_add_0 : decode cX3_add 0 = .ok (.aload_n 0, 1) := by decide +kernel
theorem dX3_add_1 : decode cX3_add 1 = .ok (.getfield 18, 3) := by decide +kernel
theorem dX3_add_4 : decode cX3_add 4 = .ok (.ifCond .lt 42, 3) := by decide +kernel
theorem dX3_add_7 : decode cX3_add 7 = .ok (.aload_n 0, 1) := by decide +kernel
theorem dX3_add_8 : decode cX3_add 8 = .ok (.getfield 18, 3) := by decide +kernel
theorem dX3_add_11 : decode cX3_add 11 = .ok (.bipush 8, 2) := by decide +kernel
theorem dX3_add_13 : decode cX3_add 13 = .ok (.if_icmp .ge 33, 3) := by decide +kernel
theorem dX3_add_16 : decode cX3_add 16 = .ok (.aload_n 0, 1) := by decide +kernel
theorem dX3_add_17 : decode cX3_add 17 = .ok (.getfield 9, 3) := by decide +kernel
theorem dX3_add_20 : decode cX3_add 20 = .ok (.aload_n 0, 1) := by decide +kernel
theorem dX3_add_21 : decode cX3_add 21 = .ok (.getfield 18, 3) := by decide +kernel
theorem dX3_add_24 : decode cX3_add 24 = .ok (.iload_n 1, 1) := by decide +kernel
theorem dX3_add_25 : decode cX3_add 25 = .ok (.iastore, 1) := by decide +kernel
theorem dX3_add_26 : decode cX3_add 26 = .ok (.aload_n 0, 1) := by decide +kernel
theorem dX3_add_27 : decode cX3_add 27 = .ok (.getfield 15, 3) := by decide +kernel
theorem dX3_add_30 : decode cX3_add 30 = .ok (.aload_n 0, 1) := by decide +kernel
theorem dX3_add_31 : decode cX3_add 31 = .ok (.getfield 18, 3) := by decide +kernel
theorem dX3_add_34 : decode cX3_add 34 = .ok (.iload_n 2, 1) := by decide +kernel
theorem dX3_add_35 : decode cX3_add 35 = .ok (.iastore, 1) := by decide +kernel
theorem dX3_add_36 : decode cX3_add 36 = .ok (.aload_n 0, 1) := by decide +kernel
theorem dX3_add_37 : decode cX3_add 37 = .ok (.dup, 1) := by decide +kernel
theorem dX3_add_38 : decode cX3_add 38 = .ok (.getfield 18, 3) := by decide +kernel
theorem dX3_add_41 : decode cX3_add 41 = .ok (.iconst 1, 1) := by decide +kernel
theorem dX3_add_42 : decode cX3_add 42 = .ok (.iadd, 1) := by decide +kernel
theorem dX3_add_43 : decode cX3_add 43 = .ok (.putfield 18, 3) := by decide +kernel
theorem dX3_add_46 : decode cX3_add 46 = .ok (.return_, 1) := by decide +kernel
theorem dX3_greatestFirst_0 : decode cX3_greatestFirst 0 = .ok (.iconst (-1), 1) := by decide +kernel
theorem dX3_greatestFirst_1 : decode cX3_greatestFirst 1 = .ok (.istore_n 1, 1) := by decide +kernel
theorem dX3_greatestFirst_2 : decode cX3_greatestFirst 2 = .ok (.iconst 0, 1) := by decide +kernel
theorem dX3_greatestFirst_3 : decode cX3_greatestFirst 3 = .ok (.istore_n 2, 1) := by decide +kernel
theorem dX3_greatestFirst_4 : decode cX3_greatestFirst 4 = .ok (.iload_n 2, 1) := by decide +kernel
theorem dX3_greatestFirst_5 : decode cX3_greatestFirst 5 = .ok (.aload_n 0, 1) := by decide +kernel
theorem dX3_greatestFirst_6 : decode cX3_greatestFirst 6 = .ok (.getfield 18, 3) := by decide +kernel
theorem dX3_greatestFirst_9 : decode cX3_greatestFirst 9 = .ok (.if_icmp .ge 26, 3) := by decide +kernel
theorem dX3_greatestFirst_12 : decode cX3_greatestFirst 12 = .ok (.iload_n 2, 1) := by decide +kernel
theorem dX3_greatestFirst_13 : decode cX3_greatestFirst 13 = .ok (.bipush 8, 2) := by decide +kernel
theorem dX3_greatestFirst_15 : decode cX3_greatestFirst 15 = .ok (.if_icmp .ge 20, 3) := by decide +kernel
theorem dX3_greatestFirst_18 : decode cX3_greatestFirst 18 = .ok (.iload_n 1, 1) := by decide +kernel
theorem dX3_greatestFirst_19 : decode cX3_greatestFirst 19 = .ok (.aload_n 0, 1) := by decide +kernel
theorem dX3_greatestFirst_20 : decode cX3_greatestFirst 20 = .ok (.getfield 9, 3) := by decide +kernel
theorem dX3_greatestFirst_23 : decode cX3_greatestFirst 23 = .ok (.iload_n 2, 1) := by decide +kernel
theorem dX3_greatestFirst_24 : decode cX3_greatestFirst 24 = .ok (.iaload, 1) := by decide +kernel
theorem dX3_greatestFirst_25 : decode cX3_greatestFirst 25 = .ok (.invokestatic 22, 3) := by decide +kernel
theorem dX3_greatestFirst_28 : decode cX3_greatestFirst 28 = .ok (.istore_n 1, 1) := by decide +kernel
theorem dX3_greatestFirst_29 : decode cX3_greatestFirst 29 = .ok (.iinc 2 1, 3) := by decide +kernel
theorem dX3_greatestFirst_32 : decode cX3_greatestFirst 32 = .ok (.goto (-28), 3) := by decide +kernel
theorem dX3_greatestFirst_35 : decode cX3_greatestFirst 35 = .ok (.iload_n 1, 1) := by decide +kernel
theorem dX3_greatestFirst_36 : decode cX3_greatestFirst 36 = .ok (.ireturn, 1) := by decide +kernel
theorem dX3_allows_0 : decode cX3_allows 0 = .ok (.iconst 0, 1) := by decide +kernel
theorem dX3_allows_1 : decode cX3_allows 1 = .ok (.istore_n 3, 1) := by decide +kernel
theorem dX3_allows_2 : decode cX3_allows 2 = .ok (.iload_n 3, 1) := by decide +kernel
theorem dX3_allows_3 : decode cX3_allows 3 = .ok (.aload_n 0, 1) := by decide +kernel
theorem dX3_allows_4 : decode cX3_allows 4 = .ok (.getfield 18, 3) := by decide +kernel
theorem dX3_allows_7 : decode cX3_allows 7 = .ok (.if_icmp .ge 37, 3) := by decide +kernel
theorem dX3_allows_10 : decode cX3_allows 10 = .ok (.iload_n 3, 1) := by decide +kernel
theorem dX3_allows_11 : decode cX3_allows 11 = .ok (.bipush 8, 2) := by decide +kernel
theorem dX3_allows_13 : decode cX3_allows 13 = .ok (.if_icmp .ge 31, 3) := by decide +kernel
theorem dX3_allows_16 : decode cX3_allows 16 = .ok (.aload_n 0, 1) := by decide +kernel
theorem dX3_allows_17 : decode cX3_allows 17 = .ok (.getfield 9, 3) := by decide +kernel
theorem dX3_allows_20 : decode cX3_allows 20 = .ok (.iload_n 3, 1) := by decide +kernel
theorem dX3_allows_21 : decode cX3_allows 21 = .ok (.iaload, 1) := by decide +kernel
theorem dX3_allows_22 : decode cX3_allows 22 = .ok (.iload_n 1, 1) := by decide +kernel
theorem dX3_allows_23 : decode cX3_allows 23 = .ok (.if_icmp .ne 15, 3) := by decide +kernel
theorem dX3_allows_26 : decode cX3_allows 26 = .ok (.aload_n 0, 1) := by decide +kernel
theorem dX3_allows_27 : decode cX3_allows 27 = .ok (.getfield 15, 3) := by decide +kernel
theorem dX3_allows_30 : decode cX3_allows 30 = .ok (.iload_n 3, 1) := by decide +kernel
theorem dX3_allows_31 : decode cX3_allows 31 = .ok (.iaload, 1) := by decide +kernel
theorem dX3_allows_32 : decode cX3_allows 32 = .ok (.iload_n 2, 1) := by decide +kernel
theorem dX3_allows_33 : decode cX3_allows 33 = .ok (.if_icmp .eq 5, 3) := by decide +kernel
theorem dX3_allows_36 : decode cX3_allows 36 = .ok (.iconst 0, 1) := by decide +kernel
theorem dX3_allows_37 : decode cX3_allows 37 = .ok (.ireturn, 1) := by decide +kernel
theorem dX3_allows_38 : decode cX3_allows 38 = .ok (.iinc 3 1, 3) := by decide +kernel
theorem dX3_allows_41 : decode cX3_allows 41 = .ok (.goto (-39), 3) := by decide +kernel
theorem dX3_allows_44 : decode cX3_allows 44 = .ok (.iconst 1, 1) := by decide +kernel
theorem dX3_allows_45 : decode cX3_allows 45 = .ok (.ireturn, 1) := by decide +kernel
theorem dX3_copy_0 : decode cX3_copy 0 = .ok (.aload_n 0, 1) := by decide +kernel
theorem dX3_copy_1 : decode cX3_copy 1 = .ok (.aload_n 1, 1) := by decide +kernel
theorem dX3_copy_2 : decode cX3_copy 2 = .ok (.getfield 18, 3) := by decide +kernel
theorem dX3_copy_5 : decode cX3_copy 5 = .ok (.putfield 18, 3) := by decide +kernel
theorem dX3_copy_8 : decode cX3_copy 8 = .ok (.iconst 0, 1) := by decide +kernel
theorem dX3_copy_9 : decode cX3_copy 9 = .ok (.istore_n 2, 1) := by decide +kernel
theorem dX3_copy_10 : decode cX3_copy 10 = .ok (.iload_n 2, 1) := by decide +kernel
theorem dX3_copy_11 : decode cX3_copy 11 = .ok (.bipush 8, 2) := by decide +kernel
theorem dX3_copy_13 : decode cX3_copy 13 = .ok (.if_icmp .ge 33, 3) := by decide +kernel
theorem dX3_copy_16 : decode cX3_copy 16 = .ok (.aload_n 0, 1) := by decide +kernel
theorem dX3_copy_17 : decode cX3_copy 17 = .ok (.getfield 9, 3) := by decide +kernel
theorem dX3_copy_20 : decode cX3_copy 20 = .ok (.iload_n 2, 1) := by decide +kernel
theorem dX3_copy_21 : decode cX3_copy 21 = .ok (.aload_n 1, 1) := by decide +kernel
theorem dX3_copy_22 : decode cX3_copy 22 = .ok (.getfield 9, 3) := by decide +kernel
theorem dX3_copy_25 : decode cX3_copy 25 = .ok (.iload_n 2, 1) := by decide +kernel
theorem dX3_copy_26 : decode cX3_copy 26 = .ok (.iaload, 1) := by decide +kernel
theorem dX3_copy_27 : decode cX3_copy 27 = .ok (.iastore, 1) := by decide +kernel
theorem dX3_copy_28 : decode cX3_copy 28 = .ok (.aload_n 0, 1) := by decide +kernel
theorem dX3_copy_29 : decode cX3_copy 29 = .ok (.getfield 15, 3) := by decide +kernel
theorem dX3_copy_32 : decode cX3_copy 32 = .ok (.iload_n 2, 1) := by decide +kernel
theorem dX3_copy_33 : decode cX3_copy 33 = .ok (.aload_n 1, 1) := by decide +kernel
theorem dX3_copy_34 : decode cX3_copy 34 = .ok (.getfield 15, 3) := by decide +kernel
theorem dX3_copy_37 : decode cX3_copy 37 = .ok (.iload_n 2, 1) := by decide +kernel
theorem dX3_copy_38 : decode cX3_copy 38 = .ok (.iaload, 1) := by decide +kernel
theorem dX3_copy_39 : decode cX3_copy 39 = .ok (.iastore, 1) := by decide +kernel
theorem dX3_copy_40 : decode cX3_copy 40 = .ok (.iinc 2 1, 3) := by decide +kernel
theorem dX3_copy_43 : decode cX3_copy 43 = .ok (.goto (-33), 3) := by decide +kernel
theorem dX3_copy_46 : decode cX3_copy 46 = .ok (.return_, 1) := by decide +kernel
theorem dX4_init_0 : decode cX4_init 0 = .ok (.aload_n 0, 1) := by decide +kernel
theorem dX4_init_1 : decode cX4_init 1 = .ok (.invokespecial 3, 3) := by decide +kernel
theorem dX4_init_4 : decode cX4_init 4 = .ok (.aload_n 0, 1) := by decide +kernel
theorem dX4_init_5 : decode cX4_init 5 = .ok (.iconst (-1), 1) := by decide +kernel
theorem dX4_init_6 : decode cX4_init 6 = .ok (.putfield 9, 3) := by decide +kernel
theorem dX4_init_9 : decode cX4_init 9 = .ok (.aload_n 0, 1) := by decide +kernel
theorem dX4_init_10 : decode cX4_init 10 = .ok (.bipush 60, 2) := by decide +kernel
theorem dX4_init_12 : decode cX4_init 12 = .ok (.newarray .long, 2) := by decide +kernel
theorem dX4_init_14 : decode cX4_init 14 = .ok (.putfield 15, 3) := by decide +kernel
theorem dX4_init_17 : decode cX4_init 17 = .ok (.return_, 1) := by decide +kernel
theorem dX4_clear_0 : decode cX4_clear 0 = .ok (.aload_n 0, 1) := by decide +kernel
theorem dX4_clear_1 : decode cX4_clear 1 = .ok (.iload_n 1, 1) := by decide +kernel
theorem dX4_clear_2 : decode cX4_clear 2 = .ok (.putfield 9, 3) := by decide +kernel
theorem dX4_clear_5 : decode cX4_clear 5 = .ok (.aload_n 0, 1) := by decide +kernel
theorem dX4_clear_6 : decode cX4_clear 6 = .ok (.iload_n 2, 1) := by decide +kernel
theorem dX4_clear_7 : decode cX4_clear 7 = .ok (.putfield 19, 3) := by decide +kernel
theorem dX4_clear_10 : decode cX4_clear 10 = .ok (.iconst 0, 1) := by decide +kernel
theorem dX4_clear_11 : decode cX4_clear 11 = .ok (.istore_n 3, 1) := by decide +kernel
theorem dX4_clear_12 : decode cX4_clear 12 = .ok (.iload_n 3, 1) := by decide +kernel
theorem dX4_clear_13 : decode cX4_clear 13 = .ok (.aload_n 0, 1) := by decide +kernel
theorem dX4_clear_14 : decode cX4_clear 14 = .ok (.getfield 15, 3) := by decide +kernel
theorem dX4_clear_17 : decode cX4_clear 17 = .ok (.arraylength, 1) := by decide +kernel
theorem dX4_clear_18 : decode cX4_clear 18 = .ok (.if_icmp .ge 16, 3) := by decide +kernel
theorem dX4_clear_21 : decode cX4_clear 21 = .ok (.aload_n 0, 1) := by decide +kernel
theorem dX4_clear_22 : decode cX4_clear 22 = .ok (.getfield 15, 3) := by decide +kernel
theorem dX4_clear_25 : decode cX4_clear 25 = .ok (.iload_n 3, 1) := by decide +kernel
theorem dX4_clear_26 : decode cX4_clear 26 = .ok (.lconst 0, 1) := by decide +kernel
theorem dX4_clear_27 : decode cX4_clear 27 = .ok (.lastore, 1) := by decide +kernel
theorem dX4_clear_28 : decode cX4_clear 28 = .ok (.iinc 3 1, 3) := by decide +kernel
theorem dX4_clear_31 : decode cX4_clear 31 = .ok (.goto (-19), 3) := by decide +kernel
theorem dX4_clear_34 : decode cX4_clear 34 = .ok (.return_, 1) := by decide +kernel
theorem dX4_has_0 : decode cX4_has 0 = .ok (.iload_n 1, 1) := by decide +kernel
theorem dX4_has_1 : decode cX4_has 1 = .ok (.ifCond .lt 24, 3) := by decide +kernel
theorem dX4_has_4 : decode cX4_has 4 = .ok (.iload_n 1, 1) := by decide +kernel
theorem dX4_has_5 : decode cX4_has 5 = .ok (.aload_n 0, 1) := by decide +kernel
theorem dX4_has_6 : decode cX4_has 6 = .ok (.getfield 19, 3) := by decide +kernel
theorem dX4_has_9 : decode cX4_has 9 = .ok (.if_icmp .ge 16, 3) := by decide +kernel
theorem dX4_has_12 : decode cX4_has 12 = .ok (.iload_n 1, 1) := by decide +kernel
theorem dX4_has_13 : decode cX4_has 13 = .ok (.aload_n 0, 1) := by decide +kernel
theorem dX4_has_14 : decode cX4_has 14 = .ok (.getfield 15, 3) := by decide +kernel
theorem dX4_has_17 : decode cX4_has 17 = .ok (.arraylength, 1) := by decide +kernel
theorem dX4_has_18 : decode cX4_has 18 = .ok (.if_icmp .ge 7, 3) := by decide +kernel
theorem dX4_has_21 : decode cX4_has 21 = .ok (.iconst 1, 1) := by decide +kernel
theorem dX4_has_22 : decode cX4_has 22 = .ok (.goto 4, 3) := by decide +kernel
theorem dX4_has_25 : decode cX4_has 25 = .ok (.iconst 0, 1) := by decide +kernel
theorem dX4_has_26 : decode cX4_has 26 = .ok (.ireturn, 1) := by decide +kernel
theorem dX4_hasRun_0 : decode cX4_hasRun 0 = .ok (.iload_n 2, 1) := by decide +kernel
theorem dX4_hasRun_1 : decode cX4_hasRun 1 = .ok (.ifCond .lt 33, 3) := by decide +kernel
theorem dX4_hasRun_4 : decode cX4_hasRun 4 = .ok (.iload_n 1, 1) := by decide +kernel
theorem dX4_hasRun_5 : decode cX4_hasRun 5 = .ok (.ifCond .lt 29, 3) := by decide +kernel
theorem dX4_hasRun_8 : decode cX4_hasRun 8 = .ok (.iload_n 1, 1) := by decide +kernel
theorem dX4_hasRun_9 : decode cX4_hasRun 9 = .ok (.aload_n 0, 1) := by decide +kernel
theorem dX4_hasRun_10 : decode cX4_hasRun 10 = .ok (.getfield 19, 3) := by decide +kernel
theorem dX4_hasRun_13 : decode cX4_hasRun 13 = .ok (.iload_n 2, 1) := by decide +kernel
theorem dX4_hasRun_14 : decode cX4_hasRun 14 = .ok (.isub, 1) := by decide +kernel
theorem dX4_hasRun_15 : decode cX4_hasRun 15 = .ok (.if_icmp .gt 19, 3) := by decide +kernel
theorem dX4_hasRun_18 : decode cX4_hasRun 18 = .ok (.aload_n 0, 1) := by decide +kernel
theorem dX4_hasRun_19 : decode cX4_hasRun 19 = .ok (.getfield 19, 3) := by decide +kernel
theorem dX4_hasRun_22 : decode cX4_hasRun 22 = .ok (.aload_n 0, 1) := by decide +kernel
theorem dX4_hasRun_23 : decode cX4_hasRun 23 = .ok (.getfield 15, 3) := by decide +kernel
theorem dX4_hasRun_26 : decode cX4_hasRun 26 = .ok (.arraylength, 1) := by decide +kernel
theorem dX4_hasRun_27 : decode cX4_hasRun 27 = .ok (.if_icmp .gt 7, 3) := by decide +kernel
theorem dX4_hasRun_30 : decode cX4_hasRun 30 = .ok (.iconst 1, 1) := by decide +kernel
theorem dX4_hasRun_31 : decode cX4_hasRun 31 = .ok (.goto 4, 3) := by decide +kernel
theorem dX4_hasRun_34 : decode cX4_hasRun 34 = .ok (.iconst 0, 1) := by decide +kernel
theorem dX4_hasRun_35 : decode cX4_hasRun 35 = .ok (.ireturn, 1) := by decide +kernel
theorem dX4_asItem_0 : decode cX4_asItem 0 = .ok (.aload_n 0, 1) := by decide +kernel
theorem dX4_asItem_1 : decode cX4_asItem 1 = .ok (.getfield 9, 3) := by decide +kernel
theorem dX4_asItem_4 : decode cX4_asItem 4 = .ok (.tableswitch 62 0 4 #[36, 41, 46, 62, 50], 36) := by decide +kernel
theorem dX4_asItem_40 : decode cX4_asItem 40 = .ok (.lload_n 1, 1) := by decide +kernel
theorem dX4_asItem_41 : decode cX4_asItem 41 = .ok (.l2i, 1) := by decide +kernel
theorem dX4_asItem_42 : decode cX4_asItem 42 = .ok (.i2b, 1) := by decide +kernel
theorem dX4_asItem_43 : decode cX4_asItem 43 = .ok (.i2l, 1) := by decide +kernel
theorem dX4_asItem_44 : decode cX4_asItem 44 = .ok (.lreturn, 1) := by decide +kernel
theorem dX4_asItem_45 : decode cX4_asItem 45 = .ok (.lload_n 1, 1) := by decide +kernel
theorem dX4_asItem_46 : decode cX4_asItem 46 = .ok (.l2i, 1) := by decide +kernel
theorem dX4_asItem_47 : decode cX4_asItem 47 = .ok (.i2s, 1) := by decide +kernel
theorem dX4_asItem_48 : decode cX4_asItem 48 = .ok (.i2l, 1) := by decide +kernel
theorem dX4_asItem_49 : decode cX4_asItem 49 = .ok (.lreturn, 1) := by decide +kernel
theorem dX4_asItem_50 : decode cX4_asItem 50 = .ok (.lload_n 1, 1) := by decide +kernel
theorem dX4_asItem_51 : decode cX4_asItem 51 = .ok (.l2i, 1) := by decide +kernel
theorem dX4_asItem_52 : decode cX4_asItem 52 = .ok (.i2l, 1) := by decide +kernel
theorem dX4_asItem_53 : decode cX4_asItem 53 = .ok (.lreturn, 1) := by decide +kernel
theorem dX4_asItem_54 : decode cX4_asItem 54 = .ok (.lload_n 1, 1) := by decide +kernel
theorem dX4_asItem_55 : decode cX4_asItem 55 = .ok (.lconst 0, 1) := by decide +kernel
theorem dX4_asItem_56 : decode cX4_asItem 56 = .ok (.lcmp, 1) := by decide +kernel
theorem dX4_asItem_57 : decode cX4_asItem 57 = .ok (.ifCond .eq 7, 3) := by decide +kernel
theorem dX4_asItem_60 : decode cX4_asItem 60 = .ok (.lconst 1, 1) := by decide +kernel
theorem dX4_asItem_61 : decode cX4_asItem 61 = .ok (.goto 4, 3) := by decide +kernel
theorem dX4_asItem_64 : decode cX4_asItem 64 = .ok (.lconst 0, 1) := by decide +kernel
theorem dX4_asItem_65 : decode cX4_asItem 65 = .ok (.lreturn, 1) := by decide +kernel
theorem dX4_asItem_66 : decode cX4_asItem 66 = .ok (.lload_n 1, 1) := by decide +kernel
theorem dX4_asItem_67 : decode cX4_asItem 67 = .ok (.lreturn, 1) := by decide +kernel
theorem dX5_init_0 : decode cX5_init 0 = .ok (.aload_n 0, 1) := by decide +kernel
theorem dX5_init_1 : decode cX5_init 1 = .ok (.invokespecial 3, 3) := by decide +kernel
theorem dX5_init_4 : decode cX5_init 4 = .ok (.aload_n 0, 1) := by decide +kernel
theorem dX5_init_5 : decode cX5_init 5 = .ok (.bipush 100, 2) := by decide +kernel
theorem dX5_init_7 : decode cX5_init 7 = .ok (.newarray .byte, 2) := by decide +kernel
theorem dX5_init_9 : decode cX5_init 9 = .ok (.putfield 9, 3) := by decide +kernel
theorem dX5_init_12 : decode cX5_init 12 = .ok (.aload_n 0, 1) := by decide +kernel
theorem dX5_init_13 : decode cX5_init 13 = .ok (.bipush 12, 2) := by decide +kernel
theorem dX5_init_15 : decode cX5_init 15 = .ok (.newarray .int, 2) := by decide +kernel
theorem dX5_init_17 : decode cX5_init 17 = .ok (.putfield 15, 3) := by decide +kernel
theorem dX5_init_20 : decode cX5_init 20 = .ok (.aload_n 0, 1) := by decide +kernel
theorem dX5_init_21 : decode cX5_init 21 = .ok (.bipush 12, 2) := by decide +kernel
theorem dX5_init_23 : decode cX5_init 23 = .ok (.newarray .int, 2) := by decide +kernel
theorem dX5_init_25 : decode cX5_init 25 = .ok (.putfield 19, 3) := by decide +kernel
theorem dX5_init_28 : decode cX5_init 28 = .ok (.return_, 1) := by decide +kernel
theorem dX5_add_0 : decode cX5_add 0 = .ok (.aload_n 0, 1) := by decide +kernel
theorem dX5_add_1 : decode cX5_add 1 = .ok (.getfield 22, 3) := by decide +kernel
theorem dX5_add_4 : decode cX5_add 4 = .ok (.ifCond .lt 36, 3) := by decide +kernel
theorem dX5_add_7 : decode cX5_add 7 = .ok (.aload_n 0, 1) := by decide +kernel
theorem dX5_add_8 : decode cX5_add 8 = .ok (.getfield 22, 3) := by decide +kernel
theorem dX5_add_11 : decode cX5_add 11 = .ok (.aload_n 0, 1) := by decide +kernel
theorem dX5_add_12 : decode cX5_add 12 = .ok (.getfield 9, 3) := by decide +kernel
theorem dX5_add_15 : decode cX5_add 15 = .ok (.arraylength, 1) := by decide +kernel
theorem dX5_add_16 : decode cX5_add 16 = .ok (.if_icmp .ge 24, 3) := by decide +kernel
theorem dX5_add_19 : decode cX5_add 19 = .ok (.aload_n 0, 1) := by decide +kernel
theorem dX5_add_20 : decode cX5_add 20 = .ok (.getfield 9, 3) := by decide +kernel
theorem dX5_add_23 : decode cX5_add 23 = .ok (.aload_n 0, 1) := by decide +kernel
theorem dX5_add_24 : decode cX5_add 24 = .ok (.getfield 22, 3) := by decide +kernel
theorem dX5_add_27 : decode cX5_add 27 = .ok (.iload_n 1, 1) := by decide +kernel
theorem dX5_add_28 : decode cX5_add 28 = .ok (.i2b, 1) := by decide +kernel
theorem dX5_add_29 : decode cX5_add 29 = .ok (.bastore, 1) := by decide +kernel
theorem dX5_add_30 : decode cX5_add 30 = .ok (.aload_n 0, 1) := by decide +kernel
theorem dX5_add_31 : decode cX5_add 31 = .ok (.dup, 1) := by decide +kernel
theorem dX5_add_32 : decode cX5_add 32 = .ok (.getfield 22, 3) := by decide +kernel
theorem dX5_add_35 : decode cX5_add 35 = .ok (.iconst 1, 1) := by decide +kernel
theorem dX5_add_36 : decode cX5_add 36 = .ok (.iadd, 1) := by decide +kernel
theorem dX5_add_37 : decode cX5_add 37 = .ok (.putfield 22, 3) := by decide +kernel
theorem dX5_add_40 : decode cX5_add 40 = .ok (.return_, 1) := by decide +kernel
theorem dX5_parse_0 : decode cX5_parse 0 = .ok (.aload_n 0, 1) := by decide +kernel
theorem dX5_parse_1 : decode cX5_parse 1 = .ok (.iconst 0, 1) := by decide +kernel
theorem dX5_parse_2 : decode cX5_parse 2 = .ok (.putfield 26, 3) := by decide +kernel
theorem dX5_parse_5 : decode cX5_parse 5 = .ok (.iconst 0, 1) := by decide +kernel
theorem dX5_parse_6 : decode cX5_parse 6 = .ok (.istore_n 1, 1) := by decide +kernel
theorem dX5_parse_7 : decode cX5_parse 7 = .ok (.iconst 0, 1) := by decide +kernel
theorem dX5_parse_8 : decode cX5_parse 8 = .ok (.istore_n 2, 1) := by decide +kernel
theorem dX5_parse_9 : decode cX5_parse 9 = .ok (.iload_n 2, 1) := by decide +kernel
theorem dX5_parse_10 : decode cX5_parse 10 = .ok (.bipush 12, 2) := by decide +kernel
theorem dX5_parse_12 : decode cX5_parse 12 = .ok (.if_icmp .ge 145, 3) := by decide +kernel
theorem dX5_parse_15 : decode cX5_parse 15 = .ok (.aload_n 0, 1) := by decide +kernel
theorem dX5_parse_16 : decode cX5_parse 16 = .ok (.iload_n 1, 1) := by decide +kernel
theorem dX5_parse_17 : decode cX5_parse 17 = .ok (.invokevirtual 29, 3) := by decide +kernel
theorem dX5_parse_20 : decode cX5_parse 20 = .ok (.istore_n 3, 1) := by decide +kernel
theorem dX5_parse_21 : decode cX5_parse 21 = .ok (.iload_n 3, 1) := by decide +kernel
theorem dX5_parse_22 : decode cX5_parse 22 = .ok (.iconst (-1), 1) := by decide +kernel
theorem dX5_parse_23 : decode cX5_parse 23 = .ok (.if_icmp .ne 5, 3) := by decide +kernel
theorem dX5_parse_26 : decode cX5_parse 26 = .ok (.iload_n 1, 1) := by decide +kernel
theorem dX5_parse_27 : decode cX5_parse 27 = .ok (.ireturn, 1) := by decide +kernel
theorem dX5_parse_28 : decode cX5_parse 28 = .ok (.aload_n 0, 1) := by decide +kernel
theorem dX5_parse_29 : decode cX5_parse 29 = .ok (.iload_n 1, 1) := by decide +kernel
theorem dX5_parse_30 : decode cX5_parse 30 = .ok (.iconst 1, 1) := by decide +kernel
theorem dX5_parse_31 : decode cX5_parse 31 = .ok (.iadd, 1) := by decide +kernel
theorem dX5_parse_32 : decode cX5_parse 32 = .ok (.invokevirtual 33, 3) := by decide +kernel
theorem dX5_parse_35 : decode cX5_parse 35 = .ok (.bipush 45, 2) := by decide +kernel
theorem dX5_parse_37 : decode cX5_parse 37 = .ok (.if_icmp .ne 9, 3) := by decide +kernel
theorem dX5_parse_40 : decode cX5_parse 40 = .ok (.iload_n 1, 1) := by decide +kernel
theorem dX5_parse_41 : decode cX5_parse 41 = .ok (.iconst 2, 1) := by decide +kernel
theorem dX5_parse_42 : decode cX5_parse 42 = .ok (.iadd, 1) := by decide +kernel
theorem dX5_parse_43 : decode cX5_parse 43 = .ok (.goto 6, 3) := by decide +kernel
theorem dX5_parse_46 : decode cX5_parse 46 = .ok (.iload_n 1, 1) := by decide +kernel
theorem dX5_parse_47 : decode cX5_parse 47 = .ok (.iconst 1, 1) := by decide +kernel
theorem dX5_parse_48 : decode cX5_parse 48 = .ok (.iadd, 1) := by decide +kernel
theorem dX5_parse_49 : decode cX5_parse 49 = .ok (.istore 4, 2) := by decide +kernel
theorem dX5_parse_51 : decode cX5_parse 51 = .ok (.aload_n 0, 1) := by decide +kernel
theorem dX5_parse_52 : decode cX5_parse 52 = .ok (.iload 4, 2) := by decide +kernel
theorem dX5_parse_54 : decode cX5_parse 54 = .ok (.invokevirtual 36, 3) := by decide +kernel
theorem dX5_parse_57 : decode cX5_parse 57 = .ok (.istore 5, 2) := by decide +kernel
theorem dX5_parse_59 : decode cX5_parse 59 = .ok (.iload 5, 2) := by decide +kernel
theorem dX5_parse_61 : decode cX5_parse 61 = .ok (.iload 4, 2) := by decide +kernel
theorem dX5_parse_63 : decode cX5_parse 63 = .ok (.if_icmp .ne 6, 3) := by decide +kernel
theorem dX5_parse_66 : decode cX5_parse 66 = .ok (.iload 5, 2) := by decide +kernel
theorem dX5_parse_68 : decode cX5_parse 68 = .ok (.ireturn, 1) := by decide +kernel
theorem dX5_parse_69 : decode cX5_parse 69 = .ok (.aload_n 0, 1) := by decide +kernel
theorem dX5_parse_70 : decode cX5_parse 70 = .ok (.getfield 15, 3) := by decide +kernel
theorem dX5_parse_73 : decode cX5_parse 73 = .ok (.iload_n 2, 1) := by decide +kernel
theorem dX5_parse_74 : decode cX5_parse 74 = .ok (.iload_n 3, 1) := by decide +kernel
theorem dX5_parse_75 : decode cX5_parse 75 = .ok (.iastore, 1) := by decide +kernel
theorem dX5_parse_76 : decode cX5_parse 76 = .ok (.aload_n 0, 1) := by decide +kernel
theorem dX5_parse_77 : decode cX5_parse 77 = .ok (.getfield 19, 3) := by decide +kernel
theorem dX5_parse_80 : decode cX5_parse 80 = .ok (.iload_n 2, 1) := by decide +kernel
theorem dX5_parse_81 : decode cX5_parse 81 = .ok (.aload_n 0, 1) := by decide +kernel
theorem dX5_parse_82 : decode cX5_parse 82 = .ok (.iload_n 1, 1) := by decide +kernel
theorem dX5_parse_83 : decode cX5_parse 83 = .ok (.iconst 1, 1) := by decide +kernel
theorem dX5_parse_84 : decode cX5_parse 84 = .ok (.iadd, 1) := by decide +kernel
theorem dX5_parse_85 : decode cX5_parse 85 = .ok (.invokevirtual 33, 3) := by decide +kernel
theorem dX5_parse_88 : decode cX5_parse 88 = .ok (.bipush 45, 2) := by decide +kernel
theorem dX5_parse_90 : decode cX5_parse 90 = .ok (.if_icmp .ne 15, 3) := by decide +kernel
theorem dX5_parse_93 : decode cX5_parse 93 = .ok (.aload_n 0, 1) := by decide +kernel
theorem dX5_parse_94 : decode cX5_parse 94 = .ok (.iload 4, 2) := by decide +kernel
theorem dX5_parse_96 : decode cX5_parse 96 = .ok (.iload 5, 2) := by decide +kernel
theorem dX5_parse_98 : decode cX5_parse 98 = .ok (.invokevirtual 39, 3) := by decide +kernel
theorem dX5_parse_101 : decode cX5_parse 101 = .ok (.ineg, 1) := by decide +kernel
theorem dX5_parse_102 : decode cX5_parse 102 = .ok (.goto 11, 3) := by decide +kernel
theorem dX5_parse_105 : decode cX5_parse 105 = .ok (.aload_n 0, 1) := by decide +kernel
theorem dX5_parse_106 : decode cX5_parse 106 = .ok (.iload 4, 2) := by decide +kernel
theorem dX5_parse_108 : decode cX5_parse 108 = .ok (.iload 5, 2) := by decide +kernel
theorem dX5_parse_110 : decode cX5_parse 110 = .ok (.invokevirtual 39, 3) := by decide +kernel
theorem dX5_parse_113 : decode cX5_parse 113 = .ok (.iastore, 1) := by decide +kernel
theorem dX5_parse_114 : decode cX5_parse 114 = .ok (.aload_n 0, 1) := by decide +kernel
theorem dX5_parse_115 : decode cX5_parse 115 = .ok (.iload_n 2, 1) := by decide +kernel
theorem dX5_parse_116 : decode cX5_parse 116 = .ok (.iconst 1, 1) := by decide +kernel
theorem dX5_parse_117 : decode cX5_parse 117 = .ok (.iadd, 1) := by decide +kernel
theorem dX5_parse_118 : decode cX5_parse 118 = .ok (.putfield 26, 3) := by decide +kernel
theorem dX5_parse_121 : decode cX5_parse 121 = .ok (.iload 5, 2) := by decide +kernel
theorem dX5_parse_123 : decode cX5_parse 123 = .ok (.aload_n 0, 1) := by decide +kernel
theorem dX5_parse_124 : decode cX5_parse 124 = .ok (.getfield 22, 3) := by decide +kernel
theorem dX5_parse_127 : decode cX5_parse 127 = .ok (.if_icmp .ne 5, 3) := by decide +kernel
theorem dX5_parse_130 : decode cX5_parse 130 = .ok (.iconst (-1), 1) := by decide +kernel
theorem dX5_parse_131 : decode cX5_parse 131 = .ok (.ireturn, 1) := by decide +kernel
theorem dX5_parse_132 : decode cX5_parse 132 = .ok (.aload_n 0, 1) := by decide +kernel
theorem dX5_parse_133 : decode cX5_parse 133 = .ok (.iload 5, 2) := by decide +kernel
theorem dX5_parse_135 : decode cX5_parse 135 = .ok (.invokevirtual 33, 3) := by decide +kernel
theorem dX5_parse_138 : decode cX5_parse 138 = .ok (.bipush 59, 2) := by decide +kernel
theorem dX5_parse_140 : decode cX5_parse 140 = .ok (.if_icmp .eq 6, 3) := by decide +kernel
theorem dX5_parse_143 : decode cX5_parse 143 = .ok (.iload 5, 2) := by decide +kernel
theorem dX5_parse_145 : decode cX5_parse 145 = .ok (.ireturn, 1) := by decide +kernel
theorem dX5_parse_146 : decode cX5_parse 146 = .ok (.iload 5, 2) := by decide +kernel
theorem dX5_parse_148 : decode cX5_parse 148 = .ok (.iconst 1, 1) := by decide +kernel
theorem dX5_parse_149 : decode cX5_parse 149 = .ok (.iadd, 1) := by decide +kernel
theorem dX5_parse_150 : decode cX5_parse 150 = .ok (.istore_n 1, 1) := by decide +kernel
theorem dX5_parse_151 : decode cX5_parse 151 = .ok (.iinc 2 1, 3) := by decide +kernel
theorem dX5_parse_154 : decode cX5_parse 154 = .ok (.goto (-145), 3) := by decide +kernel
theorem dX5_parse_157 : decode cX5_parse 157 = .ok (.iload_n 1, 1) := by decide +kernel
theorem dX5_parse_158 : decode cX5_parse 158 = .ok (.iconst 1, 1) := by decide +kernel
theorem dX5_parse_159 : decode cX5_parse 159 = .ok (.isub, 1) := by decide +kernel
theorem dX5_parse_160 : decode cX5_parse 160 = .ok (.ireturn, 1) := by decide +kernel
theorem dX5_signAt_0 : decode cX5_signAt 0 = .ok (.iload_n 1, 1) := by decide +kernel
theorem dX5_signAt_1 : decode cX5_signAt 1 = .ok (.ifCond .lt 29, 3) := by decide +kernel
theorem dX5_signAt_4 : decode cX5_signAt 4 = .ok (.iload_n 1, 1) := by decide +kernel
theorem dX5_signAt_5 : decode cX5_signAt 5 = .ok (.aload_n 0, 1) := by decide +kernel
theorem dX5_signAt_6 : decode cX5_signAt 6 = .ok (.getfield 22, 3) := by decide +kernel
theorem dX5_signAt_9 : decode cX5_signAt 9 = .ok (.if_icmp .ge 21, 3) := by decide +kernel
theorem dX5_signAt_12 : decode cX5_signAt 12 = .ok (.iload_n 1, 1) := by decide +kernel
theorem dX5_signAt_13 : decode cX5_signAt 13 = .ok (.aload_n 0, 1) := by decide +kernel
theorem dX5_signAt_14 : decode cX5_signAt 14 = .ok (.getfield 9, 3) := by decide +kernel
theorem dX5_signAt_17 : decode cX5_signAt 17 = .ok (.arraylength, 1) := by decide +kernel
theorem dX5_signAt_18 : decode cX5_signAt 18 = .ok (.if_icmp .ge 12, 3) := by decide +kernel
theorem dX5_signAt_21 : decode cX5_signAt 21 = .ok (.aload_n 0, 1) := by decide +kernel
theorem dX5_signAt_22 : decode cX5_signAt 22 = .ok (.getfield 9, 3) := by decide +kernel
theorem dX5_signAt_25 : decode cX5_signAt 25 = .ok (.iload_n 1, 1) := by decide +kernel
theorem dX5_signAt_26 : decode cX5_signAt 26 = .ok (.baload, 1) := by decide +kernel
theorem dX5_signAt_27 : decode cX5_signAt 27 = .ok (.goto 4, 3) := by decide +kernel
theorem dX5_signAt_30 : decode cX5_signAt 30 = .ok (.iconst (-1), 1) := by decide +kernel
theorem dX5_signAt_31 : decode cX5_signAt 31 = .ok (.ireturn, 1) := by decide +kernel
theorem dX5_letterAt_0 : decode cX5_letterAt 0 = .ok (.aload_n 0, 1) := by decide +kernel
theorem dX5_letterAt_1 : decode cX5_letterAt 1 = .ok (.iload_n 1, 1) := by decide +kernel
theorem dX5_letterAt_2 : decode cX5_letterAt 2 = .ok (.invokevirtual 33, 3) := by decide +kernel
theorem dX5_letterAt_5 : decode cX5_letterAt 5 = .ok (.istore_n 2, 1) := by decide +kernel
theorem dX5_letterAt_6 : decode cX5_letterAt 6 = .ok (.iconst 0, 1) := by decide +kernel
theorem dX5_letterAt_7 : decode cX5_letterAt 7 = .ok (.istore_n 3, 1) := by decide +kernel
theorem dX5_letterAt_8 : decode cX5_letterAt 8 = .ok (.iload_n 3, 1) := by decide +kernel
theorem dX5_letterAt_9 : decode cX5_letterAt 9 = .ok (.getstatic 43, 3) := by decide +kernel
theorem dX5_letterAt_12 : decode cX5_letterAt 12 = .ok (.arraylength, 1) := by decide +kernel
theorem dX5_letterAt_13 : decode cX5_letterAt 13 = .ok (.if_icmp .ge 20, 3) := by decide +kernel
theorem dX5_letterAt_16 : decode cX5_letterAt 16 = .ok (.getstatic 43, 3) := by decide +kernel
theorem dX5_letterAt_19 : decode cX5_letterAt 19 = .ok (.iload_n 3, 1) := by decide +kernel
theorem dX5_letterAt_20 : decode cX5_letterAt 20 = .ok (.caload, 1) := by decide +kernel
theorem dX5_letterAt_21 : decode cX5_letterAt 21 = .ok (.iload_n 2, 1) := by decide +kernel
theorem dX5_letterAt_22 : decode cX5_letterAt 22 = .ok (.if_icmp .ne 5, 3) := by decide +kernel
theorem dX5_letterAt_25 : decode cX5_letterAt 25 = .ok (.iload_n 3, 1) := by decide +kernel
theorem dX5_letterAt_26 : decode cX5_letterAt 26 = .ok (.ireturn, 1) := by decide +kernel
theorem dX5_letterAt_27 : decode cX5_letterAt 27 = .ok (.iinc 3 1, 3) := by decide +kernel
theorem dX5_letterAt_30 : decode cX5_letterAt 30 = .ok (.goto (-22), 3) := by decide +kernel
theorem dX5_letterAt_33 : decode cX5_letterAt 33 = .ok (.iconst (-1), 1) := by decide +kernel
theorem dX5_letterAt_34 : decode cX5_letterAt 34 = .ok (.ireturn, 1) := by decide +kernel
theorem dX5_digitsEnd_0 : decode cX5_digitsEnd 0 = .ok (.iload_n 1, 1) := by decide +kernel
theorem dX5_digitsEnd_1 : decode cX5_digitsEnd 1 = .ok (.istore_n 2, 1) := by decide +kernel
theorem dX5_digitsEnd_2 : decode cX5_digitsEnd 2 = .ok (.iload_n 2, 1) := by decide +kernel
theorem dX5_digitsEnd_3 : decode cX5_digitsEnd 3 = .ok (.iload_n 1, 1) := by decide +kernel
theorem dX5_digitsEnd_4 : decode cX5_digitsEnd 4 = .ok (.iconst 3, 1) := by decide +kernel
theorem dX5_digitsEnd_5 : decode cX5_digitsEnd 5 = .ok (.iadd, 1) := by decide +kernel
theorem dX5_digitsEnd_6 : decode cX5_digitsEnd 6 = .ok (.if_icmp .ge 24, 3) := by decide +kernel
theorem dX5_digitsEnd_9 : decode cX5_digitsEnd 9 = .ok (.aload_n 0, 1) := by decide +kernel
theorem dX5_digitsEnd_10 : decode cX5_digitsEnd 10 = .ok (.iload_n 2, 1) := by decide +kernel
theorem dX5_digitsEnd_11 : decode cX5_digitsEnd 11 = .ok (.invokevirtual 33, 3) := by decide +kernel
theorem dX5_digitsEnd_14 : decode cX5_digitsEnd 14 = .ok (.bipush 48, 2) := by decide +kernel
theorem dX5_digitsEnd_16 : decode cX5_digitsEnd 16 = .ok (.bipush 57, 2) := by decide +kernel
theorem dX5_digitsEnd_18 : decode cX5_digitsEnd 18 = .ok (.invokestatic 47, 3) := by decide +kernel
theorem dX5_digitsEnd_21 : decode cX5_digitsEnd 21 = .ok (.ifCond .eq 9, 3) := by decide +kernel
theorem dX5_digitsEnd_24 : decode cX5_digitsEnd 24 = .ok (.iinc 2 1, 3) := by decide +kernel
theorem dX5_digitsEnd_27 : decode cX5_digitsEnd 27 = .ok (.goto (-25), 3) := by decide +kernel
theorem dX5_digitsEnd_30 : decode cX5_digitsEnd 30 = .ok (.iload_n 2, 1) := by decide +kernel
theorem dX5_digitsEnd_31 : decode cX5_digitsEnd 31 = .ok (.ireturn, 1) := by decide +kernel
theorem dX5_number_0 : decode cX5_number 0 = .ok (.iconst 0, 1) := by decide +kernel
theorem dX5_number_1 : decode cX5_number 1 = .ok (.istore_n 3, 1) := by decide +kernel
theorem dX5_number_2 : decode cX5_number 2 = .ok (.iload_n 1, 1) := by decide +kernel
theorem dX5_number_3 : decode cX5_number 3 = .ok (.istore 4, 2) := by decide +kernel
theorem dX5_number_5 : decode cX5_number 5 = .ok (.iload 4, 2) := by decide +kernel
theorem dX5_number_7 : decode cX5_number 7 = .ok (.iload_n 2, 1) := by decide +kernel
theorem dX5_number_8 : decode cX5_number 8 = .ok (.if_icmp .ge 24, 3) := by decide +kernel
theorem dX5_number_11 : decode cX5_number 11 = .ok (.iload_n 3, 1) := by decide +kernel
theorem dX5_number_12 : decode cX5_number 12 = .ok (.bipush 10, 2) := by decide +kernel
theorem dX5_number_14 : decode cX5_number 14 = .ok (.imul, 1) := by decide +kernel
theorem dX5_number_15 : decode cX5_number 15 = .ok (.aload_n 0, 1) := by decide +kernel
theorem dX5_number_16 : decode cX5_number 16 = .ok (.iload 4, 2) := by decide +kernel
theorem dX5_number_18 : decode cX5_number 18 = .ok (.invokevirtual 33, 3) := by decide +kernel
theorem dX5_number_21 : decode cX5_number 21 = .ok (.iadd, 1) := by decide +kernel
theorem dX5_number_22 : decode cX5_number 22 = .ok (.bipush 48, 2) := by decide +kernel
theorem dX5_number_24 : decode cX5_number 24 = .ok (.isub, 1) := by decide +kernel
theorem dX5_number_25 : decode cX5_number 25 = .ok (.istore_n 3, 1) := by decide +kernel
theorem dX5_number_26 : decode cX5_number 26 = .ok (.iinc 4 1, 3) := by decide +kernel
theorem dX5_number_29 : decode cX5_number 29 = .ok (.goto (-24), 3) := by decide +kernel
theorem dX5_number_32 : decode cX5_number 32 = .ok (.iload_n 3, 1) := by decide +kernel
theorem dX5_number_33 : decode cX5_number 33 = .ok (.ireturn, 1) := by decide +kernel
theorem dX6_init_0 : decode cX6_init 0 = .ok (.aload_n 0, 1) := by decide +kernel
theorem dX6_init_1 : decode cX6_init 1 = .ok (.invokespecial 3, 3) := by decide +kernel
theorem dX6_init_4 : decode cX6_init 4 = .ok (.aload_n 0, 1) := by decide +kernel
theorem dX6_init_5 : decode cX6_init 5 = .ok (.iconst 4, 1) := by decide +kernel
theorem dX6_init_6 : decode cX6_init 6 = .ok (.newarray .int, 2) := by decide +kernel
theorem dX6_init_8 : decode cX6_init 8 = .ok (.putfield 9, 3) := by decide +kernel
theorem dX6_init_11 : decode cX6_init 11 = .ok (.return_, 1) := by decide +kernel
theorem dX6_add_0 : decode cX6_add 0 = .ok (.aload_n 0, 1) := by decide +kernel
theorem dX6_add_1 : decode cX6_add 1 = .ok (.getfield 15, 3) := by decide +kernel
theorem dX6_add_4 : decode cX6_add 4 = .ok (.ifCond .lt 35, 3) := by decide +kernel
theorem dX6_add_7 : decode cX6_add 7 = .ok (.aload_n 0, 1) := by decide +kernel
theorem dX6_add_8 : decode cX6_add 8 = .ok (.getfield 15, 3) := by decide +kernel
theorem dX6_add_11 : decode cX6_add 11 = .ok (.aload_n 0, 1) := by decide +kernel
theorem dX6_add_12 : decode cX6_add 12 = .ok (.getfield 9, 3) := by decide +kernel
theorem dX6_add_15 : decode cX6_add 15 = .ok (.arraylength, 1) := by decide +kernel
theorem dX6_add_16 : decode cX6_add 16 = .ok (.if_icmp .ge 23, 3) := by decide +kernel
theorem dX6_add_19 : decode cX6_add 19 = .ok (.aload_n 0, 1) := by decide +kernel
theorem dX6_add_20 : decode cX6_add 20 = .ok (.getfield 9, 3) := by decide +kernel
theorem dX6_add_23 : decode cX6_add 23 = .ok (.aload_n 0, 1) := by decide +kernel
theorem dX6_add_24 : decode cX6_add 24 = .ok (.getfield 15, 3) := by decide +kernel
theorem dX6_add_27 : decode cX6_add 27 = .ok (.iload_n 1, 1) := by decide +kernel
theorem dX6_add_28 : decode cX6_add 28 = .ok (.iastore, 1) := by decide +kernel
theorem dX6_add_29 : decode cX6_add 29 = .ok (.aload_n 0, 1) := by decide +kernel
theorem dX6_add_30 : decode cX6_add 30 = .ok (.dup, 1) := by decide +kernel
theorem dX6_add_31 : decode cX6_add 31 = .ok (.getfield 15, 3) := by decide +kernel
theorem dX6_add_34 : decode cX6_add 34 = .ok (.iconst 1, 1) := by decide +kernel
theorem dX6_add_35 : decode cX6_add 35 = .ok (.iadd, 1) := by decide +kernel
theorem dX6_add_36 : decode cX6_add 36 = .ok (.putfield 15, 3) := by decide +kernel
theorem dX6_add_39 : decode cX6_add 39 = .ok (.return_, 1) := by decide +kernel
theorem dX6_beatsOfOneTurn_0 : decode cX6_beatsOfOneTurn 0 = .ok (.ldc2_w 19, 3) := by decide +kernel
theorem dX6_beatsOfOneTurn_3 : decode cX6_beatsOfOneTurn 3 = .ok (.lstore_n 2, 1) := by decide +kernel
theorem dX6_beatsOfOneTurn_4 : decode cX6_beatsOfOneTurn 4 = .ok (.iconst 0, 1) := by decide +kernel
theorem dX6_beatsOfOneTurn_5 : decode cX6_beatsOfOneTurn 5 = .ok (.istore 4, 2) := by decide +kernel
theorem dX6_beatsOfOneTurn_7 : decode cX6_beatsOfOneTurn 7 = .ok (.iload 4, 2) := by decide +kernel
theorem dX6_beatsOfOneTurn_9 : decode cX6_beatsOfOneTurn 9 = .ok (.iload_n 1, 1) := by decide +kernel
theorem dX6_beatsOfOneTurn_10 : decode cX6_beatsOfOneTurn 10 = .ok (.if_icmp .gt 30, 3) := by decide +kernel
theorem dX6_beatsOfOneTurn_13 : decode cX6_beatsOfOneTurn 13 = .ok (.iload 4, 2) := by decide +kernel
theorem dX6_beatsOfOneTurn_15 : decode cX6_beatsOfOneTurn 15 = .ok (.aload_n 0, 1) := by decide +kernel
theorem dX6_beatsOfOneTurn_16 : decode cX6_beatsOfOneTurn 16 = .ok (.getfield 9, 3) := by decide +kernel
theorem dX6_beatsOfOneTurn_19 : decode cX6_beatsOfOneTurn 19 = .ok (.arraylength, 1) := by decide +kernel
theorem dX6_beatsOfOneTurn_20 : decode cX6_beatsOfOneTurn 20 = .ok (.if_icmp .ge 20, 3) := by decide +kernel
theorem dX6_beatsOfOneTurn_23 : decode cX6_beatsOfOneTurn 23 = .ok (.lload_n 2, 1) := by decide +kernel
theorem dX6_beatsOfOneTurn_24 : decode cX6_beatsOfOneTurn 24 = .ok (.aload_n 0, 1) := by decide +kernel
theorem dX6_beatsOfOneTurn_25 : decode cX6_beatsOfOneTurn 25 = .ok (.getfield 9, 3) := by decide +kernel
theorem dX6_beatsOfOneTurn_28 : decode cX6_beatsOfOneTurn 28 = .ok (.iload 4, 2) := by decide +kernel
theorem dX6_beatsOfOneTurn_30 : decode cX6_beatsOfOneTurn 30 = .ok (.iaload, 1) := by decide +kernel
theorem dX6_beatsOfOneTurn_31 : decode cX6_beatsOfOneTurn 31 = .ok (.i2l, 1) := by decide +kernel
theorem dX6_beatsOfOneTurn_32 : decode cX6_beatsOfOneTurn 32 = .ok (.lmul, 1) := by decide +kernel
theorem dX6_beatsOfOneTurn_33 : decode cX6_beatsOfOneTurn 33 = .ok (.lstore_n 2, 1) := by decide +kernel
theorem dX6_beatsOfOneTurn_34 : decode cX6_beatsOfOneTurn 34 = .ok (.iinc 4 1, 3) := by decide +kernel
theorem dX6_beatsOfOneTurn_37 : decode cX6_beatsOfOneTurn 37 = .ok (.goto (-30), 3) := by decide +kernel
theorem dX6_beatsOfOneTurn_40 : decode cX6_beatsOfOneTurn 40 = .ok (.lload_n 2, 1) := by decide +kernel
theorem dX6_beatsOfOneTurn_41 : decode cX6_beatsOfOneTurn 41 = .ok (.lreturn, 1) := by decide +kernel
theorem dX6_copy_0 : decode cX6_copy 0 = .ok (.aload_n 0, 1) := by decide +kernel
theorem dX6_copy_1 : decode cX6_copy 1 = .ok (.aload_n 1, 1) := by decide +kernel
theorem dX6_copy_2 : decode cX6_copy 2 = .ok (.getfield 15, 3) := by decide +kernel
theorem dX6_copy_5 : decode cX6_copy 5 = .ok (.putfield 15, 3) := by decide +kernel
theorem dX6_copy_8 : decode cX6_copy 8 = .ok (.iconst 0, 1) := by decide +kernel
theorem dX6_copy_9 : decode cX6_copy 9 = .ok (.istore_n 2, 1) := by decide +kernel
theorem dX6_copy_10 : decode cX6_copy 10 = .ok (.iload_n 2, 1) := by decide +kernel
theorem dX6_copy_11 : decode cX6_copy 11 = .ok (.aload_n 0, 1) := by decide +kernel
theorem dX6_copy_12 : decode cX6_copy 12 = .ok (.getfield 9, 3) := by decide +kernel
theorem dX6_copy_15 : decode cX6_copy 15 = .ok (.arraylength, 1) := by decide +kernel
theorem dX6_copy_16 : decode cX6_copy 16 = .ok (.if_icmp .ge 30, 3) := by decide +kernel
theorem dX6_copy_19 : decode cX6_copy 19 = .ok (.iload_n 2, 1) := by decide +kernel
theorem dX6_copy_20 : decode cX6_copy 20 = .ok (.aload_n 1, 1) := by decide +kernel
theorem dX6_copy_21 : decode cX6_copy 21 = .ok (.getfield 9, 3) := by decide +kernel
theorem dX6_copy_24 : decode cX6_copy 24 = .ok (.arraylength, 1) := by decide +kernel
theorem dX6_copy_25 : decode cX6_copy 25 = .ok (.if_icmp .ge 21, 3) := by decide +kernel
theorem dX6_copy_28 : decode cX6_copy 28 = .ok (.aload_n 0, 1) := by decide +kernel
theorem dX6_copy_29 : decode cX6_copy 29 = .ok (.getfield 9, 3) := by decide +kernel
theorem dX6_copy_32 : decode cX6_copy 32 = .ok (.iload_n 2, 1) := by decide +kernel
theorem dX6_copy_33 : decode cX6_copy 33 = .ok (.aload_n 1, 1) := by decide +kernel
theorem dX6_copy_34 : decode cX6_copy 34 = .ok (.getfield 9, 3) := by decide +kernel
theorem dX6_copy_37 : decode cX6_copy 37 = .ok (.iload_n 2, 1) := by decide +kernel
theorem dX6_copy_38 : decode cX6_copy 38 = .ok (.iaload, 1) := by decide +kernel
theorem dX6_copy_39 : decode cX6_copy 39 = .ok (.iastore, 1) := by decide +kernel
theorem dX6_copy_40 : decode cX6_copy 40 = .ok (.iinc 2 1, 3) := by decide +kernel
theorem dX6_copy_43 : decode cX6_copy 43 = .ok (.goto (-33), 3) := by decide +kernel
theorem dX6_copy_46 : decode cX6_copy 46 = .ok (.return_, 1) := by decide +kernel
theorem dX7_init_0 : decode cX7_init 0 = .ok (.aload_n 0, 1) := by decide +kernel
theorem dX7_init_1 : decode cX7_init 1 = .ok (.invokespecial 1, 3) := by decide +kernel
theorem dX7_init_4 : decode cX7_init 4 = .ok (.aload_n 0, 1) := by decide +kernel
theorem dX7_init_5 : decode cX7_init 5 = .ok (.new 7, 3) := by decide +kernel
theorem dX7_init_8 : decode cX7_init 8 = .ok (.dup, 1) := by decide +kernel
theorem dX7_init_9 : decode cX7_init 9 = .ok (.iconst 1, 1) := by decide +kernel
theorem dX7_init_10 : decode cX7_init 10 = .ok (.invokespecial 9, 3) := by decide +kernel
theorem dX7_init_13 : decode cX7_init 13 = .ok (.putfield 12, 3) := by decide +kernel
theorem dX7_init_16 : decode cX7_init 16 = .ok (.aload_n 0, 1) := by decide +kernel
theorem dX7_init_17 : decode cX7_init 17 = .ok (.new 18, 3) := by decide +kernel
theorem dX7_init_20 : decode cX7_init 20 = .ok (.dup, 1) := by decide +kernel
theorem dX7_init_21 : decode cX7_init 21 = .ok (.invokespecial 20, 3) := by decide +kernel
theorem dX7_init_24 : decode cX7_init 24 = .ok (.putfield 21, 3) := by decide +kernel
theorem dX7_init_27 : decode cX7_init 27 = .ok (.aload_n 0, 1) := by decide +kernel
theorem dX7_init_28 : decode cX7_init 28 = .ok (.new 25, 3) := by decide +kernel
theorem dX7_init_31 : decode cX7_init 31 = .ok (.dup, 1) := by decide +kernel
theorem dX7_init_32 : decode cX7_init 32 = .ok (.invokespecial 27, 3) := by decide +kernel
theorem dX7_init_35 : decode cX7_init 35 = .ok (.putfield 28, 3) := by decide +kernel
theorem dX7_init_38 : decode cX7_init 38 = .ok (.aload_n 0, 1) := by decide +kernel
theorem dX7_init_39 : decode cX7_init 39 = .ok (.new 25, 3) := by decide +kernel
theorem dX7_init_42 : decode cX7_init 42 = .ok (.dup, 1) := by decide +kernel
theorem dX7_init_43 : decode cX7_init 43 = .ok (.invokespecial 27, 3) := by decide +kernel
theorem dX7_init_46 : decode cX7_init 46 = .ok (.putfield 32, 3) := by decide +kernel
theorem dX7_init_49 : decode cX7_init 49 = .ok (.return_, 1) := by decide +kernel
theorem dX7_copy_0 : decode cX7_copy 0 = .ok (.aload_n 0, 1) := by decide +kernel
theorem dX7_copy_1 : decode cX7_copy 1 = .ok (.getfield 12, 3) := by decide +kernel
theorem dX7_copy_4 : decode cX7_copy 4 = .ok (.aload_n 1, 1) := by decide +kernel
theorem dX7_copy_5 : decode cX7_copy 5 = .ok (.getfield 12, 3) := by decide +kernel
theorem dX7_copy_8 : decode cX7_copy 8 = .ok (.invokevirtual 35, 3) := by decide +kernel
theorem dX7_copy_11 : decode cX7_copy 11 = .ok (.aload_n 0, 1) := by decide +kernel
theorem dX7_copy_12 : decode cX7_copy 12 = .ok (.getfield 21, 3) := by decide +kernel
theorem dX7_copy_15 : decode cX7_copy 15 = .ok (.aload_n 1, 1) := by decide +kernel
theorem dX7_copy_16 : decode cX7_copy 16 = .ok (.getfield 21, 3) := by decide +kernel
theorem dX7_copy_19 : decode cX7_copy 19 = .ok (.invokevirtual 39, 3) := by decide +kernel
theorem dX7_copy_22 : decode cX7_copy 22 = .ok (.aload_n 0, 1) := by decide +kernel
theorem dX7_copy_23 : decode cX7_copy 23 = .ok (.getfield 28, 3) := by decide +kernel
theorem dX7_copy_26 : decode cX7_copy 26 = .ok (.aload_n 1, 1) := by decide +kernel
theorem dX7_copy_27 : decode cX7_copy 27 = .ok (.getfield 28, 3) := by decide +kernel
theorem dX7_copy_30 : decode cX7_copy 30 = .ok (.invokevirtual 42, 3) := by decide +kernel
theorem dX7_copy_33 : decode cX7_copy 33 = .ok (.aload_n 0, 1) := by decide +kernel
theorem dX7_copy_34 : decode cX7_copy 34 = .ok (.getfield 32, 3) := by decide +kernel
theorem dX7_copy_37 : decode cX7_copy 37 = .ok (.aload_n 1, 1) := by decide +kernel
theorem dX7_copy_38 : decode cX7_copy 38 = .ok (.getfield 32, 3) := by decide +kernel
theorem dX7_copy_41 : decode cX7_copy 41 = .ok (.invokevirtual 42, 3) := by decide +kernel
theorem dX7_copy_44 : decode cX7_copy 44 = .ok (.return_, 1) := by decide +kernel
end
section
theorem dX8_init_0 : decode cX8_init 0 = .ok (.aload_n 0, 1) := by decide +kernel
theorem dX8_init_1 : decode cX8_init 1 = .ok (.invokespecial 3, 3) := by decide +kernel
theorem dX8_init_4 : decode cX8_init 4 = .ok (.aload_n 0, 1) := by decide +kernel
theorem dX8_init_5 : decode cX8_init 5 = .ok (.new 9, 3) := by decide +kernel
theorem dX8_init_8 : decode cX8_init 8 = .ok (.dup, 1) := by decide +kernel
theorem dX8_init_9 : decode cX8_init 9 = .ok (.invokespecial 11, 3) := by decide +kernel
theorem dX8_init_12 : decode cX8_init 12 = .ok (.putfield 12, 3) := by decide +kernel
theorem dX8_init_15 : decode cX8_init 15 = .ok (.aload_n 0, 1) := by decide +kernel
theorem dX8_init_16 : decode cX8_init 16 = .ok (.new 9, 3) := by decide +kernel
theorem dX8_init_19 : decode cX8_init 19 = .ok (.dup, 1) := by decide +kernel
theorem dX8_init_20 : decode cX8_init 20 = .ok (.invokespecial 11, 3) := by decide +kernel
theorem dX8_init_23 : decode cX8_init 23 = .ok (.putfield 18, 3) := by decide +kernel
theorem dX8_init_26 : decode cX8_init 26 = .ok (.aload_n 0, 1) := by decide +kernel
theorem dX8_init_27 : decode cX8_init 27 = .ok (.new 21, 3) := by decide +kernel
theorem dX8_init_30 : decode cX8_init 30 = .ok (.dup, 1) := by decide +kernel
theorem dX8_init_31 : decode cX8_init 31 = .ok (.iconst 0, 1) := by decide +kernel
theorem dX8_init_32 : decode cX8_init 32 = .ok (.invokespecial 23, 3) := by decide +kernel
theorem dX8_init_35 : decode cX8_init 35 = .ok (.putfield 26, 3) := by decide +kernel
theorem dX8_init_38 : decode cX8_init 38 = .ok (.aload_n 0, 1) := by decide +kernel
theorem dX8_init_39 : decode cX8_init 39 = .ok (.new 30, 3) := by decide +kernel
theorem dX8_init_42 : decode cX8_init 42 = .ok (.dup, 1) := by decide +kernel
theorem dX8_init_43 : decode cX8_init 43 = .ok (.invokespecial 32, 3) := by decide +kernel
theorem dX8_init_46 : decode cX8_init 46 = .ok (.putfield 33, 3) := by decide +kernel
theorem dX8_init_49 : decode cX8_init 49 = .ok (.aload_n 0, 1) := by decide +kernel
theorem dX8_init_50 : decode cX8_init 50 = .ok (.new 37, 3) := by decide +kernel
theorem dX8_init_53 : decode cX8_init 53 = .ok (.dup, 1) := by decide +kernel
theorem dX8_init_54 : decode cX8_init 54 = .ok (.invokespecial 39, 3) := by decide +kernel
theorem dX8_init_57 : decode cX8_init 57 = .ok (.putfield 40, 3) := by decide +kernel
theorem dX8_init_60 : decode cX8_init 60 = .ok (.aload_n 0, 1) := by decide +kernel
theorem dX8_init_61 : decode cX8_init 61 = .ok (.bipush 6, 2) := by decide +kernel
theorem dX8_init_63 : decode cX8_init 63 = .ok (.anewarray 44, 3) := by decide +kernel
theorem dX8_init_66 : decode cX8_init 66 = .ok (.putfield 46, 3) := by decide +kernel
theorem dX8_init_69 : decode cX8_init 69 = .ok (.iconst 0, 1) := by decide +kernel
theorem dX8_init_70 : decode cX8_init 70 = .ok (.istore_n 1, 1) := by decide +kernel
theorem dX8_init_71 : decode cX8_init 71 = .ok (.iload_n 1, 1) := by decide +kernel
theorem dX8_init_72 : decode cX8_init 72 = .ok (.aload_n 0, 1) := by decide +kernel
theorem dX8_init_73 : decode cX8_init 73 = .ok (.getfield 46, 3) := by decide +kernel
theorem dX8_init_76 : decode cX8_init 76 = .ok (.arraylength, 1) := by decide +kernel
theorem dX8_init_77 : decode cX8_init 77 = .ok (.if_icmp .ge 22, 3) := by decide +kernel
theorem dX8_init_80 : decode cX8_init 80 = .ok (.aload_n 0, 1) := by decide +kernel
theorem dX8_init_81 : decode cX8_init 81 = .ok (.getfield 46, 3) := by decide +kernel
theorem dX8_init_84 : decode cX8_init 84 = .ok (.iload_n 1, 1) := by decide +kernel
theorem dX8_init_85 : decode cX8_init 85 = .ok (.new 44, 3) := by decide +kernel
theorem dX8_init_88 : decode cX8_init 88 = .ok (.dup, 1) := by decide +kernel
theorem dX8_init_89 : decode cX8_init 89 = .ok (.invokespecial 50, 3) := by decide +kernel
theorem dX8_init_92 : decode cX8_init 92 = .ok (.aastore, 1) := by decide +kernel
theorem dX8_init_93 : decode cX8_init 93 = .ok (.iinc 1 1, 3) := by decide +kernel
theorem dX8_init_96 : decode cX8_init 96 = .ok (.goto (-25), 3) := by decide +kernel
theorem dX8_init_99 : decode cX8_init 99 = .ok (.return_, 1) := by decide +kernel
theorem dX8_set_0 : decode cX8_set 0 = .ok (.iload_n 1, 1) := by decide +kernel
theorem dX8_set_1 : decode cX8_set 1 = .ok (.ifCond .lt 9, 3) := by decide +kernel
theorem dX8_set_4 : decode cX8_set 4 = .ok (.iload_n 1, 1) := by decide +kernel
theorem dX8_set_5 : decode cX8_set 5 = .ok (.bipush 6, 2) := by decide +kernel
theorem dX8_set_7 : decode cX8_set 7 = .ok (.if_icmp .le 7, 3) := by decide +kernel
theorem dX8_set_10 : decode cX8_set 10 = .ok (.sipush (-1000), 3) := by decide +kernel
theorem dX8_set_13 : decode cX8_set 13 = .ok (.ireturn, 1) := by decide +kernel
theorem dX8_set_14 : decode cX8_set 14 = .ok (.iload_n 1, 1) := by decide +kernel
theorem dX8_set_15 : decode cX8_set 15 = .ok (.iload_n 2, 1) := by decide +kernel
theorem dX8_set_16 : decode cX8_set 16 = .ok (.invokestatic 51, 3) := by decide +kernel
theorem dX8_set_19 : decode cX8_set 19 = .ok (.ifCond .ne 7, 3) := by decide +kernel
theorem dX8_set_22 : decode cX8_set 22 = .ok (.sipush (-1001), 3) := by decide +kernel
theorem dX8_set_25 : decode cX8_set 25 = .ok (.ireturn, 1) := by decide +kernel
theorem dX8_set_26 : decode cX8_set 26 = .ok (.aload_n 0, 1) := by decide +kernel
theorem dX8_set_27 : decode cX8_set 27 = .ok (.getfield 12, 3) := by decide +kernel
theorem dX8_set_30 : decode cX8_set 30 = .ok (.getfield 55, 3) := by decide +kernel
theorem dX8_set_33 : decode cX8_set 33 = .ok (.iload_n 1, 1) := by decide +kernel
theorem dX8_set_34 : decode cX8_set 34 = .ok (.invokevirtual 58, 3) := by decide +kernel
theorem dX8_set_37 : decode cX8_set 37 = .ok (.istore_n 3, 1) := by decide +kernel
theorem dX8_set_38 : decode cX8_set 38 = .ok (.aload_n 0, 1) := by decide +kernel
theorem dX8_set_39 : decode cX8_set 39 = .ok (.getfield 12, 3) := by decide +kernel
theorem dX8_set_42 : decode cX8_set 42 = .ok (.getfield 55, 3) := by decide +kernel
theorem dX8_set_45 : decode cX8_set 45 = .ok (.iload_n 1, 1) := by decide +kernel
theorem dX8_set_46 : decode cX8_set 46 = .ok (.iload_n 2, 1) := by decide +kernel
theorem dX8_set_47 : decode cX8_set 47 = .ok (.invokevirtual 62, 3) := by decide +kernel
theorem dX8_set_50 : decode cX8_set 50 = .ok (.iload_n 3, 1) := by decide +kernel
theorem dX8_set_51 : decode cX8_set 51 = .ok (.ireturn, 1) := by decide +kernel
theorem dX8_told_0 : decode cX8_told 0 = .ok (.iload_n 1, 1) := by decide +kernel
theorem dX8_told_1 : decode cX8_told 1 = .ok (.ifCond .lt 9, 3) := by decide +kernel
theorem dX8_told_4 : decode cX8_told 4 = .ok (.iload_n 1, 1) := by decide +kernel
theorem dX8_told_5 : decode cX8_told 5 = .ok (.bipush 12, 2) := by decide +kernel
theorem dX8_told_7 : decode cX8_told 7 = .ok (.if_icmp .le 7, 3) := by decide +kernel
theorem dX8_told_10 : decode cX8_told 10 = .ok (.sipush (-1000), 3) := by decide +kernel
theorem dX8_told_13 : decode cX8_told 13 = .ok (.ireturn, 1) := by decide +kernel
theorem dX8_told_14 : decode cX8_told 14 = .ok (.iload_n 1, 1) := by decide +kernel
theorem dX8_told_15 : decode cX8_told 15 = .ok (.bipush 12, 2) := by decide +kernel
theorem dX8_told_17 : decode cX8_told 17 = .ok (.if_icmp .ne 16, 3) := by decide +kernel
theorem dX8_told_20 : decode cX8_told 20 = .ok (.aload_n 0, 1) := by decide +kernel
theorem dX8_told_21 : decode cX8_told 21 = .ok (.getfield 12, 3) := by decide +kernel
theorem dX8_told_24 : decode cX8_told 24 = .ok (.getfield 66, 3) := by decide +kernel
theorem dX8_told_27 : decode cX8_told 27 = .ok (.getfield 70, 3) := by decide +kernel
theorem dX8_told_30 : decode cX8_told 30 = .ok (.goto 14, 3) := by decide +kernel
theorem dX8_told_33 : decode cX8_told 33 = .ok (.aload_n 0, 1) := by decide +kernel
theorem dX8_told_34 : decode cX8_told 34 = .ok (.getfield 12, 3) := by decide +kernel
theorem dX8_told_37 : decode cX8_told 37 = .ok (.getfield 55, 3) := by decide +kernel
theorem dX8_told_40 : decode cX8_told 40 = .ok (.iload_n 1, 1) := by decide +kernel
theorem dX8_told_41 : decode cX8_told 41 = .ok (.invokevirtual 58, 3) := by decide +kernel
theorem dX8_told_44 : decode cX8_told 44 = .ok (.ireturn, 1) := by decide +kernel
theorem dX8_push_0 : decode cX8_push 0 = .ok (.iload_n 2, 1) := by decide +kernel
theorem dX8_push_1 : decode cX8_push 1 = .ok (.ifCond .lt 8, 3) := by decide +kernel
theorem dX8_push_4 : decode cX8_push 4 = .ok (.iload_n 2, 1) := by decide +kernel
theorem dX8_push_5 : decode cX8_push 5 = .ok (.iconst 3, 1) := by decide +kernel
theorem dX8_push_6 : decode cX8_push 6 = .ok (.if_icmp .le 5, 3) := by decide +kernel
theorem dX8_push_9 : decode cX8_push 9 = .ok (.iconst (-1), 1) := by decide +kernel
theorem dX8_push_10 : decode cX8_push 10 = .ok (.ireturn, 1) := by decide +kernel
theorem dX8_push_11 : decode cX8_push 11 = .ok (.iload_n 1, 1) := by decide +kernel
theorem dX8_push_12 : decode cX8_push 12 = .ok (.aload_n 0, 1) := by decide +kernel
theorem dX8_push_13 : decode cX8_push 13 = .ok (.getfield 12, 3) := by decide +kernel
theorem dX8_push_16 : decode cX8_push 16 = .ok (.getfield 55, 3) := by decide +kernel
theorem dX8_push_19 : decode cX8_push 19 = .ok (.getfield 76, 3) := by decide +kernel
theorem dX8_push_22 : decode cX8_push 22 = .ok (.ldc 79, 2) := by decide +kernel
theorem dX8_push_24 : decode cX8_push 24 = .ok (.invokestatic 80, 3) := by decide +kernel
theorem dX8_push_27 : decode cX8_push 27 = .ok (.ifCond .eq 11, 3) := by decide +kernel
theorem dX8_push_30 : decode cX8_push 30 = .ok (.iload_n 2, 1) := by decide +kernel
theorem dX8_push_31 : decode cX8_push 31 = .ok (.iload_n 3, 1) := by decide +kernel
theorem dX8_push_32 : decode cX8_push 32 = .ok (.invokestatic 84, 3) := by decide +kernel
theorem dX8_push_35 : decode cX8_push 35 = .ok (.ifCond .ne 6, 3) := by decide +kernel
theorem dX8_push_38 : decode cX8_push 38 = .ok (.bipush (-2), 2) := by decide +kernel
theorem dX8_push_40 : decode cX8_push 40 = .ok (.ireturn, 1) := by decide +kernel
theorem dX8_push_41 : decode cX8_push 41 = .ok (.aload_n 0, 1) := by decide +kernel
theorem dX8_push_42 : decode cX8_push 42 = .ok (.getfield 12, 3) := by decide +kernel
theorem dX8_push_45 : decode cX8_push 45 = .ok (.getfield 55, 3) := by decide +kernel
theorem dX8_push_48 : decode cX8_push 48 = .ok (.getfield 87, 3) := by decide +kernel
theorem dX8_push_51 : decode cX8_push 51 = .ok (.getfield 91, 3) := by decide +kernel
theorem dX8_push_54 : decode cX8_push 54 = .ok (.bipush 8, 2) := by decide +kernel
theorem dX8_push_56 : decode cX8_push 56 = .ok (.if_icmp .lt 6, 3) := by decide +kernel
theorem dX8_push_59 : decode cX8_push 59 = .ok (.bipush (-4), 2) := by decide +kernel
theorem dX8_push_61 : decode cX8_push 61 = .ok (.ireturn, 1) := by decide +kernel
theorem dX8_push_62 : decode cX8_push 62 = .ok (.aload_n 0, 1) := by decide +kernel
theorem dX8_push_63 : decode cX8_push 63 = .ok (.getfield 12, 3) := by decide +kernel
theorem dX8_push_66 : decode cX8_push 66 = .ok (.getfield 55, 3) := by decide +kernel
theorem dX8_push_69 : decode cX8_push 69 = .ok (.getfield 87, 3) := by decide +kernel
theorem dX8_push_72 : decode cX8_push 72 = .ok (.iload_n 1, 1) := by decide +kernel
theorem dX8_push_73 : decode cX8_push 73 = .ok (.iload_n 2, 1) := by decide +kernel
theorem dX8_push_74 : decode cX8_push 74 = .ok (.iload_n 3, 1) := by decide +kernel
theorem dX8_push_75 : decode cX8_push 75 = .ok (.invokevirtual 96, 3) := by decide +kernel
theorem dX8_push_78 : decode cX8_push 78 = .ok (.aload_n 0, 1) := by decide +kernel
theorem dX8_push_79 : decode cX8_push 79 = .ok (.getfield 12, 3) := by decide +kernel
theorem dX8_push_82 : decode cX8_push 82 = .ok (.getfield 55, 3) := by decide +kernel
theorem dX8_push_85 : decode cX8_push 85 = .ok (.getfield 87, 3) := by decide +kernel
theorem dX8_push_88 : decode cX8_push 88 = .ok (.getfield 91, 3) := by decide +kernel
theorem dX8_push_91 : decode cX8_push 91 = .ok (.ireturn, 1) := by decide +kernel
theorem dX8_pushOf_0 : decode cX8_pushOf 0 = .ok (.aload_n 0, 1) := by decide +kernel
theorem dX8_pushOf_1 : decode cX8_pushOf 1 = .ok (.getfield 12, 3) := by decide +kernel
theorem dX8_pushOf_4 : decode cX8_pushOf 4 = .ok (.getfield 55, 3) := by decide +kernel
theorem dX8_pushOf_7 : decode cX8_pushOf 7 = .ok (.getfield 87, 3) := by decide +kernel
theorem dX8_pushOf_10 : decode cX8_pushOf 10 = .ok (.astore_n 3, 1) := by decide +kernel
theorem dX8_pushOf_11 : decode cX8_pushOf 11 = .ok (.iload_n 1, 1) := by decide +kernel
theorem dX8_pushOf_12 : decode cX8_pushOf 12 = .ok (.ifCond .lt 17, 3) := by decide +kernel
theorem dX8_pushOf_15 : decode cX8_pushOf 15 = .ok (.iload_n 1, 1) := by decide +kernel
theorem dX8_pushOf_16 : decode cX8_pushOf 16 = .ok (.aload_n 3, 1) := by decide +kernel
theorem dX8_pushOf_17 : decode cX8_pushOf 17 = .ok (.getfield 91, 3) := by decide +kernel
theorem dX8_pushOf_20 : decode cX8_pushOf 20 = .ok (.if_icmp .ge 9, 3) := by decide +kernel
theorem dX8_pushOf_23 : decode cX8_pushOf 23 = .ok (.iload_n 1, 1) := by decide +kernel
theorem dX8_pushOf_24 : decode cX8_pushOf 24 = .ok (.bipush 8, 2) := by decide +kernel
theorem dX8_pushOf_26 : decode cX8_pushOf 26 = .ok (.if_icmp .lt 7, 3) := by decide +kernel
theorem dX8_pushOf_29 : decode cX8_pushOf 29 = .ok (.sipush (-1000), 3) := by decide +kernel
theorem dX8_pushOf_32 : decode cX8_pushOf 32 = .ok (.ireturn, 1) := by decide +kernel
theorem dX8_pushOf_33 : decode cX8_pushOf 33 = .ok (.iload_n 2, 1) := by decide +kernel
theorem dX8_pushOf_34 : decode cX8_pushOf 34 = .ok (.tableswitch 47 0 2 #[26, 33, 40], 26) := by decide +kernel
theorem dX8_pushOf_60 : decode cX8_pushOf 60 = .ok (.aload_n 3, 1) := by decide +kernel
theorem dX8_pushOf_61 : decode cX8_pushOf 61 = .ok (.getfield 100, 3) := by decide +kernel
theorem dX8_pushOf_64 : decode cX8_pushOf 64 = .ok (.iload_n 1, 1) := by decide +kernel
theorem dX8_pushOf_65 : decode cX8_pushOf 65 = .ok (.iaload, 1) := by decide +kernel
theorem dX8_pushOf_66 : decode cX8_pushOf 66 = .ok (.ireturn, 1) := by decide +kernel
theorem dX8_pushOf_67 : decode cX8_pushOf 67 = .ok (.aload_n 3, 1) := by decide +kernel
theorem dX8_pushOf_68 : decode cX8_pushOf 68 = .ok (.getfield 104, 3) := by decide +kernel
theorem dX8_pushOf_71 : decode cX8_pushOf 71 = .ok (.iload_n 1, 1) := by decide +kernel
theorem dX8_pushOf_72 : decode cX8_pushOf 72 = .ok (.iaload, 1) := by decide +kernel
theorem dX8_pushOf_73 : decode cX8_pushOf 73 = .ok (.ireturn, 1) := by decide +kernel
theorem dX8_pushOf_74 : decode cX8_pushOf 74 = .ok (.aload_n 3, 1) := by decide +kernel
theorem dX8_pushOf_75 : decode cX8_pushOf 75 = .ok (.getfield 107, 3) := by decide +kernel
theorem dX8_pushOf_78 : decode cX8_pushOf 78 = .ok (.iload_n 1, 1) := by decide +kernel
theorem dX8_pushOf_79 : decode cX8_pushOf 79 = .ok (.iaload, 1) := by decide +kernel
theorem dX8_pushOf_80 : decode cX8_pushOf 80 = .ok (.ireturn, 1) := by decide +kernel
theorem dX8_pushOf_81 : decode cX8_pushOf 81 = .ok (.sipush (-1000), 3) := by decide +kernel
theorem dX8_pushOf_84 : decode cX8_pushOf 84 = .ok (.ireturn, 1) := by decide +kernel
theorem dX8_go_0 : decode cX8_go 0 = .ok (.iload_n 1, 1) := by decide +kernel
theorem dX8_go_1 : decode cX8_go 1 = .ok (.iconst 1, 1) := by decide +kernel
theorem dX8_go_2 : decode cX8_go 2 = .ok (.sipush 400, 3) := by decide +kernel
theorem dX8_go_5 : decode cX8_go 5 = .ok (.invokestatic 80, 3) := by decide +kernel
theorem dX8_go_8 : decode cX8_go 8 = .ok (.ifCond .ne 6, 3) := by decide +kernel
theorem dX8_go_11 : decode cX8_go 11 = .ok (.bipush (-2), 2) := by decide +kernel
theorem dX8_go_13 : decode cX8_go 13 = .ok (.ireturn, 1) := by decide +kernel
theorem dX8_go_14 : decode cX8_go 14 = .ok (.aload_n 0, 1) := by decide +kernel
theorem dX8_go_15 : decode cX8_go 15 = .ok (.getfield 12, 3) := by decide +kernel
theorem dX8_go_18 : decode cX8_go 18 = .ok (.getfield 55, 3) := by decide +kernel
theorem dX8_go_21 : decode cX8_go 21 = .ok (.getfield 76, 3) := by decide +kernel
theorem dX8_go_24 : decode cX8_go 24 = .ok (.ldc 79, 2) := by decide +kernel
theorem dX8_go_26 : decode cX8_go 26 = .ok (.iload_n 1, 1) := by decide +kernel
theorem dX8_go_27 : decode cX8_go 27 = .ok (.isub, 1) := by decide +kernel
theorem dX8_go_28 : decode cX8_go 28 = .ok (.if_icmp .le 6, 3) := by decide +kernel
theorem dX8_go_31 : decode cX8_go 31 = .ok (.bipush (-4), 2) := by decide +kernel
theorem dX8_go_33 : decode cX8_go 33 = .ok (.ireturn, 1) := by decide +kernel
theorem dX8_go_34 : decode cX8_go 34 = .ok (.iconst 0, 1) := by decide +kernel
theorem dX8_go_35 : decode cX8_go 35 = .ok (.istore_n 2, 1) := by decide +kernel
theorem dX8_go_36 : decode cX8_go 36 = .ok (.iconst 0, 1) := by decide +kernel
theorem dX8_go_37 : decode cX8_go 37 = .ok (.istore_n 3, 1) := by decide +kernel
theorem dX8_go_38 : decode cX8_go 38 = .ok (.iload_n 3, 1) := by decide +kernel
theorem dX8_go_39 : decode cX8_go 39 = .ok (.iload_n 1, 1) := by decide +kernel
theorem dX8_go_40 : decode cX8_go 40 = .ok (.if_icmp .ge 25, 3) := by decide +kernel
theorem dX8_go_43 : decode cX8_go 43 = .ok (.aload_n 0, 1) := by decide +kernel
theorem dX8_go_44 : decode cX8_go 44 = .ok (.getfield 12, 3) := by decide +kernel
theorem dX8_go_47 : decode cX8_go 47 = .ok (.getfield 55, 3) := by decide +kernel
theorem dX8_go_50 : decode cX8_go 50 = .ok (.invokevirtual 110, 3) := by decide +kernel
theorem dX8_go_53 : decode cX8_go 53 = .ok (.ifCond .eq 6, 3) := by decide +kernel
theorem dX8_go_56 : decode cX8_go 56 = .ok (.iinc 2 1, 3) := by decide +kernel
theorem dX8_go_59 : decode cX8_go 59 = .ok (.iinc 3 1, 3) := by decide +kernel
theorem dX8_go_62 : decode cX8_go 62 = .ok (.goto (-24), 3) := by decide +kernel
theorem dX8_go_65 : decode cX8_go 65 = .ok (.iload_n 2, 1) := by decide +kernel
theorem dX8_go_66 : decode cX8_go 66 = .ok (.ireturn, 1) := by decide +kernel
theorem dX8_wheel_0 : decode cX8_wheel 0 = .ok (.iload_n 1, 1) := by decide +kernel
theorem dX8_wheel_1 : decode cX8_wheel 1 = .ok (.iconst 2, 1) := by decide +kernel
theorem dX8_wheel_2 : decode cX8_wheel 2 = .ok (.bipush 99, 2) := by decide +kernel
theorem dX8_wheel_4 : decode cX8_wheel 4 = .ok (.invokestatic 80, 3) := by decide +kernel
theorem dX8_wheel_7 : decode cX8_wheel 7 = .ok (.ifCond .ne 6, 3) := by decide +kernel
theorem dX8_wheel_10 : decode cX8_wheel 10 = .ok (.bipush (-2), 2) := by decide +kernel
theorem dX8_wheel_12 : decode cX8_wheel 12 = .ok (.ireturn, 1) := by decide +kernel
theorem dX8_wheel_13 : decode cX8_wheel 13 = .ok (.aload_n 0, 1) := by decide +kernel
theorem dX8_wheel_14 : decode cX8_wheel 14 = .ok (.getfield 12, 3) := by decide +kernel
theorem dX8_wheel_17 : decode cX8_wheel 17 = .ok (.getfield 66, 3) := by decide +kernel
theorem dX8_wheel_20 : decode cX8_wheel 20 = .ok (.getfield 70, 3) := by decide +kernel
theorem dX8_wheel_23 : decode cX8_wheel 23 = .ok (.iconst 4, 1) := by decide +kernel
theorem dX8_wheel_24 : decode cX8_wheel 24 = .ok (.if_icmp .lt 6, 3) := by decide +kernel
theorem dX8_wheel_27 : decode cX8_wheel 27 = .ok (.bipush (-4), 2) := by decide +kernel
theorem dX8_wheel_29 : decode cX8_wheel 29 = .ok (.ireturn, 1) := by decide +kernel
theorem dX8_wheel_30 : decode cX8_wheel 30 = .ok (.aload_n 0, 1) := by decide +kernel
theorem dX8_wheel_31 : decode cX8_wheel 31 = .ok (.getfield 12, 3) := by decide +kernel
theorem dX8_wheel_34 : decode cX8_wheel 34 = .ok (.getfield 66, 3) := by decide +kernel
theorem dX8_wheel_37 : decode cX8_wheel 37 = .ok (.iload_n 1, 1) := by decide +kernel
theorem dX8_wheel_38 : decode cX8_wheel 38 = .ok (.invokevirtual 114, 3) := by decide +kernel
theorem dX8_wheel_41 : decode cX8_wheel 41 = .ok (.aload_n 0, 1) := by decide +kernel
theorem dX8_wheel_42 : decode cX8_wheel 42 = .ok (.getfield 12, 3) := by decide +kernel
theorem dX8_wheel_45 : decode cX8_wheel 45 = .ok (.getfield 66, 3) := by decide +kernel
theorem dX8_wheel_48 : decode cX8_wheel 48 = .ok (.getfield 70, 3) := by decide +kernel
theorem dX8_wheel_51 : decode cX8_wheel 51 = .ok (.iconst 1, 1) := by decide +kernel
theorem dX8_wheel_52 : decode cX8_wheel 52 = .ok (.isub, 1) := by decide +kernel
theorem dX8_wheel_53 : decode cX8_wheel 53 = .ok (.ireturn, 1) := by decide +kernel
theorem dX8_turns_0 : decode cX8_turns 0 = .ok (.iload_n 1, 1) := by decide +kernel
theorem dX8_turns_1 : decode cX8_turns 1 = .ok (.ifCond .lt 17, 3) := by decide +kernel
theorem dX8_turns_4 : decode cX8_turns 4 = .ok (.iload_n 1, 1) := by decide +kernel
theorem dX8_turns_5 : decode cX8_turns 5 = .ok (.aload_n 0, 1) := by decide +kernel
theorem dX8_turns_6 : decode cX8_turns 6 = .ok (.getfield 12, 3) := by decide +kernel
theorem dX8_turns_9 : decode cX8_turns 9 = .ok (.getfield 66, 3) := by decide +kernel
theorem dX8_turns_12 : decode cX8_turns 12 = .ok (.getfield 70, 3) := by decide +kernel
theorem dX8_turns_15 : decode cX8_turns 15 = .ok (.if_icmp .lt 7, 3) := by decide +kernel
theorem dX8_turns_18 : decode cX8_turns 18 = .ok (.ldc2_w 117, 3) := by decide +kernel
theorem dX8_turns_21 : decode cX8_turns 21 = .ok (.lreturn, 1) := by decide +kernel
theorem dX8_turns_22 : decode cX8_turns 22 = .ok (.aload_n 0, 1) := by decide +kernel
theorem dX8_turns_23 : decode cX8_turns 23 = .ok (.getfield 12, 3) := by decide +kernel
theorem dX8_turns_26 : decode cX8_turns 26 = .ok (.getfield 55, 3) := by decide +kernel
theorem dX8_turns_29 : decode cX8_turns 29 = .ok (.getfield 119, 3) := by decide +kernel
theorem dX8_turns_32 : decode cX8_turns 32 = .ok (.i2l, 1) := by decide +kernel
theorem dX8_turns_33 : decode cX8_turns 33 = .ok (.aload_n 0, 1) := by decide +kernel
theorem dX8_turns_34 : decode cX8_turns 34 = .ok (.getfield 12, 3) := by decide +kernel
theorem dX8_turns_37 : decode cX8_turns 37 = .ok (.getfield 66, 3) := by decide +kernel
theorem dX8_turns_40 : decode cX8_turns 40 = .ok (.iload_n 1, 1) := by decide +kernel
theorem dX8_turns_41 : decode cX8_turns 41 = .ok (.invokevirtual 122, 3) := by decide +kernel
theorem dX8_turns_44 : decode cX8_turns 44 = .ok (.iload_n 2, 1) := by decide +kernel
theorem dX8_turns_45 : decode cX8_turns 45 = .ok (.invokestatic 126, 3) := by decide +kernel
theorem dX8_turns_48 : decode cX8_turns 48 = .ok (.lreturn, 1) := by decide +kernel
theorem dX8_energy_0 : decode cX8_energy 0 = .ok (.iload_n 1, 1) := by decide +kernel
theorem dX8_energy_1 : decode cX8_energy 1 = .ok (.iconst 4, 1) := by decide +kernel
theorem dX8_energy_2 : decode cX8_energy 2 = .ok (.if_icmp .ne 14, 3) := by decide +kernel
theorem dX8_energy_5 : decode cX8_energy 5 = .ok (.aload_n 0, 1) := by decide +kernel
theorem dX8_energy_6 : decode cX8_energy 6 = .ok (.getfield 12, 3) := by decide +kernel
theorem dX8_energy_9 : decode cX8_energy 9 = .ok (.getfield 55, 3) := by decide +kernel
theorem dX8_energy_12 : decode cX8_energy 12 = .ok (.invokevirtual 130, 3) := by decide +kernel
theorem dX8_energy_15 : decode cX8_energy 15 = .ok (.lreturn, 1) := by decide +kernel
theorem dX8_energy_16 : decode cX8_energy 16 = .ok (.iload_n 1, 1) := by decide +kernel
theorem dX8_energy_17 : decode cX8_energy 17 = .ok (.ifCond .lt 33, 3) := by decide +kernel
theorem dX8_energy_20 : decode cX8_energy 20 = .ok (.iload_n 1, 1) := by decide +kernel
theorem dX8_energy_21 : decode cX8_energy 21 = .ok (.aload_n 0, 1) := by decide +kernel
theorem dX8_energy_22 : decode cX8_energy 22 = .ok (.getfield 12, 3) := by decide +kernel
theorem dX8_energy_25 : decode cX8_energy 25 = .ok (.getfield 55, 3) := by decide +kernel
theorem dX8_energy_28 : decode cX8_energy 28 = .ok (.getfield 134, 3) := by decide +kernel
theorem dX8_energy_31 : decode cX8_energy 31 = .ok (.arraylength, 1) := by decide +kernel
theorem dX8_energy_32 : decode cX8_energy 32 = .ok (.if_icmp .ge 18, 3) := by decide +kernel
theorem dX8_energy_35 : decode cX8_energy 35 = .ok (.aload_n 0, 1) := by decide +kernel
theorem dX8_energy_36 : decode cX8_energy 36 = .ok (.getfield 12, 3) := by decide +kernel
theorem dX8_energy_39 : decode cX8_energy 39 = .ok (.getfield 55, 3) := by decide +kernel
theorem dX8_energy_42 : decode cX8_energy 42 = .ok (.getfield 134, 3) := by decide +kernel
theorem dX8_energy_45 : decode cX8_energy 45 = .ok (.iload_n 1, 1) := by decide +kernel
theorem dX8_energy_46 : decode cX8_energy 46 = .ok (.laload, 1) := by decide +kernel
theorem dX8_energy_47 : decode cX8_energy 47 = .ok (.goto 6, 3) := by decide +kernel
theorem dX8_energy_50 : decode cX8_energy 50 = .ok (.ldc2_w 117, 3) := by decide +kernel
theorem dX8_energy_53 : decode cX8_energy 53 = .ok (.lreturn, 1) := by decide +kernel
theorem dX8_feed_0 : decode cX8_feed 0 = .ok (.iload_n 1, 1) := by decide +kernel
theorem dX8_feed_1 : decode cX8_feed 1 = .ok (.iconst 0, 1) := by decide +kernel
theorem dX8_feed_2 : decode cX8_feed 2 = .ok (.bipush 127, 2) := by decide +kernel
theorem dX8_feed_4 : decode cX8_feed 4 = .ok (.invokestatic 80, 3) := by decide +kernel
theorem dX8_feed_7 : decode cX8_feed 7 = .ok (.ifCond .ne 6, 3) := by decide +kernel
theorem dX8_feed_10 : decode cX8_feed 10 = .ok (.bipush (-2), 2) := by decide +kernel
theorem dX8_feed_12 : decode cX8_feed 12 = .ok (.ireturn, 1) := by decide +kernel
theorem dX8_feed_13 : decode cX8_feed 13 = .ok (.aload_n 0, 1) := by decide +kernel
theorem dX8_feed_14 : decode cX8_feed 14 = .ok (.getfield 40, 3) := by decide +kernel
theorem dX8_feed_17 : decode cX8_feed 17 = .ok (.getfield 138, 3) := by decide +kernel
theorem dX8_feed_20 : decode cX8_feed 20 = .ok (.bipush 100, 2) := by decide +kernel
theorem dX8_feed_22 : decode cX8_feed 22 = .ok (.if_icmp .lt 6, 3) := by decide +kernel
theorem dX8_feed_25 : decode cX8_feed 25 = .ok (.bipush (-4), 2) := by decide +kernel
theorem dX8_feed_27 : decode cX8_feed 27 = .ok (.ireturn, 1) := by decide +kernel
theorem dX8_feed_28 : decode cX8_feed 28 = .ok (.aload_n 0, 1) := by decide +kernel
theorem dX8_feed_29 : decode cX8_feed 29 = .ok (.getfield 40, 3) := by decide +kernel
theorem dX8_feed_32 : decode cX8_feed 32 = .ok (.iload_n 1, 1) := by decide +kernel
theorem dX8_feed_33 : decode cX8_feed 33 = .ok (.invokevirtual 141, 3) := by decide +kernel
theorem dX8_feed_36 : decode cX8_feed 36 = .ok (.aload_n 0, 1) := by decide +kernel
theorem dX8_feed_37 : decode cX8_feed 37 = .ok (.getfield 40, 3) := by decide +kernel
theorem dX8_feed_40 : decode cX8_feed 40 = .ok (.getfield 138, 3) := by decide +kernel
theorem dX8_feed_43 : decode cX8_feed 43 = .ok (.ireturn, 1) := by decide +kernel
theorem dX8_read_0 : decode cX8_read 0 = .ok (.aload_n 0, 1) := by decide +kernel
theorem dX8_read_1 : decode cX8_read 1 = .ok (.getfield 40, 3) := by decide +kernel
theorem dX8_read_4 : decode cX8_read 4 = .ok (.invokevirtual 142, 3) := by decide +kernel
theorem dX8_read_7 : decode cX8_read 7 = .ok (.istore_n 1, 1) := by decide +kernel
theorem dX8_read_8 : decode cX8_read 8 = .ok (.aload_n 0, 1) := by decide +kernel
theorem dX8_read_9 : decode cX8_read 9 = .ok (.getfield 40, 3) := by decide +kernel
theorem dX8_read_12 : decode cX8_read 12 = .ok (.iconst 0, 1) := by decide +kernel
theorem dX8_read_13 : decode cX8_read 13 = .ok (.putfield 138, 3) := by decide +kernel
theorem dX8_read_16 : decode cX8_read 16 = .ok (.iload_n 1, 1) := by decide +kernel
theorem dX8_read_17 : decode cX8_read 17 = .ok (.iconst (-1), 1) := by decide +kernel
theorem dX8_read_18 : decode cX8_read 18 = .ok (.if_icmp .eq 8, 3) := by decide +kernel
theorem dX8_read_21 : decode cX8_read 21 = .ok (.bipush (-10), 2) := by decide +kernel
theorem dX8_read_23 : decode cX8_read 23 = .ok (.iload_n 1, 1) := by decide +kernel
theorem dX8_read_24 : decode cX8_read 24 = .ok (.isub, 1) := by decide +kernel
theorem dX8_read_25 : decode cX8_read 25 = .ok (.ireturn, 1) := by decide +kernel
theorem dX8_read_26 : decode cX8_read 26 = .ok (.iconst 0, 1) := by decide +kernel
theorem dX8_read_27 : decode cX8_read 27 = .ok (.istore_n 2, 1) := by decide +kernel
theorem dX8_read_28 : decode cX8_read 28 = .ok (.iconst 0, 1) := by decide +kernel
theorem dX8_read_29 : decode cX8_read 29 = .ok (.istore_n 3, 1) := by decide +kernel
theorem dX8_read_30 : decode cX8_read 30 = .ok (.iload_n 3, 1) := by decide +kernel
theorem dX8_read_31 : decode cX8_read 31 = .ok (.aload_n 0, 1) := by decide +kernel
theorem dX8_read_32 : decode cX8_read 32 = .ok (.getfield 40, 3) := by decide +kernel
theorem dX8_read_35 : decode cX8_read 35 = .ok (.getfield 146, 3) := by decide +kernel
theorem dX8_read_38 : decode cX8_read 38 = .ok (.if_icmp .ge 43, 3) := by decide +kernel
theorem dX8_read_41 : decode cX8_read 41 = .ok (.iload_n 3, 1) := by decide +kernel
theorem dX8_read_42 : decode cX8_read 42 = .ok (.bipush 12, 2) := by decide +kernel
theorem dX8_read_44 : decode cX8_read 44 = .ok (.if_icmp .ge 37, 3) := by decide +kernel
theorem dX8_read_47 : decode cX8_read 47 = .ok (.aload_n 0, 1) := by decide +kernel
theorem dX8_read_48 : decode cX8_read 48 = .ok (.aload_n 0, 1) := by decide +kernel
theorem dX8_read_49 : decode cX8_read 49 = .ok (.getfield 40, 3) := by decide +kernel
theorem dX8_read_52 : decode cX8_read 52 = .ok (.getfield 149, 3) := by decide +kernel
theorem dX8_read_55 : decode cX8_read 55 = .ok (.iload_n 3, 1) := by decide +kernel
theorem dX8_read_56 : decode cX8_read 56 = .ok (.iaload, 1) := by decide +kernel
theorem dX8_read_57 : decode cX8_read 57 = .ok (.aload_n 0, 1) := by decide +kernel
theorem dX8_read_58 : decode cX8_read 58 = .ok (.getfield 40, 3) := by decide +kernel
theorem dX8_read_61 : decode cX8_read 61 = .ok (.getfield 150, 3) := by decide +kernel
theorem dX8_read_64 : decode cX8_read 64 = .ok (.iload_n 3, 1) := by decide +kernel
theorem dX8_read_65 : decode cX8_read 65 = .ok (.iaload, 1) := by decide +kernel
theorem dX8_read_66 : decode cX8_read 66 = .ok (.invokevirtual 153, 3) := by decide +kernel
theorem dX8_read_69 : decode cX8_read 69 = .ok (.ifCond .eq 6, 3) := by decide +kernel
theorem dX8_read_72 : decode cX8_read 72 = .ok (.iinc 2 1, 3) := by decide +kernel
theorem dX8_read_75 : decode cX8_read 75 = .ok (.iinc 3 1, 3) := by decide +kernel
theorem dX8_read_78 : decode cX8_read 78 = .ok (.goto (-48), 3) := by decide +kernel
theorem dX8_read_81 : decode cX8_read 81 = .ok (.iload_n 2, 1) := by decide +kernel
theorem dX8_read_82 : decode cX8_read 82 = .ok (.ireturn, 1) := by decide +kernel
theorem dX8_ahead_0 : decode cX8_ahead 0 = .ok (.iload_n 1, 1) := by decide +kernel
theorem dX8_ahead_1 : decode cX8_ahead 1 = .ok (.iconst 0, 1) := by decide +kernel
theorem dX8_ahead_2 : decode cX8_ahead 2 = .ok (.sipush 400, 3) := by decide +kernel
theorem dX8_ahead_5 : decode cX8_ahead 5 = .ok (.invokestatic 80, 3) := by decide +kernel
theorem dX8_ahead_8 : decode cX8_ahead 8 = .ok (.ifCond .eq 15, 3) := by decide +kernel
theorem dX8_ahead_11 : decode cX8_ahead 11 = .ok (.iload_n 2, 1) := by decide +kernel
theorem dX8_ahead_12 : decode cX8_ahead 12 = .ok (.ifCond .lt 11, 3) := by decide +kernel
theorem dX8_ahead_15 : decode cX8_ahead 15 = .ok (.iload_n 2, 1) := by decide +kernel
theorem dX8_ahead_16 : decode cX8_ahead 16 = .ok (.getstatic 156, 3) := by decide +kernel
theorem dX8_ahead_19 : decode cX8_ahead 19 = .ok (.arraylength, 1) := by decide +kernel
theorem dX8_ahead_20 : decode cX8_ahead 20 = .ok (.if_icmp .lt 7, 3) := by decide +kernel
theorem dX8_ahead_23 : decode cX8_ahead 23 = .ok (.sipush (-1000), 3) := by decide +kernel
theorem dX8_ahead_26 : decode cX8_ahead 26 = .ok (.ireturn, 1) := by decide +kernel
theorem dX8_ahead_27 : decode cX8_ahead 27 = .ok (.aload_n 0, 1) := by decide +kernel
theorem dX8_ahead_28 : decode cX8_ahead 28 = .ok (.iload_n 1, 1) := by decide +kernel
theorem dX8_ahead_29 : decode cX8_ahead 29 = .ok (.invokevirtual 159, 3) := by decide +kernel
theorem dX8_ahead_32 : decode cX8_ahead 32 = .ok (.aload_n 0, 1) := by decide +kernel
theorem dX8_ahead_33 : decode cX8_ahead 33 = .ok (.getfield 26, 3) := by decide +kernel
theorem dX8_ahead_36 : decode cX8_ahead 36 = .ok (.getstatic 156, 3) := by decide +kernel
theorem dX8_ahead_39 : decode cX8_ahead 39 = .ok (.iload_n 2, 1) := by decide +kernel
theorem dX8_ahead_40 : decode cX8_ahead 40 = .ok (.iaload, 1) := by decide +kernel
theorem dX8_ahead_41 : decode cX8_ahead 41 = .ok (.invokevirtual 58, 3) := by decide +kernel
theorem dX8_ahead_44 : decode cX8_ahead 44 = .ok (.ireturn, 1) := by decide +kernel
theorem dX8_energyAt_0 : decode cX8_energyAt 0 = .ok (.iload_n 1, 1) := by decide +kernel
theorem dX8_energyAt_1 : decode cX8_energyAt 1 = .ok (.iconst 0, 1) := by decide +kernel
theorem dX8_energyAt_2 : decode cX8_energyAt 2 = .ok (.sipush 400, 3) := by decide +kernel
theorem dX8_energyAt_5 : decode cX8_energyAt 5 = .ok (.invokestatic 80, 3) := by decide +kernel
theorem dX8_energyAt_8 : decode cX8_energyAt 8 = .ok (.ifCond .ne 7, 3) := by decide +kernel
theorem dX8_energyAt_11 : decode cX8_energyAt 11 = .ok (.ldc2_w 117, 3) := by decide +kernel
theorem dX8_energyAt_14 : decode cX8_energyAt 14 = .ok (.lreturn, 1) := by decide +kernel
theorem dX8_energyAt_15 : decode cX8_energyAt 15 = .ok (.aload_n 0, 1) := by decide +kernel
theorem dX8_energyAt_16 : decode cX8_energyAt 16 = .ok (.iload_n 1, 1) := by decide +kernel
theorem dX8_energyAt_17 : decode cX8_energyAt 17 = .ok (.invokevirtual 159, 3) := by decide +kernel
theorem dX8_energyAt_20 : decode cX8_energyAt 20 = .ok (.aload_n 0, 1) := by decide +kernel
theorem dX8_energyAt_21 : decode cX8_energyAt 21 = .ok (.getfield 26, 3) := by decide +kernel
theorem dX8_energyAt_24 : decode cX8_energyAt 24 = .ok (.invokevirtual 130, 3) := by decide +kernel
theorem dX8_energyAt_27 : decode cX8_energyAt 27 = .ok (.lreturn, 1) := by decide +kernel
theorem dX8_heard_0 : decode cX8_heard 0 = .ok (.iload_n 1, 1) := by decide +kernel
theorem dX8_heard_1 : decode cX8_heard 1 = .ok (.ifCond .ge 5, 3) := by decide +kernel
theorem dX8_heard_4 : decode cX8_heard 4 = .ok (.iconst (-1), 1) := by decide +kernel
theorem dX8_heard_5 : decode cX8_heard 5 = .ok (.ireturn, 1) := by decide +kernel
theorem dX8_heard_6 : decode cX8_heard 6 = .ok (.aload_n 0, 1) := by decide +kernel
theorem dX8_heard_7 : decode cX8_heard 7 = .ok (.invokevirtual 162, 3) := by decide +kernel
theorem dX8_heard_10 : decode cX8_heard 10 = .ok (.aload_n 0, 1) := by decide +kernel
theorem dX8_heard_11 : decode cX8_heard 11 = .ok (.getfield 33, 3) := by decide +kernel
theorem dX8_heard_14 : decode cX8_heard 14 = .ok (.iload_n 1, 1) := by decide +kernel
theorem dX8_heard_15 : decode cX8_heard 15 = .ok (.invokevirtual 165, 3) := by decide +kernel
theorem dX8_heard_18 : decode cX8_heard 18 = .ok (.ireturn, 1) := by decide +kernel
theorem dX8_beat_0 : decode cX8_beat 0 = .ok (.iload_n 1, 1) := by decide +kernel
theorem dX8_beat_1 : decode cX8_beat 1 = .ok (.iconst 0, 1) := by decide +kernel
theorem dX8_beat_2 : decode cX8_beat 2 = .ok (.iconst 4, 1) := by decide +kernel
theorem dX8_beat_3 : decode cX8_beat 3 = .ok (.invokestatic 80, 3) := by decide +kernel
theorem dX8_beat_6 : decode cX8_beat 6 = .ok (.ifCond .ne 7, 3) := by decide +kernel
theorem dX8_beat_9 : decode cX8_beat 9 = .ok (.sipush (-1000), 3) := by decide +kernel
theorem dX8_beat_12 : decode cX8_beat 12 = .ok (.ireturn, 1) := by decide +kernel
theorem dX8_beat_13 : decode cX8_beat 13 = .ok (.iload_n 1, 1) := by decide +kernel
theorem dX8_beat_14 : decode cX8_beat 14 = .ok (.iconst 3, 1) := by decide +kernel
theorem dX8_beat_15 : decode cX8_beat 15 = .ok (.if_icmp .ne 8, 3) := by decide +kernel
theorem dX8_beat_18 : decode cX8_beat 18 = .ok (.aload_n 0, 1) := by decide +kernel
theorem dX8_beat_19 : decode cX8_beat 19 = .ok (.invokevirtual 168, 3) := by decide +kernel
theorem dX8_beat_22 : decode cX8_beat 22 = .ok (.ireturn, 1) := by decide +kernel
theorem dX8_beat_23 : decode cX8_beat 23 = .ok (.aload_n 0, 1) := by decide +kernel
theorem dX8_beat_24 : decode cX8_beat 24 = .ok (.invokevirtual 162, 3) := by decide +kernel
theorem dX8_beat_27 : decode cX8_beat 27 = .ok (.iload_n 1, 1) := by decide +kernel
theorem dX8_beat_28 : decode cX8_beat 28 = .ok (.tableswitch 52 0 2 #[28, 36, 44], 28) := by decide +kernel
theorem dX8_beat_56 : decode cX8_beat 56 = .ok (.aload_n 0, 1) := by decide +kernel
theorem dX8_beat_57 : decode cX8_beat 57 = .ok (.getfield 33, 3) := by decide +kernel
theorem dX8_beat_60 : decode cX8_beat 60 = .ok (.getfield 171, 3) := by decide +kernel
theorem dX8_beat_63 : decode cX8_beat 63 = .ok (.ireturn, 1) := by decide +kernel
theorem dX8_beat_64 : decode cX8_beat 64 = .ok (.aload_n 0, 1) := by decide +kernel
theorem dX8_beat_65 : decode cX8_beat 65 = .ok (.getfield 33, 3) := by decide +kernel
theorem dX8_beat_68 : decode cX8_beat 68 = .ok (.invokevirtual 172, 3) := by decide +kernel
theorem dX8_beat_71 : decode cX8_beat 71 = .ok (.ireturn, 1) := by decide +kernel
theorem dX8_beat_72 : decode cX8_beat 72 = .ok (.aload_n 0, 1) := by decide +kernel
theorem dX8_beat_73 : decode cX8_beat 73 = .ok (.getfield 33, 3) := by decide +kernel
theorem dX8_beat_76 : decode cX8_beat 76 = .ok (.invokevirtual 175, 3) := by decide +kernel
theorem dX8_beat_79 : decode cX8_beat 79 = .ok (.ireturn, 1) := by decide +kernel
theorem dX8_beat_80 : decode cX8_beat 80 = .ok (.aload_n 0, 1) := by decide +kernel
theorem dX8_beat_81 : decode cX8_beat 81 = .ok (.getfield 33, 3) := by decide +kernel
theorem dX8_beat_84 : decode cX8_beat 84 = .ok (.getfield 171, 3) := by decide +kernel
theorem dX8_beat_87 : decode cX8_beat 87 = .ok (.ifCond .ne 9, 3) := by decide +kernel
theorem dX8_beat_90 : decode cX8_beat 90 = .ok (.sipush (-500), 3) := by decide +kernel
theorem dX8_beat_93 : decode cX8_beat 93 = .ok (.goto 19, 3) := by decide +kernel
theorem dX8_beat_96 : decode cX8_beat 96 = .ok (.aload_n 0, 1) := by decide +kernel
theorem dX8_beat_97 : decode cX8_beat 97 = .ok (.getfield 33, 3) := by decide +kernel
theorem dX8_beat_100 : decode cX8_beat 100 = .ok (.aload_n 0, 1) := by decide +kernel
theorem dX8_beat_101 : decode cX8_beat 101 = .ok (.getfield 33, 3) := by decide +kernel
theorem dX8_beat_104 : decode cX8_beat 104 = .ok (.getfield 171, 3) := by decide +kernel
theorem dX8_beat_107 : decode cX8_beat 107 = .ok (.iconst 1, 1) := by decide +kernel
theorem dX8_beat_108 : decode cX8_beat 108 = .ok (.isub, 1) := by decide +kernel
theorem dX8_beat_109 : decode cX8_beat 109 = .ok (.invokevirtual 165, 3) := by decide +kernel
theorem dX8_beat_112 : decode cX8_beat 112 = .ok (.ireturn, 1) := by decide +kernel
theorem dX8_gap_0 : decode cX8_gap 0 = .ok (.iload_n 1, 1) := by decide +kernel
theorem dX8_gap_1 : decode cX8_gap 1 = .ok (.ifCond .ge 5, 3) := by decide +kernel
theorem dX8_gap_4 : decode cX8_gap 4 = .ok (.iconst (-1), 1) := by decide +kernel
theorem dX8_gap_5 : decode cX8_gap 5 = .ok (.ireturn, 1) := by decide +kernel
theorem dX8_gap_6 : decode cX8_gap 6 = .ok (.aload_n 0, 1) := by decide +kernel
theorem dX8_gap_7 : decode cX8_gap 7 = .ok (.invokevirtual 162, 3) := by decide +kernel
theorem dX8_gap_10 : decode cX8_gap 10 = .ok (.aload_n 0, 1) := by decide +kernel
theorem dX8_gap_11 : decode cX8_gap 11 = .ok (.getfield 33, 3) := by decide +kernel
theorem dX8_gap_14 : decode cX8_gap 14 = .ok (.iload_n 1, 1) := by decide +kernel
theorem dX8_gap_15 : decode cX8_gap 15 = .ok (.invokevirtual 178, 3) := by decide +kernel
theorem dX8_gap_18 : decode cX8_gap 18 = .ok (.ireturn, 1) := by decide +kernel
theorem dX8_longest_0 : decode cX8_longest 0 = .ok (.iload_n 1, 1) := by decide +kernel
theorem dX8_longest_1 : decode cX8_longest 1 = .ok (.ifCond .lt 12, 3) := by decide +kernel
theorem dX8_longest_4 : decode cX8_longest 4 = .ok (.iload_n 2, 1) := by decide +kernel
theorem dX8_longest_5 : decode cX8_longest 5 = .ok (.iconst 0, 1) := by decide +kernel
theorem dX8_longest_6 : decode cX8_longest 6 = .ok (.iconst 1, 1) := by decide +kernel
theorem dX8_longest_7 : decode cX8_longest 7 = .ok (.invokestatic 80, 3) := by decide +kernel
theorem dX8_longest_10 : decode cX8_longest 10 = .ok (.ifCond .ne 5, 3) := by decide +kernel
theorem dX8_longest_13 : decode cX8_longest 13 = .ok (.iconst (-1), 1) := by decide +kernel
theorem dX8_longest_14 : decode cX8_longest 14 = .ok (.ireturn, 1) := by decide +kernel
theorem dX8_longest_15 : decode cX8_longest 15 = .ok (.aload_n 0, 1) := by decide +kernel
theorem dX8_longest_16 : decode cX8_longest 16 = .ok (.invokevirtual 162, 3) := by decide +kernel
theorem dX8_longest_19 : decode cX8_longest 19 = .ok (.aload_n 0, 1) := by decide +kernel
theorem dX8_longest_20 : decode cX8_longest 20 = .ok (.getfield 33, 3) := by decide +kernel
theorem dX8_longest_23 : decode cX8_longest 23 = .ok (.iload_n 1, 1) := by decide +kernel
theorem dX8_longest_24 : decode cX8_longest 24 = .ok (.invokevirtual 181, 3) := by decide +kernel
theorem dX8_longest_27 : decode cX8_longest 27 = .ok (.istore_n 3, 1) := by decide +kernel
theorem dX8_longest_28 : decode cX8_longest 28 = .ok (.iload_n 2, 1) := by decide +kernel
theorem dX8_longest_29 : decode cX8_longest 29 = .ok (.iconst 1, 1) := by decide +kernel
theorem dX8_longest_30 : decode cX8_longest 30 = .ok (.if_icmp .eq 9, 3) := by decide +kernel
theorem dX8_longest_33 : decode cX8_longest 33 = .ok (.iload_n 3, 1) := by decide +kernel
theorem dX8_longest_34 : decode cX8_longest 34 = .ok (.bipush (-5), 2) := by decide +kernel
theorem dX8_longest_36 : decode cX8_longest 36 = .ok (.if_icmp .ne 7, 3) := by decide +kernel
theorem dX8_longest_39 : decode cX8_longest 39 = .ok (.iload_n 3, 1) := by decide +kernel
theorem dX8_longest_40 : decode cX8_longest 40 = .ok (.goto 11, 3) := by decide +kernel
theorem dX8_longest_43 : decode cX8_longest 43 = .ok (.aload_n 0, 1) := by decide +kernel
theorem dX8_longest_44 : decode cX8_longest 44 = .ok (.getfield 33, 3) := by decide +kernel
theorem dX8_longest_47 : decode cX8_longest 47 = .ok (.iload_n 3, 1) := by decide +kernel
theorem dX8_longest_48 : decode cX8_longest 48 = .ok (.invokevirtual 178, 3) := by decide +kernel
theorem dX8_longest_51 : decode cX8_longest 51 = .ok (.ireturn, 1) := by decide +kernel
theorem dX8_see_0 : decode cX8_see 0 = .ok (.iload_n 1, 1) := by decide +kernel
theorem dX8_see_1 : decode cX8_see 1 = .ok (.iconst (-1), 1) := by decide +kernel
theorem dX8_see_2 : decode cX8_see 2 = .ok (.if_icmp .ne 16, 3) := by decide +kernel
theorem dX8_see_5 : decode cX8_see 5 = .ok (.aload_n 0, 1) := by decide +kernel
theorem dX8_see_6 : decode cX8_see 6 = .ok (.getfield 12, 3) := by decide +kernel
theorem dX8_see_9 : decode cX8_see 9 = .ok (.getfield 184, 3) := by decide +kernel
theorem dX8_see_12 : decode cX8_see 12 = .ok (.iconst 0, 1) := by decide +kernel
theorem dX8_see_13 : decode cX8_see 13 = .ok (.putfield 188, 3) := by decide +kernel
theorem dX8_see_16 : decode cX8_see 16 = .ok (.iconst 0, 1) := by decide +kernel
theorem dX8_see_17 : decode cX8_see 17 = .ok (.ireturn, 1) := by decide +kernel
theorem dX8_see_18 : decode cX8_see 18 = .ok (.iload_n 1, 1) := by decide +kernel
theorem dX8_see_19 : decode cX8_see 19 = .ok (.iconst 0, 1) := by decide +kernel
theorem dX8_see_20 : decode cX8_see 20 = .ok (.sipush 400, 3) := by decide +kernel
theorem dX8_see_23 : decode cX8_see 23 = .ok (.invokestatic 80, 3) := by decide +kernel
theorem dX8_see_26 : decode cX8_see 26 = .ok (.ifCond .eq 16, 3) := by decide +kernel
theorem dX8_see_29 : decode cX8_see 29 = .ok (.iload_n 2, 1) := by decide +kernel
theorem dX8_see_30 : decode cX8_see 30 = .ok (.sipush (-300), 3) := by decide +kernel
theorem dX8_see_33 : decode cX8_see 33 = .ok (.sipush 300, 3) := by decide +kernel
theorem dX8_see_36 : decode cX8_see 36 = .ok (.invokestatic 80, 3) := by decide +kernel
theorem dX8_see_39 : decode cX8_see 39 = .ok (.ifCond .ne 6, 3) := by decide +kernel
theorem dX8_see_42 : decode cX8_see 42 = .ok (.bipush (-2), 2) := by decide +kernel
theorem dX8_see_44 : decode cX8_see 44 = .ok (.ireturn, 1) := by decide +kernel
theorem dX8_see_45 : decode cX8_see 45 = .ok (.aload_n 0, 1) := by decide +kernel
theorem dX8_see_46 : decode cX8_see 46 = .ok (.getfield 12, 3) := by decide +kernel
theorem dX8_see_49 : decode cX8_see 49 = .ok (.getfield 184, 3) := by decide +kernel
theorem dX8_see_52 : decode cX8_see 52 = .ok (.getfield 188, 3) := by decide +kernel
theorem dX8_see_55 : decode cX8_see 55 = .ok (.iconst 5, 1) := by decide +kernel
theorem dX8_see_56 : decode cX8_see 56 = .ok (.if_icmp .lt 6, 3) := by decide +kernel
theorem dX8_see_59 : decode cX8_see 59 = .ok (.bipush (-4), 2) := by decide +kernel
theorem dX8_see_61 : decode cX8_see 61 = .ok (.ireturn, 1) := by decide +kernel
theorem dX8_see_62 : decode cX8_see 62 = .ok (.aload_n 0, 1) := by decide +kernel
theorem dX8_see_63 : decode cX8_see 63 = .ok (.getfield 12, 3) := by decide +kernel
theorem dX8_see_66 : decode cX8_see 66 = .ok (.getfield 184, 3) := by decide +kernel
theorem dX8_see_69 : decode cX8_see 69 = .ok (.iload_n 1, 1) := by decide +kernel
theorem dX8_see_70 : decode cX8_see 70 = .ok (.iload_n 2, 1) := by decide +kernel
theorem dX8_see_71 : decode cX8_see 71 = .ok (.invokevirtual 193, 3) := by decide +kernel
theorem dX8_see_74 : decode cX8_see 74 = .ok (.aload_n 0, 1) := by decide +kernel
theorem dX8_see_75 : decode cX8_see 75 = .ok (.getfield 12, 3) := by decide +kernel
theorem dX8_see_78 : decode cX8_see 78 = .ok (.getfield 184, 3) := by decide +kernel
theorem dX8_see_81 : decode cX8_see 81 = .ok (.getfield 188, 3) := by decide +kernel
theorem dX8_see_84 : decode cX8_see 84 = .ok (.ireturn, 1) := by decide +kernel
theorem dX8_fits_0 : decode cX8_fits 0 = .ok (.iload_n 1, 1) := by decide +kernel
theorem dX8_fits_1 : decode cX8_fits 1 = .ok (.iconst 0, 1) := by decide +kernel
theorem dX8_fits_2 : decode cX8_fits 2 = .ok (.iconst 1, 1) := by decide +kernel
theorem dX8_fits_3 : decode cX8_fits 3 = .ok (.invokestatic 80, 3) := by decide +kernel
theorem dX8_fits_6 : decode cX8_fits 6 = .ok (.ifCond .ne 5, 3) := by decide +kernel
theorem dX8_fits_9 : decode cX8_fits 9 = .ok (.iconst (-1), 1) := by decide +kernel
theorem dX8_fits_10 : decode cX8_fits 10 = .ok (.ireturn, 1) := by decide +kernel
theorem dX8_fits_11 : decode cX8_fits 11 = .ok (.iconst 0, 1) := by decide +kernel
theorem dX8_fits_12 : decode cX8_fits 12 = .ok (.istore_n 2, 1) := by decide +kernel
theorem dX8_fits_13 : decode cX8_fits 13 = .ok (.bipush (-5), 2) := by decide +kernel
theorem dX8_fits_15 : decode cX8_fits 15 = .ok (.istore_n 3, 1) := by decide +kernel
theorem dX8_fits_16 : decode cX8_fits 16 = .ok (.iconst 1, 1) := by decide +kernel
theorem dX8_fits_17 : decode cX8_fits 17 = .ok (.istore 4, 2) := by decide +kernel
theorem dX8_fits_19 : decode cX8_fits 19 = .ok (.iload 4, 2) := by decide +kernel
theorem dX8_fits_21 : decode cX8_fits 21 = .ok (.bipush 32, 2) := by decide +kernel
theorem dX8_fits_23 : decode cX8_fits 23 = .ok (.if_icmp .gt 33, 3) := by decide +kernel
theorem dX8_fits_26 : decode cX8_fits 26 = .ok (.aload_n 0, 1) := by decide +kernel
theorem dX8_fits_27 : decode cX8_fits 27 = .ok (.iload 4, 2) := by decide +kernel
theorem dX8_fits_29 : decode cX8_fits 29 = .ok (.invokevirtual 195, 3) := by decide +kernel
theorem dX8_fits_32 : decode cX8_fits 32 = .ok (.ifCond .eq 18, 3) := by decide +kernel
theorem dX8_fits_35 : decode cX8_fits 35 = .ok (.iinc 2 1, 3) := by decide +kernel
theorem dX8_fits_38 : decode cX8_fits 38 = .ok (.iload_n 2, 1) := by decide +kernel
theorem dX8_fits_39 : decode cX8_fits 39 = .ok (.iconst 1, 1) := by decide +kernel
theorem dX8_fits_40 : decode cX8_fits 40 = .ok (.if_icmp .ne 8, 3) := by decide +kernel
theorem dX8_fits_43 : decode cX8_fits 43 = .ok (.iload 4, 2) := by decide +kernel
theorem dX8_fits_45 : decode cX8_fits 45 = .ok (.goto 4, 3) := by decide +kernel
theorem dX8_fits_48 : decode cX8_fits 48 = .ok (.iload_n 3, 1) := by decide +kernel
theorem dX8_fits_49 : decode cX8_fits 49 = .ok (.istore_n 3, 1) := by decide +kernel
theorem dX8_fits_50 : decode cX8_fits 50 = .ok (.iinc 4 1, 3) := by decide +kernel
theorem dX8_fits_53 : decode cX8_fits 53 = .ok (.goto (-34), 3) := by decide +kernel
theorem dX8_fits_56 : decode cX8_fits 56 = .ok (.iload_n 1, 1) := by decide +kernel
theorem dX8_fits_57 : decode cX8_fits 57 = .ok (.ifCond .ne 7, 3) := by decide +kernel
theorem dX8_fits_60 : decode cX8_fits 60 = .ok (.iload_n 2, 1) := by decide +kernel
theorem dX8_fits_61 : decode cX8_fits 61 = .ok (.goto 4, 3) := by decide +kernel
theorem dX8_fits_64 : decode cX8_fits 64 = .ok (.iload_n 3, 1) := by decide +kernel
theorem dX8_fits_65 : decode cX8_fits 65 = .ok (.ireturn, 1) := by decide +kernel
theorem dX8_odds_0 : decode cX8_odds 0 = .ok (.iload_n 1, 1) := by decide +kernel
theorem dX8_odds_1 : decode cX8_odds 1 = .ok (.iconst 0, 1) := by decide +kernel
theorem dX8_odds_2 : decode cX8_odds 2 = .ok (.bipush 99, 2) := by decide +kernel
theorem dX8_odds_4 : decode cX8_odds 4 = .ok (.invokestatic 80, 3) := by decide +kernel
theorem dX8_odds_7 : decode cX8_odds 7 = .ok (.ifCond .eq 12, 3) := by decide +kernel
theorem dX8_odds_10 : decode cX8_odds 10 = .ok (.iload_n 2, 1) := by decide +kernel
theorem dX8_odds_11 : decode cX8_odds 11 = .ok (.iconst 0, 1) := by decide +kernel
theorem dX8_odds_12 : decode cX8_odds 12 = .ok (.iconst 1, 1) := by decide +kernel
theorem dX8_odds_13 : decode cX8_odds 13 = .ok (.invokestatic 80, 3) := by decide +kernel
theorem dX8_odds_16 : decode cX8_odds 16 = .ok (.ifCond .ne 7, 3) := by decide +kernel
theorem dX8_odds_19 : decode cX8_odds 19 = .ok (.ldc2_w 117, 3) := by decide +kernel
theorem dX8_odds_22 : decode cX8_odds 22 = .ok (.lreturn, 1) := by decide +kernel
theorem dX8_odds_23 : decode cX8_odds 23 = .ok (.iconst 0, 1) := by decide +kernel
theorem dX8_odds_24 : decode cX8_odds 24 = .ok (.istore_n 3, 1) := by decide +kernel
theorem dX8_odds_25 : decode cX8_odds 25 = .ok (.bipush (-20), 2) := by decide +kernel
theorem dX8_odds_27 : decode cX8_odds 27 = .ok (.istore 4, 2) := by decide +kernel
theorem dX8_odds_29 : decode cX8_odds 29 = .ok (.iload 4, 2) := by decide +kernel
theorem dX8_odds_31 : decode cX8_odds 31 = .ok (.bipush 20, 2) := by decide +kernel
theorem dX8_odds_33 : decode cX8_odds 33 = .ok (.if_icmp .gt 30, 3) := by decide +kernel
theorem dX8_odds_36 : decode cX8_odds 36 = .ok (.aload_n 0, 1) := by decide +kernel
theorem dX8_odds_37 : decode cX8_odds 37 = .ok (.iconst 1, 1) := by decide +kernel
theorem dX8_odds_38 : decode cX8_odds 38 = .ok (.iload 4, 2) := by decide +kernel
theorem dX8_odds_40 : decode cX8_odds 40 = .ok (.invokevirtual 199, 3) := by decide +kernel
theorem dX8_odds_43 : decode cX8_odds 43 = .ok (.aload_n 0, 1) := by decide +kernel
theorem dX8_odds_44 : decode cX8_odds 44 = .ok (.getfield 33, 3) := by decide +kernel
theorem dX8_odds_47 : decode cX8_odds 47 = .ok (.getfield 171, 3) := by decide +kernel
theorem dX8_odds_50 : decode cX8_odds 50 = .ok (.iload_n 1, 1) := by decide +kernel
theorem dX8_odds_51 : decode cX8_odds 51 = .ok (.if_icmp .lt 6, 3) := by decide +kernel
theorem dX8_odds_54 : decode cX8_odds 54 = .ok (.iinc 3 1, 3) := by decide +kernel
theorem dX8_odds_57 : decode cX8_odds 57 = .ok (.iinc 4 4, 3) := by decide +kernel
theorem dX8_odds_60 : decode cX8_odds 60 = .ok (.goto (-31), 3) := by decide +kernel
theorem dX8_odds_63 : decode cX8_odds 63 = .ok (.iload_n 3, 1) := by decide +kernel
theorem dX8_odds_64 : decode cX8_odds 64 = .ok (.i2l, 1) := by decide +kernel
theorem dX8_odds_65 : decode cX8_odds 65 = .ok (.ldc2_w 202, 3) := by decide +kernel
theorem dX8_odds_68 : decode cX8_odds 68 = .ok (.iload_n 2, 1) := by decide +kernel
theorem dX8_odds_69 : decode cX8_odds 69 = .ok (.invokestatic 126, 3) := by decide +kernel
theorem dX8_odds_72 : decode cX8_odds 72 = .ok (.lreturn, 1) := by decide +kernel
theorem dX8_mean_0 : decode cX8_mean 0 = .ok (.aload_n 0, 1) := by decide +kernel
theorem dX8_mean_1 : decode cX8_mean 1 = .ok (.invokevirtual 162, 3) := by decide +kernel
theorem dX8_mean_4 : decode cX8_mean 4 = .ok (.aload_n 0, 1) := by decide +kernel
theorem dX8_mean_5 : decode cX8_mean 5 = .ok (.getfield 33, 3) := by decide +kernel
theorem dX8_mean_8 : decode cX8_mean 8 = .ok (.invokevirtual 172, 3) := by decide +kernel
theorem dX8_mean_11 : decode cX8_mean 11 = .ok (.istore_n 2, 1) := by decide +kernel
theorem dX8_mean_12 : decode cX8_mean 12 = .ok (.iload_n 2, 1) := by decide +kernel
theorem dX8_mean_13 : decode cX8_mean 13 = .ok (.ifCond .ne 7, 3) := by decide +kernel
theorem dX8_mean_16 : decode cX8_mean 16 = .ok (.ldc2_w 117, 3) := by decide +kernel
theorem dX8_mean_19 : decode cX8_mean 19 = .ok (.lreturn, 1) := by decide +kernel
theorem dX8_mean_20 : decode cX8_mean 20 = .ok (.aload_n 0, 1) := by decide +kernel
theorem dX8_mean_21 : decode cX8_mean 21 = .ok (.getfield 33, 3) := by decide +kernel
theorem dX8_mean_24 : decode cX8_mean 24 = .ok (.iload_n 2, 1) := by decide +kernel
theorem dX8_mean_25 : decode cX8_mean 25 = .ok (.invokevirtual 165, 3) := by decide +kernel
theorem dX8_mean_28 : decode cX8_mean 28 = .ok (.aload_n 0, 1) := by decide +kernel
theorem dX8_mean_29 : decode cX8_mean 29 = .ok (.getfield 33, 3) := by decide +kernel
theorem dX8_mean_32 : decode cX8_mean 32 = .ok (.iconst 0, 1) := by decide +kernel
theorem dX8_mean_33 : decode cX8_mean 33 = .ok (.invokevirtual 165, 3) := by decide +kernel
theorem dX8_mean_36 : decode cX8_mean 36 = .ok (.isub, 1) := by decide +kernel
theorem dX8_mean_37 : decode cX8_mean 37 = .ok (.i2l, 1) := by decide +kernel
theorem dX8_mean_38 : decode cX8_mean 38 = .ok (.iload_n 2, 1) := by decide +kernel
theorem dX8_mean_39 : decode cX8_mean 39 = .ok (.i2l, 1) := by decide +kernel
theorem dX8_mean_40 : decode cX8_mean 40 = .ok (.iload_n 1, 1) := by decide +kernel
theorem dX8_mean_41 : decode cX8_mean 41 = .ok (.invokestatic 126, 3) := by decide +kernel
theorem dX8_mean_44 : decode cX8_mean 44 = .ok (.lreturn, 1) := by decide +kernel
theorem dX8_book_0 : decode cX8_book 0 = .ok (.iload_n 1, 1) := by decide +kernel
theorem dX8_book_1 : decode cX8_book 1 = .ok (.iconst (-1), 1) := by decide +kernel
theorem dX8_book_2 : decode cX8_book 2 = .ok (.if_icmp .ne 16, 3) := by decide +kernel
theorem dX8_book_5 : decode cX8_book 5 = .ok (.aload_n 0, 1) := by decide +kernel
theorem dX8_book_6 : decode cX8_book 6 = .ok (.getfield 12, 3) := by decide +kernel
theorem dX8_book_9 : decode cX8_book 9 = .ok (.getfield 204, 3) := by decide +kernel
theorem dX8_book_12 : decode cX8_book 12 = .ok (.iconst 0, 1) := by decide +kernel
theorem dX8_book_13 : decode cX8_book 13 = .ok (.putfield 188, 3) := by decide +kernel
theorem dX8_book_16 : decode cX8_book 16 = .ok (.iconst 0, 1) := by decide +kernel
theorem dX8_book_17 : decode cX8_book 17 = .ok (.ireturn, 1) := by decide +kernel
theorem dX8_book_18 : decode cX8_book 18 = .ok (.iload_n 1, 1) := by decide +kernel
theorem dX8_book_19 : decode cX8_book 19 = .ok (.iconst 0, 1) := by decide +kernel
theorem dX8_book_20 : decode cX8_book 20 = .ok (.bipush 99, 2) := by decide +kernel
theorem dX8_book_22 : decode cX8_book 22 = .ok (.invokestatic 80, 3) := by decide +kernel
theorem dX8_book_25 : decode cX8_book 25 = .ok (.ifCond .eq 14, 3) := by decide +kernel
theorem dX8_book_28 : decode cX8_book 28 = .ok (.iload_n 2, 1) := by decide +kernel
theorem dX8_book_29 : decode cX8_book 29 = .ok (.iconst 0, 1) := by decide +kernel
theorem dX8_book_30 : decode cX8_book 30 = .ok (.sipush 400, 3) := by decide +kernel
theorem dX8_book_33 : decode cX8_book 33 = .ok (.invokestatic 80, 3) := by decide +kernel
theorem dX8_book_36 : decode cX8_book 36 = .ok (.ifCond .ne 6, 3) := by decide +kernel
theorem dX8_book_39 : decode cX8_book 39 = .ok (.bipush (-2), 2) := by decide +kernel
theorem dX8_book_41 : decode cX8_book 41 = .ok (.ireturn, 1) := by decide +kernel
theorem dX8_book_42 : decode cX8_book 42 = .ok (.aload_n 0, 1) := by decide +kernel
theorem dX8_book_43 : decode cX8_book 43 = .ok (.getfield 12, 3) := by decide +kernel
theorem dX8_book_46 : decode cX8_book 46 = .ok (.getfield 204, 3) := by decide +kernel
theorem dX8_book_49 : decode cX8_book 49 = .ok (.getfield 188, 3) := by decide +kernel
theorem dX8_book_52 : decode cX8_book 52 = .ok (.bipush 8, 2) := by decide +kernel
theorem dX8_book_54 : decode cX8_book 54 = .ok (.if_icmp .lt 6, 3) := by decide +kernel
theorem dX8_book_57 : decode cX8_book 57 = .ok (.bipush (-4), 2) := by decide +kernel
theorem dX8_book_59 : decode cX8_book 59 = .ok (.ireturn, 1) := by decide +kernel
theorem dX8_book_60 : decode cX8_book 60 = .ok (.aload_n 0, 1) := by decide +kernel
theorem dX8_book_61 : decode cX8_book 61 = .ok (.getfield 12, 3) := by decide +kernel
theorem dX8_book_64 : decode cX8_book 64 = .ok (.getfield 204, 3) := by decide +kernel
theorem dX8_book_67 : decode cX8_book 67 = .ok (.iload_n 1, 1) := by decide +kernel
theorem dX8_book_68 : decode cX8_book 68 = .ok (.iload_n 2, 1) := by decide +kernel
theorem dX8_book_69 : decode cX8_book 69 = .ok (.invokevirtual 193, 3) := by decide +kernel
theorem dX8_book_72 : decode cX8_book 72 = .ok (.aload_n 0, 1) := by decide +kernel
theorem dX8_book_73 : decode cX8_book 73 = .ok (.getfield 12, 3) := by decide +kernel
theorem dX8_book_76 : decode cX8_book 76 = .ok (.getfield 204, 3) := by decide +kernel
theorem dX8_book_79 : decode cX8_book 79 = .ok (.getfield 188, 3) := by decide +kernel
theorem dX8_book_82 : decode cX8_book 82 = .ok (.ireturn, 1) := by decide +kernel
theorem dX8_looked_0 : decode cX8_looked 0 = .ok (.aload_n 0, 1) := by decide +kernel
theorem dX8_looked_1 : decode cX8_looked 1 = .ok (.invokevirtual 162, 3) := by decide +kernel
theorem dX8_looked_4 : decode cX8_looked 4 = .ok (.iconst 0, 1) := by decide +kernel
theorem dX8_looked_5 : decode cX8_looked 5 = .ok (.istore_n 1, 1) := by decide +kernel
theorem dX8_looked_6 : decode cX8_looked 6 = .ok (.iload_n 1, 1) := by decide +kernel
theorem dX8_looked_7 : decode cX8_looked 7 = .ok (.aload_n 0, 1) := by decide +kernel
theorem dX8_looked_8 : decode cX8_looked 8 = .ok (.getfield 12, 3) := by decide +kernel
theorem dX8_looked_11 : decode cX8_looked 11 = .ok (.getfield 204, 3) := by decide +kernel
theorem dX8_looked_14 : decode cX8_looked 14 = .ok (.getfield 188, 3) := by decide +kernel
theorem dX8_looked_17 : decode cX8_looked 17 = .ok (.if_icmp .ge 60, 3) := by decide +kernel
theorem dX8_looked_20 : decode cX8_looked 20 = .ok (.iload_n 1, 1) := by decide +kernel
theorem dX8_looked_21 : decode cX8_looked 21 = .ok (.aload_n 0, 1) := by decide +kernel
theorem dX8_looked_22 : decode cX8_looked 22 = .ok (.getfield 12, 3) := by decide +kernel
theorem dX8_looked_25 : decode cX8_looked 25 = .ok (.getfield 204, 3) := by decide +kernel
theorem dX8_looked_28 : decode cX8_looked 28 = .ok (.getfield 207, 3) := by decide +kernel
theorem dX8_looked_31 : decode cX8_looked 31 = .ok (.arraylength, 1) := by decide +kernel
theorem dX8_looked_32 : decode cX8_looked 32 = .ok (.if_icmp .ge 45, 3) := by decide +kernel
theorem dX8_looked_35 : decode cX8_looked 35 = .ok (.aload_n 0, 1) := by decide +kernel
theorem dX8_looked_36 : decode cX8_looked 36 = .ok (.getfield 33, 3) := by decide +kernel
theorem dX8_looked_39 : decode cX8_looked 39 = .ok (.aload_n 0, 1) := by decide +kernel
theorem dX8_looked_40 : decode cX8_looked 40 = .ok (.getfield 12, 3) := by decide +kernel
theorem dX8_looked_43 : decode cX8_looked 43 = .ok (.getfield 204, 3) := by decide +kernel
theorem dX8_looked_46 : decode cX8_looked 46 = .ok (.getfield 207, 3) := by decide +kernel
theorem dX8_looked_49 : decode cX8_looked 49 = .ok (.iload_n 1, 1) := by decide +kernel
theorem dX8_looked_50 : decode cX8_looked 50 = .ok (.iaload, 1) := by decide +kernel
theorem dX8_looked_51 : decode cX8_looked 51 = .ok (.invokevirtual 165, 3) := by decide +kernel
theorem dX8_looked_54 : decode cX8_looked 54 = .ok (.aload_n 0, 1) := by decide +kernel
theorem dX8_looked_55 : decode cX8_looked 55 = .ok (.getfield 12, 3) := by decide +kernel
theorem dX8_looked_58 : decode cX8_looked 58 = .ok (.getfield 204, 3) := by decide +kernel
theorem dX8_looked_61 : decode cX8_looked 61 = .ok (.getfield 210, 3) := by decide +kernel
theorem dX8_looked_64 : decode cX8_looked 64 = .ok (.iload_n 1, 1) := by decide +kernel
theorem dX8_looked_65 : decode cX8_looked 65 = .ok (.iaload, 1) := by decide +kernel
theorem dX8_looked_66 : decode cX8_looked 66 = .ok (.if_icmp .eq 5, 3) := by decide +kernel
theorem dX8_looked_69 : decode cX8_looked 69 = .ok (.iload_n 1, 1) := by decide +kernel
theorem dX8_looked_70 : decode cX8_looked 70 = .ok (.ireturn, 1) := by decide +kernel
theorem dX8_looked_71 : decode cX8_looked 71 = .ok (.iinc 1 1, 3) := by decide +kernel
theorem dX8_looked_74 : decode cX8_looked 74 = .ok (.goto (-68), 3) := by decide +kernel
theorem dX8_looked_77 : decode cX8_looked 77 = .ok (.bipush (-5), 2) := by decide +kernel
theorem dX8_looked_79 : decode cX8_looked 79 = .ok (.ireturn, 1) := by decide +kernel
theorem dX8_judge_0 : decode cX8_judge 0 = .ok (.aload_n 0, 1) := by decide +kernel
theorem dX8_judge_1 : decode cX8_judge 1 = .ok (.iload_n 1, 1) := by decide +kernel
theorem dX8_judge_2 : decode cX8_judge 2 = .ok (.invokevirtual 213, 3) := by decide +kernel
theorem dX8_judge_5 : decode cX8_judge 5 = .ok (.astore_n 3, 1) := by decide +kernel
theorem dX8_judge_6 : decode cX8_judge 6 = .ok (.aload_n 3, 1) := by decide +kernel
theorem dX8_judge_7 : decode cX8_judge 7 = .ok (.ifnonnull 5, 3) := by decide +kernel
theorem dX8_judge_10 : decode cX8_judge 10 = .ok (.iconst (-1), 1) := by decide +kernel
theorem dX8_judge_11 : decode cX8_judge 11 = .ok (.ireturn, 1) := by decide +kernel
theorem dX8_judge_12 : decode cX8_judge 12 = .ok (.aload_n 3, 1) := by decide +kernel
theorem dX8_judge_13 : decode cX8_judge 13 = .ok (.getfield 217, 3) := by decide +kernel
theorem dX8_judge_16 : decode cX8_judge 16 = .ok (.iconst 1, 1) := by decide +kernel
theorem dX8_judge_17 : decode cX8_judge 17 = .ok (.if_icmp .eq 14, 3) := by decide +kernel
theorem dX8_judge_20 : decode cX8_judge 20 = .ok (.aload_n 3, 1) := by decide +kernel
theorem dX8_judge_21 : decode cX8_judge 21 = .ok (.getfield 217, 3) := by decide +kernel
theorem dX8_judge_24 : decode cX8_judge 24 = .ok (.iconst (-1), 1) := by decide +kernel
theorem dX8_judge_25 : decode cX8_judge 25 = .ok (.if_icmp .eq 6, 3) := by decide +kernel
theorem dX8_judge_28 : decode cX8_judge 28 = .ok (.bipush (-12), 2) := by decide +kernel
theorem dX8_judge_30 : decode cX8_judge 30 = .ok (.ireturn, 1) := by decide +kernel
theorem dX8_judge_31 : decode cX8_judge 31 = .ok (.aload_n 0, 1) := by decide +kernel
theorem dX8_judge_32 : decode cX8_judge 32 = .ok (.invokevirtual 162, 3) := by decide +kernel
theorem dX8_judge_35 : decode cX8_judge 35 = .ok (.aload_n 0, 1) := by decide +kernel
theorem dX8_judge_36 : decode cX8_judge 36 = .ok (.aload_n 3, 1) := by decide +kernel
theorem dX8_judge_37 : decode cX8_judge 37 = .ok (.iload_n 2, 1) := by decide +kernel
theorem dX8_judge_38 : decode cX8_judge 38 = .ok (.invokevirtual 220, 3) := by decide +kernel
theorem dX8_judge_41 : decode cX8_judge 41 = .ok (.ireturn, 1) := by decide +kernel
theorem dX8_image_0 : decode cX8_image 0 = .ok (.aload_n 0, 1) := by decide +kernel
theorem dX8_image_1 : decode cX8_image 1 = .ok (.getfield 18, 3) := by decide +kernel
theorem dX8_image_4 : decode cX8_image 4 = .ok (.aload_n 0, 1) := by decide +kernel
theorem dX8_image_5 : decode cX8_image 5 = .ok (.getfield 12, 3) := by decide +kernel
theorem dX8_image_8 : decode cX8_image 8 = .ok (.invokevirtual 224, 3) := by decide +kernel
theorem dX8_image_11 : decode cX8_image 11 = .ok (.aload_n 0, 1) := by decide +kernel
theorem dX8_image_12 : decode cX8_image 12 = .ok (.iconst 1, 1) := by decide +kernel
theorem dX8_image_13 : decode cX8_image 13 = .ok (.putfield 228, 3) := by decide +kernel
theorem dX8_image_16 : decode cX8_image 16 = .ok (.aload_n 0, 1) := by decide +kernel
theorem dX8_image_17 : decode cX8_image 17 = .ok (.getfield 12, 3) := by decide +kernel
theorem dX8_image_20 : decode cX8_image 20 = .ok (.getfield 55, 3) := by decide +kernel
theorem dX8_image_23 : decode cX8_image 23 = .ok (.getfield 119, 3) := by decide +kernel
theorem dX8_image_26 : decode cX8_image 26 = .ok (.ireturn, 1) := by decide +kernel
theorem dX8_undo_0 : decode cX8_undo 0 = .ok (.aload_n 0, 1) := by decide +kernel
theorem dX8_undo_1 : decode cX8_undo 1 = .ok (.getfield 228, 3) := by decide +kernel
theorem dX8_undo_4 : decode cX8_undo 4 = .ok (.ifCond .ne 6, 3) := by decide +kernel
theorem dX8_undo_7 : decode cX8_undo 7 = .ok (.bipush (-3), 2) := by decide +kernel
theorem dX8_undo_9 : decode cX8_undo 9 = .ok (.ireturn, 1) := by decide +kernel
theorem dX8_undo_10 : decode cX8_undo 10 = .ok (.aload_n 0, 1) := by decide +kernel
theorem dX8_undo_11 : decode cX8_undo 11 = .ok (.getfield 12, 3) := by decide +kernel
theorem dX8_undo_14 : decode cX8_undo 14 = .ok (.aload_n 0, 1) := by decide +kernel
theorem dX8_undo_15 : decode cX8_undo 15 = .ok (.getfield 18, 3) := by decide +kernel
theorem dX8_undo_18 : decode cX8_undo 18 = .ok (.invokevirtual 224, 3) := by decide +kernel
theorem dX8_undo_21 : decode cX8_undo 21 = .ok (.aload_n 0, 1) := by decide +kernel
theorem dX8_undo_22 : decode cX8_undo 22 = .ok (.getfield 12, 3) := by decide +kernel
theorem dX8_undo_25 : decode cX8_undo 25 = .ok (.getfield 55, 3) := by decide +kernel
theorem dX8_undo_28 : decode cX8_undo 28 = .ok (.getfield 119, 3) := by decide +kernel
theorem dX8_undo_31 : decode cX8_undo 31 = .ok (.ireturn, 1) := by decide +kernel
theorem dX8_count_0 : decode cX8_count 0 = .ok (.iload_n 1, 1) := by decide +kernel
theorem dX8_count_1 : decode cX8_count 1 = .ok (.tableswitch 57 0 2 #[27, 38, 49], 27) := by decide +kernel
theorem dX8_count_28 : decode cX8_count 28 = .ok (.aload_n 0, 1) := by decide +kernel
theorem dX8_count_29 : decode cX8_count 29 = .ok (.getfield 12, 3) := by decide +kernel
theorem dX8_count_32 : decode cX8_count 32 = .ok (.getfield 184, 3) := by decide +kernel
theorem dX8_count_35 : decode cX8_count 35 = .ok (.getfield 188, 3) := by decide +kernel
theorem dX8_count_38 : decode cX8_count 38 = .ok (.ireturn, 1) := by decide +kernel
theorem dX8_count_39 : decode cX8_count 39 = .ok (.aload_n 0, 1) := by decide +kernel
theorem dX8_count_40 : decode cX8_count 40 = .ok (.getfield 12, 3) := by decide +kernel
theorem dX8_count_43 : decode cX8_count 43 = .ok (.getfield 204, 3) := by decide +kernel
theorem dX8_count_46 : decode cX8_count 46 = .ok (.getfield 188, 3) := by decide +kernel
theorem dX8_count_49 : decode cX8_count 49 = .ok (.ireturn, 1) := by decide +kernel
theorem dX8_count_50 : decode cX8_count 50 = .ok (.aload_n 0, 1) := by decide +kernel
theorem dX8_count_51 : decode cX8_count 51 = .ok (.getfield 40, 3) := by decide +kernel
theorem dX8_count_54 : decode cX8_count 54 = .ok (.getfield 138, 3) := by decide +kernel
theorem dX8_count_57 : decode cX8_count 57 = .ok (.ireturn, 1) := by decide +kernel
theorem dX8_count_58 : decode cX8_count 58 = .ok (.bipush (-2), 2) := by decide +kernel
theorem dX8_count_60 : decode cX8_count 60 = .ok (.ireturn, 1) := by decide +kernel
theorem dX8_tape_0 : decode cX8_tape 0 = .ok (.aload_n 0, 1) := by decide +kernel
theorem dX8_tape_1 : decode cX8_tape 1 = .ok (.iload_n 1, 1) := by decide +kernel
theorem dX8_tape_2 : decode cX8_tape 2 = .ok (.invokevirtual 213, 3) := by decide +kernel
theorem dX8_tape_5 : decode cX8_tape 5 = .ok (.astore 4, 2) := by decide +kernel
theorem dX8_tape_7 : decode cX8_tape 7 = .ok (.aload 4, 2) := by decide +kernel
theorem dX8_tape_9 : decode cX8_tape 9 = .ok (.ifnonnull 5, 3) := by decide +kernel
theorem dX8_tape_12 : decode cX8_tape 12 = .ok (.iconst (-1), 1) := by decide +kernel
theorem dX8_tape_13 : decode cX8_tape 13 = .ok (.ireturn, 1) := by decide +kernel
theorem dX8_tape_14 : decode cX8_tape 14 = .ok (.iload_n 2, 1) := by decide +kernel
theorem dX8_tape_15 : decode cX8_tape 15 = .ok (.iconst (-1), 1) := by decide +kernel
theorem dX8_tape_16 : decode cX8_tape 16 = .ok (.if_icmp .ne 12, 3) := by decide +kernel
theorem dX8_tape_19 : decode cX8_tape 19 = .ok (.aload 4, 2) := by decide +kernel
theorem dX8_tape_21 : decode cX8_tape 21 = .ok (.iconst (-1), 1) := by decide +kernel
theorem dX8_tape_22 : decode cX8_tape 22 = .ok (.iconst 0, 1) := by decide +kernel
theorem dX8_tape_23 : decode cX8_tape 23 = .ok (.invokevirtual 232, 3) := by decide +kernel
theorem dX8_tape_26 : decode cX8_tape 26 = .ok (.iconst 1, 1) := by decide +kernel
theorem dX8_tape_27 : decode cX8_tape 27 = .ok (.ireturn, 1) := by decide +kernel
theorem dX8_tape_28 : decode cX8_tape 28 = .ok (.iload_n 2, 1) := by decide +kernel
theorem dX8_tape_29 : decode cX8_tape 29 = .ok (.iconst 0, 1) := by decide +kernel
theorem dX8_tape_30 : decode cX8_tape 30 = .ok (.iconst 4, 1) := by decide +kernel
theorem dX8_tape_31 : decode cX8_tape 31 = .ok (.invokestatic 80, 3) := by decide +kernel
theorem dX8_tape_34 : decode cX8_tape 34 = .ok (.ifCond .eq 9, 3) := by decide +kernel
theorem dX8_tape_37 : decode cX8_tape 37 = .ok (.iload_n 3, 1) := by decide +kernel
theorem dX8_tape_38 : decode cX8_tape 38 = .ok (.bipush 60, 2) := by decide +kernel
theorem dX8_tape_40 : decode cX8_tape 40 = .ok (.if_icmp .le 6, 3) := by decide +kernel
theorem dX8_tape_43 : decode cX8_tape 43 = .ok (.bipush (-2), 2) := by decide +kernel
theorem dX8_tape_45 : decode cX8_tape 45 = .ok (.ireturn, 1) := by decide +kernel
theorem dX8_tape_46 : decode cX8_tape 46 = .ok (.iload_n 3, 1) := by decide +kernel
theorem dX8_tape_47 : decode cX8_tape 47 = .ok (.ifCond .ge 6, 3) := by decide +kernel
theorem dX8_tape_50 : decode cX8_tape 50 = .ok (.bipush (-14), 2) := by decide +kernel
theorem dX8_tape_52 : decode cX8_tape 52 = .ok (.ireturn, 1) := by decide +kernel
theorem dX8_tape_53 : decode cX8_tape 53 = .ok (.aload 4, 2) := by decide +kernel
theorem dX8_tape_55 : decode cX8_tape 55 = .ok (.iload_n 2, 1) := by decide +kernel
theorem dX8_tape_56 : decode cX8_tape 56 = .ok (.iload_n 3, 1) := by decide +kernel
theorem dX8_tape_57 : decode cX8_tape 57 = .ok (.invokevirtual 232, 3) := by decide +kernel
theorem dX8_tape_60 : decode cX8_tape 60 = .ok (.iconst 1, 1) := by decide +kernel
theorem dX8_tape_61 : decode cX8_tape 61 = .ok (.ireturn, 1) := by decide +kernel
theorem dX8_item_0 : decode cX8_item 0 = .ok (.aload_n 0, 1) := by decide +kernel
theorem dX8_item_1 : decode cX8_item 1 = .ok (.iload_n 1, 1) := by decide +kernel
theorem dX8_item_2 : decode cX8_item 2 = .ok (.invokevirtual 213, 3) := by decide +kernel
theorem dX8_item_5 : decode cX8_item 5 = .ok (.astore 5, 2) := by decide +kernel
theorem dX8_item_7 : decode cX8_item 7 = .ok (.aload 5, 2) := by decide +kernel
theorem dX8_item_9 : decode cX8_item 9 = .ok (.ifnonnull 5, 3) := by decide +kernel
theorem dX8_item_12 : decode cX8_item 12 = .ok (.iconst (-1), 1) := by decide +kernel
theorem dX8_item_13 : decode cX8_item 13 = .ok (.ireturn, 1) := by decide +kernel
theorem dX8_item_14 : decode cX8_item 14 = .ok (.aload 5, 2) := by decide +kernel
theorem dX8_item_16 : decode cX8_item 16 = .ok (.getfield 217, 3) := by decide +kernel
theorem dX8_item_19 : decode cX8_item 19 = .ok (.iconst (-1), 1) := by decide +kernel
theorem dX8_item_20 : decode cX8_item 20 = .ok (.if_icmp .ne 6, 3) := by decide +kernel
theorem dX8_item_23 : decode cX8_item 23 = .ok (.bipush (-11), 2) := by decide +kernel
theorem dX8_item_25 : decode cX8_item 25 = .ok (.ireturn, 1) := by decide +kernel
theorem dX8_item_26 : decode cX8_item 26 = .ok (.aload 5, 2) := by decide +kernel
theorem dX8_item_28 : decode cX8_item 28 = .ok (.iload_n 2, 1) := by decide +kernel
theorem dX8_item_29 : decode cX8_item 29 = .ok (.invokevirtual 235, 3) := by decide +kernel
theorem dX8_item_32 : decode cX8_item 32 = .ok (.ifCond .ne 6, 3) := by decide +kernel
theorem dX8_item_35 : decode cX8_item 35 = .ok (.bipush (-13), 2) := by decide +kernel
theorem dX8_item_37 : decode cX8_item 37 = .ok (.ireturn, 1) := by decide +kernel
theorem dX8_item_38 : decode cX8_item 38 = .ok (.aload 5, 2) := by decide +kernel
theorem dX8_item_40 : decode cX8_item 40 = .ok (.getfield 238, 3) := by decide +kernel
theorem dX8_item_43 : decode cX8_item 43 = .ok (.iload_n 2, 1) := by decide +kernel
theorem dX8_item_44 : decode cX8_item 44 = .ok (.aload 5, 2) := by decide +kernel
theorem dX8_item_46 : decode cX8_item 46 = .ok (.lload_n 3, 1) := by decide +kernel
theorem dX8_item_47 : decode cX8_item 47 = .ok (.invokevirtual 241, 3) := by decide +kernel
theorem dX8_item_50 : decode cX8_item 50 = .ok (.lastore, 1) := by decide +kernel
theorem dX8_item_51 : decode cX8_item 51 = .ok (.iconst 1, 1) := by decide +kernel
theorem dX8_item_52 : decode cX8_item 52 = .ok (.ireturn, 1) := by decide +kernel
theorem dX8_peek_0 : decode cX8_peek 0 = .ok (.aload_n 0, 1) := by decide +kernel
theorem dX8_peek_1 : decode cX8_peek 1 = .ok (.iload_n 1, 1) := by decide +kernel
theorem dX8_peek_2 : decode cX8_peek 2 = .ok (.invokevirtual 213, 3) := by decide +kernel
theorem dX8_peek_5 : decode cX8_peek 5 = .ok (.astore_n 3, 1) := by decide +kernel
theorem dX8_peek_6 : decode cX8_peek 6 = .ok (.aload_n 3, 1) := by decide +kernel
theorem dX8_peek_7 : decode cX8_peek 7 = .ok (.ifnull 11, 3) := by decide +kernel
theorem dX8_peek_10 : decode cX8_peek 10 = .ok (.aload_n 3, 1) := by decide +kernel
theorem dX8_peek_11 : decode cX8_peek 11 = .ok (.iload_n 2, 1) := by decide +kernel
theorem dX8_peek_12 : decode cX8_peek 12 = .ok (.invokevirtual 235, 3) := by decide +kernel
theorem dX8_peek_15 : decode cX8_peek 15 = .ok (.ifCond .ne 9, 3) := by decide +kernel
theorem dX8_peek_18 : decode cX8_peek 18 = .ok (.ldc2_w 117, 3) := by decide +kernel
theorem dX8_peek_21 : decode cX8_peek 21 = .ok (.goto 9, 3) := by decide +kernel
theorem dX8_peek_24 : decode cX8_peek 24 = .ok (.aload_n 3, 1) := by decide +kernel
theorem dX8_peek_25 : decode cX8_peek 25 = .ok (.getfield 238, 3) := by decide +kernel
theorem dX8_peek_28 : decode cX8_peek 28 = .ok (.iload_n 2, 1) := by decide +kernel
theorem dX8_peek_29 : decode cX8_peek 29 = .ok (.laload, 1) := by decide +kernel
theorem dX8_peek_30 : decode cX8_peek 30 = .ok (.lreturn, 1) := by decide +kernel
theorem dX8_shift_0 : decode cX8_shift 0 = .ok (.aload_n 0, 1) := by decide +kernel
theorem dX8_shift_1 : decode cX8_shift 1 = .ok (.iload_n 1, 1) := by decide +kernel
theorem dX8_shift_2 : decode cX8_shift 2 = .ok (.invokevirtual 213, 3) := by decide +kernel
theorem dX8_shift_5 : decode cX8_shift 5 = .ok (.astore 6, 2) := by decide +kernel
theorem dX8_shift_7 : decode cX8_shift 7 = .ok (.aload_n 0, 1) := by decide +kernel
theorem dX8_shift_8 : decode cX8_shift 8 = .ok (.iload_n 3, 1) := by decide +kernel
theorem dX8_shift_9 : decode cX8_shift 9 = .ok (.invokevirtual 213, 3) := by decide +kernel
theorem dX8_shift_12 : decode cX8_shift 12 = .ok (.astore 7, 2) := by decide +kernel
theorem dX8_shift_14 : decode cX8_shift 14 = .ok (.aload 6, 2) := by decide +kernel
theorem dX8_shift_16 : decode cX8_shift 16 = .ok (.ifnull 8, 3) := by decide +kernel
theorem dX8_shift_19 : decode cX8_shift 19 = .ok (.aload 7, 2) := by decide +kernel
theorem dX8_shift_21 : decode cX8_shift 21 = .ok (.ifnonnull 5, 3) := by decide +kernel
theorem dX8_shift_24 : decode cX8_shift 24 = .ok (.iconst (-1), 1) := by decide +kernel
theorem dX8_shift_25 : decode cX8_shift 25 = .ok (.ireturn, 1) := by decide +kernel
theorem dX8_shift_26 : decode cX8_shift 26 = .ok (.aload 6, 2) := by decide +kernel
theorem dX8_shift_28 : decode cX8_shift 28 = .ok (.getfield 217, 3) := by decide +kernel
theorem dX8_shift_31 : decode cX8_shift 31 = .ok (.iconst (-1), 1) := by decide +kernel
theorem dX8_shift_32 : decode cX8_shift 32 = .ok (.if_icmp .eq 12, 3) := by decide +kernel
theorem dX8_shift_35 : decode cX8_shift 35 = .ok (.aload 7, 2) := by decide +kernel
theorem dX8_shift_37 : decode cX8_shift 37 = .ok (.getfield 217, 3) := by decide +kernel
theorem dX8_shift_40 : decode cX8_shift 40 = .ok (.iconst (-1), 1) := by decide +kernel
theorem dX8_shift_41 : decode cX8_shift 41 = .ok (.if_icmp .ne 6, 3) := by decide +kernel
theorem dX8_shift_44 : decode cX8_shift 44 = .ok (.bipush (-11), 2) := by decide +kernel
theorem dX8_shift_46 : decode cX8_shift 46 = .ok (.ireturn, 1) := by decide +kernel
theorem dX8_shift_47 : decode cX8_shift 47 = .ok (.aload 6, 2) := by decide +kernel
theorem dX8_shift_49 : decode cX8_shift 49 = .ok (.getfield 217, 3) := by decide +kernel
theorem dX8_shift_52 : decode cX8_shift 52 = .ok (.aload 7, 2) := by decide +kernel
theorem dX8_shift_54 : decode cX8_shift 54 = .ok (.getfield 217, 3) := by decide +kernel
theorem dX8_shift_57 : decode cX8_shift 57 = .ok (.if_icmp .eq 6, 3) := by decide +kernel
theorem dX8_shift_60 : decode cX8_shift 60 = .ok (.bipush (-12), 2) := by decide +kernel
theorem dX8_shift_62 : decode cX8_shift 62 = .ok (.ireturn, 1) := by decide +kernel
theorem dX8_shift_63 : decode cX8_shift 63 = .ok (.aload 6, 2) := by decide +kernel
theorem dX8_shift_65 : decode cX8_shift 65 = .ok (.iload_n 2, 1) := by decide +kernel
theorem dX8_shift_66 : decode cX8_shift 66 = .ok (.iload 5, 2) := by decide +kernel
theorem dX8_shift_68 : decode cX8_shift 68 = .ok (.invokevirtual 245, 3) := by decide +kernel
theorem dX8_shift_71 : decode cX8_shift 71 = .ok (.ifCond .eq 15, 3) := by decide +kernel
theorem dX8_shift_74 : decode cX8_shift 74 = .ok (.aload 7, 2) := by decide +kernel
theorem dX8_shift_76 : decode cX8_shift 76 = .ok (.iload 4, 2) := by decide +kernel
theorem dX8_shift_78 : decode cX8_shift 78 = .ok (.iload 5, 2) := by decide +kernel
theorem dX8_shift_80 : decode cX8_shift 80 = .ok (.invokevirtual 245, 3) := by decide +kernel
theorem dX8_shift_83 : decode cX8_shift 83 = .ok (.ifCond .ne 6, 3) := by decide +kernel
theorem dX8_shift_86 : decode cX8_shift 86 = .ok (.bipush (-13), 2) := by decide +kernel
theorem dX8_shift_88 : decode cX8_shift 88 = .ok (.ireturn, 1) := by decide +kernel
theorem dX8_shift_89 : decode cX8_shift 89 = .ok (.aload 6, 2) := by decide +kernel
theorem dX8_shift_91 : decode cX8_shift 91 = .ok (.getfield 238, 3) := by decide +kernel
theorem dX8_shift_94 : decode cX8_shift 94 = .ok (.iload_n 2, 1) := by decide +kernel
theorem dX8_shift_95 : decode cX8_shift 95 = .ok (.aload 7, 2) := by decide +kernel
theorem dX8_shift_97 : decode cX8_shift 97 = .ok (.getfield 238, 3) := by decide +kernel
theorem dX8_shift_100 : decode cX8_shift 100 = .ok (.iload 4, 2) := by decide +kernel
theorem dX8_shift_102 : decode cX8_shift 102 = .ok (.iload 5, 2) := by decide +kernel
theorem dX8_shift_104 : decode cX8_shift 104 = .ok (.invokestatic 248, 3) := by decide +kernel
theorem dX8_shift_107 : decode cX8_shift 107 = .ok (.iload 5, 2) := by decide +kernel
theorem dX8_shift_109 : decode cX8_shift 109 = .ok (.ireturn, 1) := by decide +kernel
theorem dX8_isBetween_0 : decode cX8_isBetween 0 = .ok (.iload_n 0, 1) := by decide +kernel
theorem dX8_isBetween_1 : decode cX8_isBetween 1 = .ok (.iload_n 1, 1) := by decide +kernel
theorem dX8_isBetween_2 : decode cX8_isBetween 2 = .ok (.if_icmp .lt 12, 3) := by decide +kernel
theorem dX8_isBetween_5 : decode cX8_isBetween 5 = .ok (.iload_n 0, 1) := by decide +kernel
theorem dX8_isBetween_6 : decode cX8_isBetween 6 = .ok (.iload_n 2, 1) := by decide +kernel
theorem dX8_isBetween_7 : decode cX8_isBetween 7 = .ok (.if_icmp .gt 7, 3) := by decide +kernel
theorem dX8_isBetween_10 : decode cX8_isBetween 10 = .ok (.iconst 1, 1) := by decide +kernel
theorem dX8_isBetween_11 : decode cX8_isBetween 11 = .ok (.goto 4, 3) := by decide +kernel
theorem dX8_isBetween_14 : decode cX8_isBetween 14 = .ok (.iconst 0, 1) := by decide +kernel
theorem dX8_isBetween_15 : decode cX8_isBetween 15 = .ok (.ireturn, 1) := by decide +kernel
theorem dX8_isSettable_0 : decode cX8_isSettable 0 = .ok (.iload_n 0, 1) := by decide +kernel
theorem dX8_isSettable_1 : decode cX8_isSettable 1 = .ok (.ifCond .lt 40, 3) := by decide +kernel
theorem dX8_isSettable_4 : decode cX8_isSettable 4 = .ok (.iload_n 0, 1) := by decide +kernel
theorem dX8_isSettable_5 : decode cX8_isSettable 5 = .ok (.getstatic 254, 3) := by decide +kernel
theorem dX8_isSettable_8 : decode cX8_isSettable 8 = .ok (.arraylength, 1) := by decide +kernel
theorem dX8_isSettable_9 : decode cX8_isSettable 9 = .ok (.if_icmp .ge 32, 3) := by decide +kernel
theorem dX8_isSettable_12 : decode cX8_isSettable 12 = .ok (.iload_n 0, 1) := by decide +kernel
theorem dX8_isSettable_13 : decode cX8_isSettable 13 = .ok (.getstatic 257, 3) := by decide +kernel
theorem dX8_isSettable_16 : decode cX8_isSettable 16 = .ok (.arraylength, 1) := by decide +kernel
theorem dX8_isSettable_17 : decode cX8_isSettable 17 = .ok (.if_icmp .ge 24, 3) := by decide +kernel
theorem dX8_isSettable_20 : decode cX8_isSettable 20 = .ok (.iload_n 1, 1) := by decide +kernel
theorem dX8_isSettable_21 : decode cX8_isSettable 21 = .ok (.getstatic 254, 3) := by decide +kernel
theorem dX8_isSettable_24 : decode cX8_isSettable 24 = .ok (.iload_n 0, 1) := by decide +kernel
theorem dX8_isSettable_25 : decode cX8_isSettable 25 = .ok (.iaload, 1) := by decide +kernel
theorem dX8_isSettable_26 : decode cX8_isSettable 26 = .ok (.getstatic 257, 3) := by decide +kernel
theorem dX8_isSettable_29 : decode cX8_isSettable 29 = .ok (.iload_n 0, 1) := by decide +kernel
theorem dX8_isSettable_30 : decode cX8_isSettable 30 = .ok (.iaload, 1) := by decide +kernel
theorem dX8_isSettable_31 : decode cX8_isSettable 31 = .ok (.invokestatic 80, 3) := by decide +kernel
theorem dX8_isSettable_34 : decode cX8_isSettable 34 = .ok (.ifCond .eq 7, 3) := by decide +kernel
theorem dX8_isSettable_37 : decode cX8_isSettable 37 = .ok (.iconst 1, 1) := by decide +kernel
theorem dX8_isSettable_38 : decode cX8_isSettable 38 = .ok (.goto 4, 3) := by decide +kernel
theorem dX8_isSettable_41 : decode cX8_isSettable 41 = .ok (.iconst 0, 1) := by decide +kernel
theorem dX8_isSettable_42 : decode cX8_isSettable 42 = .ok (.ireturn, 1) := by decide +kernel
theorem dX8_isPushable_0 : decode cX8_isPushable 0 = .ok (.iload_n 0, 1) := by decide +kernel
theorem dX8_isPushable_1 : decode cX8_isPushable 1 = .ok (.ifCond .lt 40, 3) := by decide +kernel
theorem dX8_isPushable_4 : decode cX8_isPushable 4 = .ok (.iload_n 0, 1) := by decide +kernel
theorem dX8_isPushable_5 : decode cX8_isPushable 5 = .ok (.getstatic 260, 3) := by decide +kernel
theorem dX8_isPushable_8 : decode cX8_isPushable 8 = .ok (.arraylength, 1) := by decide +kernel
theorem dX8_isPushable_9 : decode cX8_isPushable 9 = .ok (.if_icmp .ge 32, 3) := by decide +kernel
theorem dX8_isPushable_12 : decode cX8_isPushable 12 = .ok (.iload_n 0, 1) := by decide +kernel
theorem dX8_isPushable_13 : decode cX8_isPushable 13 = .ok (.getstatic 263, 3) := by decide +kernel
theorem dX8_isPushable_16 : decode cX8_isPushable 16 = .ok (.arraylength, 1) := by decide +kernel
theorem dX8_isPushable_17 : decode cX8_isPushable 17 = .ok (.if_icmp .ge 24, 3) := by decide +kernel
theorem dX8_isPushable_20 : decode cX8_isPushable 20 = .ok (.iload_n 1, 1) := by decide +kernel
theorem dX8_isPushable_21 : decode cX8_isPushable 21 = .ok (.getstatic 260, 3) := by decide +kernel
theorem dX8_isPushable_24 : decode cX8_isPushable 24 = .ok (.iload_n 0, 1) := by decide +kernel
theorem dX8_isPushable_25 : decode cX8_isPushable 25 = .ok (.iaload, 1) := by decide +kernel
theorem dX8_isPushable_26 : decode cX8_isPushable 26 = .ok (.getstatic 263, 3) := by decide +kernel
theorem dX8_isPushable_29 : decode cX8_isPushable 29 = .ok (.iload_n 0, 1) := by decide +kernel
theorem dX8_isPushable_30 : decode cX8_isPushable 30 = .ok (.iaload, 1) := by decide +kernel
theorem dX8_isPushable_31 : decode cX8_isPushable 31 = .ok (.invokestatic 80, 3) := by decide +kernel
theorem dX8_isPushable_34 : decode cX8_isPushable 34 = .ok (.ifCond .eq 7, 3) := by decide +kernel
theorem dX8_isPushable_37 : decode cX8_isPushable 37 = .ok (.iconst 1, 1) := by decide +kernel
theorem dX8_isPushable_38 : decode cX8_isPushable 38 = .ok (.goto 4, 3) := by decide +kernel
theorem dX8_isPushable_41 : decode cX8_isPushable 41 = .ok (.iconst 0, 1) := by decide +kernel
theorem dX8_isPushable_42 : decode cX8_isPushable 42 = .ok (.ireturn, 1) := by decide +kernel
theorem dX8_partOfFraction_0 : decode cX8_partOfFraction 0 = .ok (.lload_n 0, 1) := by decide +kernel
theorem dX8_partOfFraction_1 : decode cX8_partOfFraction 1 = .ok (.lload_n 2, 1) := by decide +kernel
theorem dX8_partOfFraction_2 : decode cX8_partOfFraction 2 = .ok (.invokestatic 266, 3) := by decide +kernel
theorem dX8_partOfFraction_5 : decode cX8_partOfFraction 5 = .ok (.lstore 5, 2) := by decide +kernel
theorem dX8_partOfFraction_7 : decode cX8_partOfFraction 7 = .ok (.iload 4, 2) := by decide +kernel
theorem dX8_partOfFraction_9 : decode cX8_partOfFraction 9 = .ok (.iconst 0, 1) := by decide +kernel
theorem dX8_partOfFraction_10 : decode cX8_partOfFraction 10 = .ok (.iconst 1, 1) := by decide +kernel
theorem dX8_partOfFraction_11 : decode cX8_partOfFraction 11 = .ok (.invokestatic 80, 3) := by decide +kernel
theorem dX8_partOfFraction_14 : decode cX8_partOfFraction 14 = .ok (.ifCond .eq 10, 3) := by decide +kernel
theorem dX8_partOfFraction_17 : decode cX8_partOfFraction 17 = .ok (.lload 5, 2) := by decide +kernel
theorem dX8_partOfFraction_19 : decode cX8_partOfFraction 19 = .ok (.lconst 0, 1) := by decide +kernel
theorem dX8_partOfFraction_20 : decode cX8_partOfFraction 20 = .ok (.lcmp, 1) := by decide +kernel
theorem dX8_partOfFraction_21 : decode cX8_partOfFraction 21 = .ok (.ifCond .ne 7, 3) := by decide +kernel
theorem dX8_partOfFraction_24 : decode cX8_partOfFraction 24 = .ok (.ldc2_w 117, 3) := by decide +kernel
theorem dX8_partOfFraction_27 : decode cX8_partOfFraction 27 = .ok (.lreturn, 1) := by decide +kernel
theorem dX8_partOfFraction_28 : decode cX8_partOfFraction 28 = .ok (.iload 4, 2) := by decide +kernel
theorem dX8_partOfFraction_30 : decode cX8_partOfFraction 30 = .ok (.ifCond .ne 10, 3) := by decide +kernel
theorem dX8_partOfFraction_33 : decode cX8_partOfFraction 33 = .ok (.lload_n 0, 1) := by decide +kernel
theorem dX8_partOfFraction_34 : decode cX8_partOfFraction 34 = .ok (.lload 5, 2) := by decide +kernel
theorem dX8_partOfFraction_36 : decode cX8_partOfFraction 36 = .ok (.ldiv, 1) := by decide +kernel
theorem dX8_partOfFraction_37 : decode cX8_partOfFraction 37 = .ok (.goto 7, 3) := by decide +kernel
theorem dX8_partOfFraction_40 : decode cX8_partOfFraction 40 = .ok (.lload_n 2, 1) := by decide +kernel
theorem dX8_partOfFraction_41 : decode cX8_partOfFraction 41 = .ok (.lload 5, 2) := by decide +kernel
theorem dX8_partOfFraction_43 : decode cX8_partOfFraction 43 = .ok (.ldiv, 1) := by decide +kernel
theorem dX8_partOfFraction_44 : decode cX8_partOfFraction 44 = .ok (.lreturn, 1) := by decide +kernel
theorem dX8_commonDivisor_0 : decode cX8_commonDivisor 0 = .ok (.iconst 0, 1) := by decide +kernel
theorem dX8_commonDivisor_1 : decode cX8_commonDivisor 1 = .ok (.istore 4, 2) := by decide +kernel
theorem dX8_commonDivisor_3 : decode cX8_commonDivisor 3 = .ok (.iload 4, 2) := by decide +kernel
theorem dX8_commonDivisor_5 : decode cX8_commonDivisor 5 = .ok (.sipush 200, 3) := by decide +kernel
theorem dX8_commonDivisor_8 : decode cX8_commonDivisor 8 = .ok (.if_icmp .ge 25, 3) := by decide +kernel
theorem dX8_commonDivisor_11 : decode cX8_commonDivisor 11 = .ok (.lload_n 2, 1) := by decide +kernel
theorem dX8_commonDivisor_12 : decode cX8_commonDivisor 12 = .ok (.lconst 0, 1) := by decide +kernel
theorem dX8_commonDivisor_13 : decode cX8_commonDivisor 13 = .ok (.lcmp, 1) := by decide +kernel
theorem dX8_commonDivisor_14 : decode cX8_commonDivisor 14 = .ok (.ifCond .eq 19, 3) := by decide +kernel
theorem dX8_commonDivisor_17 : decode cX8_commonDivisor 17 = .ok (.lload_n 0, 1) := by decide +kernel
theorem dX8_commonDivisor_18 : decode cX8_commonDivisor 18 = .ok (.lload_n 2, 1) := by decide +kernel
theorem dX8_commonDivisor_19 : decode cX8_commonDivisor 19 = .ok (.lrem, 1) := by decide +kernel
theorem dX8_commonDivisor_20 : decode cX8_commonDivisor 20 = .ok (.lstore 5, 2) := by decide +kernel
theorem dX8_commonDivisor_22 : decode cX8_commonDivisor 22 = .ok (.lload_n 2, 1) := by decide +kernel
theorem dX8_commonDivisor_23 : decode cX8_commonDivisor 23 = .ok (.lstore_n 0, 1) := by decide +kernel
theorem dX8_commonDivisor_24 : decode cX8_commonDivisor 24 = .ok (.lload 5, 2) := by decide +kernel
theorem dX8_commonDivisor_26 : decode cX8_commonDivisor 26 = .ok (.lstore_n 2, 1) := by decide +kernel
theorem dX8_commonDivisor_27 : decode cX8_commonDivisor 27 = .ok (.iinc 4 1, 3) := by decide +kernel
theorem dX8_commonDivisor_30 : decode cX8_commonDivisor 30 = .ok (.goto (-27), 3) := by decide +kernel
theorem dX8_commonDivisor_33 : decode cX8_commonDivisor 33 = .ok (.lload_n 0, 1) := by decide +kernel
theorem dX8_commonDivisor_34 : decode cX8_commonDivisor 34 = .ok (.lreturn, 1) := by decide +kernel
theorem dX8_isClauseDone_0 : decode cX8_isClauseDone 0 = .ok (.iload_n 1, 1) := by decide +kernel
theorem dX8_isClauseDone_1 : decode cX8_isClauseDone 1 = .ok (.bipush 7, 2) := by decide +kernel
theorem dX8_isClauseDone_3 : decode cX8_isClauseDone 3 = .ok (.if_icmp .ne 17, 3) := by decide +kernel
theorem dX8_isClauseDone_6 : decode cX8_isClauseDone 6 = .ok (.aload_n 0, 1) := by decide +kernel
theorem dX8_isClauseDone_7 : decode cX8_isClauseDone 7 = .ok (.iload_n 2, 1) := by decide +kernel
theorem dX8_isClauseDone_8 : decode cX8_isClauseDone 8 = .ok (.invokevirtual 270, 3) := by decide +kernel
theorem dX8_isClauseDone_11 : decode cX8_isClauseDone 11 = .ok (.ifCond .lt 7, 3) := by decide +kernel
theorem dX8_isClauseDone_14 : decode cX8_isClauseDone 14 = .ok (.iconst 1, 1) := by decide +kernel
theorem dX8_isClauseDone_15 : decode cX8_isClauseDone 15 = .ok (.goto 4, 3) := by decide +kernel
theorem dX8_isClauseDone_18 : decode cX8_isClauseDone 18 = .ok (.iconst 0, 1) := by decide +kernel
theorem dX8_isClauseDone_19 : decode cX8_isClauseDone 19 = .ok (.ireturn, 1) := by decide +kernel
theorem dX8_isClauseDone_20 : decode cX8_isClauseDone 20 = .ok (.iload_n 1, 1) := by decide +kernel
theorem dX8_isClauseDone_21 : decode cX8_isClauseDone 21 = .ok (.bipush 8, 2) := by decide +kernel
theorem dX8_isClauseDone_23 : decode cX8_isClauseDone 23 = .ok (.if_icmp .ne 17, 3) := by decide +kernel
theorem dX8_isClauseDone_26 : decode cX8_isClauseDone 26 = .ok (.aload_n 0, 1) := by decide +kernel
theorem dX8_isClauseDone_27 : decode cX8_isClauseDone 27 = .ok (.iload_n 2, 1) := by decide +kernel
theorem dX8_isClauseDone_28 : decode cX8_isClauseDone 28 = .ok (.invokevirtual 273, 3) := by decide +kernel
theorem dX8_isClauseDone_31 : decode cX8_isClauseDone 31 = .ok (.ifCond .lt 7, 3) := by decide +kernel
theorem dX8_isClauseDone_34 : decode cX8_isClauseDone 34 = .ok (.iconst 1, 1) := by decide +kernel
theorem dX8_isClauseDone_35 : decode cX8_isClauseDone 35 = .ok (.goto 4, 3) := by decide +kernel
theorem dX8_isClauseDone_38 : decode cX8_isClauseDone 38 = .ok (.iconst 0, 1) := by decide +kernel
theorem dX8_isClauseDone_39 : decode cX8_isClauseDone 39 = .ok (.ireturn, 1) := by decide +kernel
theorem dX8_isClauseDone_40 : decode cX8_isClauseDone 40 = .ok (.iload_n 1, 1) := by decide +kernel
theorem dX8_isClauseDone_41 : decode cX8_isClauseDone 41 = .ok (.iload_n 2, 1) := by decide +kernel
theorem dX8_isClauseDone_42 : decode cX8_isClauseDone 42 = .ok (.invokestatic 51, 3) := by decide +kernel
theorem dX8_isClauseDone_45 : decode cX8_isClauseDone 45 = .ok (.ifCond .ne 5, 3) := by decide +kernel
theorem dX8_isClauseDone_48 : decode cX8_isClauseDone 48 = .ok (.iconst 0, 1) := by decide +kernel
theorem dX8_isClauseDone_49 : decode cX8_isClauseDone 49 = .ok (.ireturn, 1) := by decide +kernel
theorem dX8_isClauseDone_50 : decode cX8_isClauseDone 50 = .ok (.aload_n 0, 1) := by decide +kernel
theorem dX8_isClauseDone_51 : decode cX8_isClauseDone 51 = .ok (.getfield 12, 3) := by decide +kernel
theorem dX8_isClauseDone_54 : decode cX8_isClauseDone 54 = .ok (.getfield 55, 3) := by decide +kernel
theorem dX8_isClauseDone_57 : decode cX8_isClauseDone 57 = .ok (.iload_n 1, 1) := by decide +kernel
theorem dX8_isClauseDone_58 : decode cX8_isClauseDone 58 = .ok (.iload_n 2, 1) := by decide +kernel
theorem dX8_isClauseDone_59 : decode cX8_isClauseDone 59 = .ok (.invokevirtual 62, 3) := by decide +kernel
theorem dX8_isClauseDone_62 : decode cX8_isClauseDone 62 = .ok (.iconst 1, 1) := by decide +kernel
theorem dX8_isClauseDone_63 : decode cX8_isClauseDone 63 = .ok (.ireturn, 1) := by decide +kernel
theorem dX8_thinkAhead_0 : decode cX8_thinkAhead 0 = .ok (.aload_n 0, 1) := by decide +kernel
theorem dX8_thinkAhead_1 : decode cX8_thinkAhead 1 = .ok (.getfield 26, 3) := by decide +kernel
theorem dX8_thinkAhead_4 : decode cX8_thinkAhead 4 = .ok (.aload_n 0, 1) := by decide +kernel
theorem dX8_thinkAhead_5 : decode cX8_thinkAhead 5 = .ok (.getfield 12, 3) := by decide +kernel
theorem dX8_thinkAhead_8 : decode cX8_thinkAhead 8 = .ok (.getfield 55, 3) := by decide +kernel
theorem dX8_thinkAhead_11 : decode cX8_thinkAhead 11 = .ok (.invokevirtual 276, 3) := by decide +kernel
theorem dX8_thinkAhead_14 : decode cX8_thinkAhead 14 = .ok (.iconst 0, 1) := by decide +kernel
theorem dX8_thinkAhead_15 : decode cX8_thinkAhead 15 = .ok (.istore_n 2, 1) := by decide +kernel
theorem dX8_thinkAhead_16 : decode cX8_thinkAhead 16 = .ok (.iload_n 2, 1) := by decide +kernel
theorem dX8_thinkAhead_17 : decode cX8_thinkAhead 17 = .ok (.iload_n 1, 1) := by decide +kernel
theorem dX8_thinkAhead_18 : decode cX8_thinkAhead 18 = .ok (.if_icmp .ge 17, 3) := by decide +kernel
theorem dX8_thinkAhead_21 : decode cX8_thinkAhead 21 = .ok (.aload_n 0, 1) := by decide +kernel
theorem dX8_thinkAhead_22 : decode cX8_thinkAhead 22 = .ok (.getfield 26, 3) := by decide +kernel
theorem dX8_thinkAhead_25 : decode cX8_thinkAhead 25 = .ok (.invokevirtual 110, 3) := by decide +kernel
theorem dX8_thinkAhead_28 : decode cX8_thinkAhead 28 = .ok (.pop, 1) := by decide +kernel
theorem dX8_thinkAhead_29 : decode cX8_thinkAhead 29 = .ok (.iinc 2 1, 3) := by decide +kernel
theorem dX8_thinkAhead_32 : decode cX8_thinkAhead 32 = .ok (.goto (-16), 3) := by decide +kernel
theorem dX8_thinkAhead_35 : decode cX8_thinkAhead 35 = .ok (.return_, 1) := by decide +kernel
theorem dX8_listenFromNow_0 : decode cX8_listenFromNow 0 = .ok (.aload_n 0, 1) := by decide +kernel
theorem dX8_listenFromNow_1 : decode cX8_listenFromNow 1 = .ok (.getfield 26, 3) := by decide +kernel
theorem dX8_listenFromNow_4 : decode cX8_listenFromNow 4 = .ok (.aload_n 0, 1) := by decide +kernel
theorem dX8_listenFromNow_5 : decode cX8_listenFromNow 5 = .ok (.getfield 12, 3) := by decide +kernel
theorem dX8_listenFromNow_8 : decode cX8_listenFromNow 8 = .ok (.getfield 55, 3) := by decide +kernel
theorem dX8_listenFromNow_11 : decode cX8_listenFromNow 11 = .ok (.invokevirtual 276, 3) := by decide +kernel
theorem dX8_listenFromNow_14 : decode cX8_listenFromNow 14 = .ok (.aload_n 0, 1) := by decide +kernel
theorem dX8_listenFromNow_15 : decode cX8_listenFromNow 15 = .ok (.getfield 33, 3) := by decide +kernel
theorem dX8_listenFromNow_18 : decode cX8_listenFromNow 18 = .ok (.aload_n 0, 1) := by decide +kernel
theorem dX8_listenFromNow_19 : decode cX8_listenFromNow 19 = .ok (.getfield 26, 3) := by decide +kernel
theorem dX8_listenFromNow_22 : decode cX8_listenFromNow 22 = .ok (.invokevirtual 279, 3) := by decide +kernel
theorem dX8_listenFromNow_25 : decode cX8_listenFromNow 25 = .ok (.return_, 1) := by decide +kernel
theorem dX8_listenWith_0 : decode cX8_listenWith 0 = .ok (.aload_n 0, 1) := by decide +kernel
theorem dX8_listenWith_1 : decode cX8_listenWith 1 = .ok (.getfield 26, 3) := by decide +kernel
theorem dX8_listenWith_4 : decode cX8_listenWith 4 = .ok (.aload_n 0, 1) := by decide +kernel
theorem dX8_listenWith_5 : decode cX8_listenWith 5 = .ok (.getfield 12, 3) := by decide +kernel
theorem dX8_listenWith_8 : decode cX8_listenWith 8 = .ok (.getfield 55, 3) := by decide +kernel
theorem dX8_listenWith_11 : decode cX8_listenWith 11 = .ok (.invokevirtual 276, 3) := by decide +kernel
theorem dX8_listenWith_14 : decode cX8_listenWith 14 = .ok (.aload_n 0, 1) := by decide +kernel
theorem dX8_listenWith_15 : decode cX8_listenWith 15 = .ok (.getfield 26, 3) := by decide +kernel
theorem dX8_listenWith_18 : decode cX8_listenWith 18 = .ok (.iload_n 1, 1) := by decide +kernel
theorem dX8_listenWith_19 : decode cX8_listenWith 19 = .ok (.iload_n 2, 1) := by decide +kernel
theorem dX8_listenWith_20 : decode cX8_listenWith 20 = .ok (.invokevirtual 282, 3) := by decide +kernel
theorem dX8_listenWith_23 : decode cX8_listenWith 23 = .ok (.aload_n 0, 1) := by decide +kernel
theorem dX8_listenWith_24 : decode cX8_listenWith 24 = .ok (.getfield 33, 3) := by decide +kernel
theorem dX8_listenWith_27 : decode cX8_listenWith 27 = .ok (.aload_n 0, 1) := by decide +kernel
theorem dX8_listenWith_28 : decode cX8_listenWith 28 = .ok (.getfield 26, 3) := by decide +kernel
theorem dX8_listenWith_31 : decode cX8_listenWith 31 = .ok (.invokevirtual 279, 3) := by decide +kernel
theorem dX8_listenWith_34 : decode cX8_listenWith 34 = .ok (.return_, 1) := by decide +kernel
theorem dX8_evenest_0 : decode cX8_evenest 0 = .ok (.aload_n 0, 1) := by decide +kernel
theorem dX8_evenest_1 : decode cX8_evenest 1 = .ok (.getfield 12, 3) := by decide +kernel
theorem dX8_evenest_4 : decode cX8_evenest 4 = .ok (.getfield 55, 3) := by decide +kernel
theorem dX8_evenest_7 : decode cX8_evenest 7 = .ok (.getfield 285, 3) := by decide +kernel
theorem dX8_evenest_10 : decode cX8_evenest 10 = .ok (.istore_n 1, 1) := by decide +kernel
theorem dX8_evenest_11 : decode cX8_evenest 11 = .ok (.ldc2_w 117, 3) := by decide +kernel
theorem dX8_evenest_14 : decode cX8_evenest 14 = .ok (.lstore_n 2, 1) := by decide +kernel
theorem dX8_evenest_15 : decode cX8_evenest 15 = .ok (.bipush (-20), 2) := by decide +kernel
theorem dX8_evenest_17 : decode cX8_evenest 17 = .ok (.istore 4, 2) := by decide +kernel
theorem dX8_evenest_19 : decode cX8_evenest 19 = .ok (.iload 4, 2) := by decide +kernel
theorem dX8_evenest_21 : decode cX8_evenest 21 = .ok (.bipush 20, 2) := by decide +kernel
theorem dX8_evenest_23 : decode cX8_evenest 23 = .ok (.if_icmp .gt 85, 3) := by decide +kernel
theorem dX8_evenest_26 : decode cX8_evenest 26 = .ok (.aload_n 0, 1) := by decide +kernel
theorem dX8_evenest_27 : decode cX8_evenest 27 = .ok (.iconst 4, 1) := by decide +kernel
theorem dX8_evenest_28 : decode cX8_evenest 28 = .ok (.iload 4, 2) := by decide +kernel
theorem dX8_evenest_30 : decode cX8_evenest 30 = .ok (.invokevirtual 199, 3) := by decide +kernel
theorem dX8_evenest_33 : decode cX8_evenest 33 = .ok (.aload_n 0, 1) := by decide +kernel
theorem dX8_evenest_34 : decode cX8_evenest 34 = .ok (.getfield 33, 3) := by decide +kernel
theorem dX8_evenest_37 : decode cX8_evenest 37 = .ok (.invokevirtual 175, 3) := by decide +kernel
theorem dX8_evenest_40 : decode cX8_evenest 40 = .ok (.invokestatic 288, 3) := by decide +kernel
theorem dX8_evenest_43 : decode cX8_evenest 43 = .ok (.istore 5, 2) := by decide +kernel
theorem dX8_evenest_45 : decode cX8_evenest 45 = .ok (.iload 4, 2) := by decide +kernel
theorem dX8_evenest_47 : decode cX8_evenest 47 = .ok (.aload_n 0, 1) := by decide +kernel
theorem dX8_evenest_48 : decode cX8_evenest 48 = .ok (.getfield 12, 3) := by decide +kernel
theorem dX8_evenest_51 : decode cX8_evenest 51 = .ok (.getfield 55, 3) := by decide +kernel
theorem dX8_evenest_54 : decode cX8_evenest 54 = .ok (.getfield 285, 3) := by decide +kernel
theorem dX8_evenest_57 : decode cX8_evenest 57 = .ok (.isub, 1) := by decide +kernel
theorem dX8_evenest_58 : decode cX8_evenest 58 = .ok (.invokestatic 288, 3) := by decide +kernel
theorem dX8_evenest_61 : decode cX8_evenest 61 = .ok (.istore 6, 2) := by decide +kernel
theorem dX8_evenest_63 : decode cX8_evenest 63 = .ok (.aload_n 0, 1) := by decide +kernel
theorem dX8_evenest_64 : decode cX8_evenest 64 = .ok (.getfield 33, 3) := by decide +kernel
theorem dX8_evenest_67 : decode cX8_evenest 67 = .ok (.getfield 171, 3) := by decide +kernel
theorem dX8_evenest_70 : decode cX8_evenest 70 = .ok (.i2l, 1) := by decide +kernel
theorem dX8_evenest_71 : decode cX8_evenest 71 = .ok (.ldc2_w 293, 3) := by decide +kernel
theorem dX8_evenest_74 : decode cX8_evenest 74 = .ok (.lmul, 1) := by decide +kernel
theorem dX8_evenest_75 : decode cX8_evenest 75 = .ok (.iload 5, 2) := by decide +kernel
theorem dX8_evenest_77 : decode cX8_evenest 77 = .ok (.i2l, 1) := by decide +kernel
theorem dX8_evenest_78 : decode cX8_evenest 78 = .ok (.lsub, 1) := by decide +kernel
theorem dX8_evenest_79 : decode cX8_evenest 79 = .ok (.ldc2_w 293, 3) := by decide +kernel
theorem dX8_evenest_82 : decode cX8_evenest 82 = .ok (.lmul, 1) := by decide +kernel
theorem dX8_evenest_83 : decode cX8_evenest 83 = .ok (.iload 6, 2) := by decide +kernel
theorem dX8_evenest_85 : decode cX8_evenest 85 = .ok (.i2l, 1) := by decide +kernel
theorem dX8_evenest_86 : decode cX8_evenest 86 = .ok (.lsub, 1) := by decide +kernel
theorem dX8_evenest_87 : decode cX8_evenest 87 = .ok (.lstore 7, 2) := by decide +kernel
theorem dX8_evenest_89 : decode cX8_evenest 89 = .ok (.lload 7, 2) := by decide +kernel
theorem dX8_evenest_91 : decode cX8_evenest 91 = .ok (.lload_n 2, 1) := by decide +kernel
theorem dX8_evenest_92 : decode cX8_evenest 92 = .ok (.lcmp, 1) := by decide +kernel
theorem dX8_evenest_93 : decode cX8_evenest 93 = .ok (.ifCond .le 9, 3) := by decide +kernel
theorem dX8_evenest_96 : decode cX8_evenest 96 = .ok (.iload 4, 2) := by decide +kernel
theorem dX8_evenest_98 : decode cX8_evenest 98 = .ok (.istore_n 1, 1) := by decide +kernel
theorem dX8_evenest_99 : decode cX8_evenest 99 = .ok (.lload 7, 2) := by decide +kernel
theorem dX8_evenest_101 : decode cX8_evenest 101 = .ok (.lstore_n 2, 1) := by decide +kernel
theorem dX8_evenest_102 : decode cX8_evenest 102 = .ok (.iinc 4 1, 3) := by decide +kernel
theorem dX8_evenest_105 : decode cX8_evenest 105 = .ok (.goto (-86), 3) := by decide +kernel
theorem dX8_evenest_108 : decode cX8_evenest 108 = .ok (.iload_n 1, 1) := by decide +kernel
theorem dX8_evenest_109 : decode cX8_evenest 109 = .ok (.ireturn, 1) := by decide +kernel
theorem dX8_goesAsSeen_0 : decode cX8_goesAsSeen 0 = .ok (.aload_n 0, 1) := by decide +kernel
theorem dX8_goesAsSeen_1 : decode cX8_goesAsSeen 1 = .ok (.getfield 26, 3) := by decide +kernel
theorem dX8_goesAsSeen_4 : decode cX8_goesAsSeen 4 = .ok (.aload_n 0, 1) := by decide +kernel
theorem dX8_goesAsSeen_5 : decode cX8_goesAsSeen 5 = .ok (.getfield 12, 3) := by decide +kernel
theorem dX8_goesAsSeen_8 : decode cX8_goesAsSeen 8 = .ok (.getfield 55, 3) := by decide +kernel
theorem dX8_goesAsSeen_11 : decode cX8_goesAsSeen 11 = .ok (.invokevirtual 276, 3) := by decide +kernel
theorem dX8_goesAsSeen_14 : decode cX8_goesAsSeen 14 = .ok (.aload_n 0, 1) := by decide +kernel
theorem dX8_goesAsSeen_15 : decode cX8_goesAsSeen 15 = .ok (.getfield 26, 3) := by decide +kernel
theorem dX8_goesAsSeen_18 : decode cX8_goesAsSeen 18 = .ok (.iconst 2, 1) := by decide +kernel
theorem dX8_goesAsSeen_19 : decode cX8_goesAsSeen 19 = .ok (.iload_n 1, 1) := by decide +kernel
theorem dX8_goesAsSeen_20 : decode cX8_goesAsSeen 20 = .ok (.invokevirtual 282, 3) := by decide +kernel
theorem dX8_goesAsSeen_23 : decode cX8_goesAsSeen 23 = .ok (.aload_n 0, 1) := by decide +kernel
theorem dX8_goesAsSeen_24 : decode cX8_goesAsSeen 24 = .ok (.getfield 12, 3) := by decide +kernel
theorem dX8_goesAsSeen_27 : decode cX8_goesAsSeen 27 = .ok (.getfield 184, 3) := by decide +kernel
theorem dX8_goesAsSeen_30 : decode cX8_goesAsSeen 30 = .ok (.invokevirtual 295, 3) := by decide +kernel
theorem dX8_goesAsSeen_33 : decode cX8_goesAsSeen 33 = .ok (.istore_n 2, 1) := by decide +kernel
theorem dX8_goesAsSeen_34 : decode cX8_goesAsSeen 34 = .ok (.iconst 0, 1) := by decide +kernel
theorem dX8_goesAsSeen_35 : decode cX8_goesAsSeen 35 = .ok (.istore_n 3, 1) := by decide +kernel
theorem dX8_goesAsSeen_36 : decode cX8_goesAsSeen 36 = .ok (.iload_n 3, 1) := by decide +kernel
theorem dX8_goesAsSeen_37 : decode cX8_goesAsSeen 37 = .ok (.iload_n 2, 1) := by decide +kernel
theorem dX8_goesAsSeen_38 : decode cX8_goesAsSeen 38 = .ok (.if_icmp .gt 40, 3) := by decide +kernel
theorem dX8_goesAsSeen_41 : decode cX8_goesAsSeen 41 = .ok (.aload_n 0, 1) := by decide +kernel
theorem dX8_goesAsSeen_42 : decode cX8_goesAsSeen 42 = .ok (.getfield 12, 3) := by decide +kernel
theorem dX8_goesAsSeen_45 : decode cX8_goesAsSeen 45 = .ok (.getfield 184, 3) := by decide +kernel
theorem dX8_goesAsSeen_48 : decode cX8_goesAsSeen 48 = .ok (.iload_n 3, 1) := by decide +kernel
theorem dX8_goesAsSeen_49 : decode cX8_goesAsSeen 49 = .ok (.aload_n 0, 1) := by decide +kernel
theorem dX8_goesAsSeen_50 : decode cX8_goesAsSeen 50 = .ok (.getfield 26, 3) := by decide +kernel
theorem dX8_goesAsSeen_53 : decode cX8_goesAsSeen 53 = .ok (.getfield 298, 3) := by decide +kernel
theorem dX8_goesAsSeen_56 : decode cX8_goesAsSeen 56 = .ok (.invokevirtual 301, 3) := by decide +kernel
theorem dX8_goesAsSeen_59 : decode cX8_goesAsSeen 59 = .ok (.ifCond .ne 5, 3) := by decide +kernel
theorem dX8_goesAsSeen_62 : decode cX8_goesAsSeen 62 = .ok (.iconst 0, 1) := by decide +kernel
theorem dX8_goesAsSeen_63 : decode cX8_goesAsSeen 63 = .ok (.ireturn, 1) := by decide +kernel
theorem dX8_goesAsSeen_64 : decode cX8_goesAsSeen 64 = .ok (.aload_n 0, 1) := by decide +kernel
theorem dX8_goesAsSeen_65 : decode cX8_goesAsSeen 65 = .ok (.getfield 26, 3) := by decide +kernel
theorem dX8_goesAsSeen_68 : decode cX8_goesAsSeen 68 = .ok (.invokevirtual 110, 3) := by decide +kernel
theorem dX8_goesAsSeen_71 : decode cX8_goesAsSeen 71 = .ok (.pop, 1) := by decide +kernel
theorem dX8_goesAsSeen_72 : decode cX8_goesAsSeen 72 = .ok (.iinc 3 1, 3) := by decide +kernel
theorem dX8_goesAsSeen_75 : decode cX8_goesAsSeen 75 = .ok (.goto (-39), 3) := by decide +kernel
theorem dX8_goesAsSeen_78 : decode cX8_goesAsSeen 78 = .ok (.iconst 1, 1) := by decide +kernel
theorem dX8_goesAsSeen_79 : decode cX8_goesAsSeen 79 = .ok (.ireturn, 1) := by decide +kernel
theorem dX8_judgement_0 : decode cX8_judgement 0 = .ok (.iconst 0, 1) := by decide +kernel
theorem dX8_judgement_1 : decode cX8_judgement 1 = .ok (.istore_n 3, 1) := by decide +kernel
theorem dX8_judgement_2 : decode cX8_judgement 2 = .ok (.iload_n 3, 1) := by decide +kernel
theorem dX8_judgement_3 : decode cX8_judgement 3 = .ok (.aload_n 0, 1) := by decide +kernel
theorem dX8_judgement_4 : decode cX8_judgement 4 = .ok (.getfield 33, 3) := by decide +kernel
theorem dX8_judgement_7 : decode cX8_judgement 7 = .ok (.getfield 171, 3) := by decide +kernel
theorem dX8_judgement_10 : decode cX8_judgement 10 = .ok (.if_icmp .ge 61, 3) := by decide +kernel
theorem dX8_judgement_13 : decode cX8_judgement 13 = .ok (.iload_n 2, 1) := by decide +kernel
theorem dX8_judgement_14 : decode cX8_judgement 14 = .ok (.ifCond .lt 23, 3) := by decide +kernel
theorem dX8_judgement_17 : decode cX8_judgement 17 = .ok (.iload_n 2, 1) := by decide +kernel
theorem dX8_judgement_18 : decode cX8_judgement 18 = .ok (.aload_n 1, 1) := by decide +kernel
theorem dX8_judgement_19 : decode cX8_judgement 19 = .ok (.getfield 304, 3) := by decide +kernel
theorem dX8_judgement_22 : decode cX8_judgement 22 = .ok (.iload_n 3, 1) := by decide +kernel
theorem dX8_judgement_23 : decode cX8_judgement 23 = .ok (.isub, 1) := by decide +kernel
theorem dX8_judgement_24 : decode cX8_judgement 24 = .ok (.if_icmp .ge 13, 3) := by decide +kernel
theorem dX8_judgement_27 : decode cX8_judgement 27 = .ok (.aload_n 1, 1) := by decide +kernel
theorem dX8_judgement_28 : decode cX8_judgement 28 = .ok (.iload_n 2, 1) := by decide +kernel
theorem dX8_judgement_29 : decode cX8_judgement 29 = .ok (.iload_n 3, 1) := by decide +kernel
theorem dX8_judgement_30 : decode cX8_judgement 30 = .ok (.iadd, 1) := by decide +kernel
theorem dX8_judgement_31 : decode cX8_judgement 31 = .ok (.invokevirtual 235, 3) := by decide +kernel
theorem dX8_judgement_34 : decode cX8_judgement 34 = .ok (.ifCond .ne 8, 3) := by decide +kernel
theorem dX8_judgement_37 : decode cX8_judgement 37 = .ok (.bipush 100, 2) := by decide +kernel
theorem dX8_judgement_39 : decode cX8_judgement 39 = .ok (.iload_n 3, 1) := by decide +kernel
theorem dX8_judgement_40 : decode cX8_judgement 40 = .ok (.iadd, 1) := by decide +kernel
theorem dX8_judgement_41 : decode cX8_judgement 41 = .ok (.ireturn, 1) := by decide +kernel
theorem dX8_judgement_42 : decode cX8_judgement 42 = .ok (.aload_n 1, 1) := by decide +kernel
theorem dX8_judgement_43 : decode cX8_judgement 43 = .ok (.getfield 238, 3) := by decide +kernel
theorem dX8_judgement_46 : decode cX8_judgement 46 = .ok (.iload_n 2, 1) := by decide +kernel
theorem dX8_judgement_47 : decode cX8_judgement 47 = .ok (.iload_n 3, 1) := by decide +kernel
theorem dX8_judgement_48 : decode cX8_judgement 48 = .ok (.iadd, 1) := by decide +kernel
theorem dX8_judgement_49 : decode cX8_judgement 49 = .ok (.laload, 1) := by decide +kernel
theorem dX8_judgement_50 : decode cX8_judgement 50 = .ok (.aload_n 0, 1) := by decide +kernel
theorem dX8_judgement_51 : decode cX8_judgement 51 = .ok (.getfield 33, 3) := by decide +kernel
theorem dX8_judgement_54 : decode cX8_judgement 54 = .ok (.iload_n 3, 1) := by decide +kernel
theorem dX8_judgement_55 : decode cX8_judgement 55 = .ok (.invokevirtual 165, 3) := by decide +kernel
theorem dX8_judgement_58 : decode cX8_judgement 58 = .ok (.i2l, 1) := by decide +kernel
theorem dX8_judgement_59 : decode cX8_judgement 59 = .ok (.lcmp, 1) := by decide +kernel
theorem dX8_judgement_60 : decode cX8_judgement 60 = .ok (.ifCond .eq 5, 3) := by decide +kernel
theorem dX8_judgement_63 : decode cX8_judgement 63 = .ok (.iload_n 3, 1) := by decide +kernel
theorem dX8_judgement_64 : decode cX8_judgement 64 = .ok (.ireturn, 1) := by decide +kernel
theorem dX8_judgement_65 : decode cX8_judgement 65 = .ok (.iinc 3 1, 3) := by decide +kernel
theorem dX8_judgement_68 : decode cX8_judgement 68 = .ok (.goto (-66), 3) := by decide +kernel
theorem dX8_judgement_71 : decode cX8_judgement 71 = .ok (.bipush (-5), 2) := by decide +kernel
theorem dX8_judgement_73 : decode cX8_judgement 73 = .ok (.ireturn, 1) := by decide +kernel
theorem dX8_tapeAt_0 : decode cX8_tapeAt 0 = .ok (.iload_n 1, 1) := by decide +kernel
theorem dX8_tapeAt_1 : decode cX8_tapeAt 1 = .ok (.ifCond .lt 21, 3) := by decide +kernel
theorem dX8_tapeAt_4 : decode cX8_tapeAt 4 = .ok (.iload_n 1, 1) := by decide +kernel
theorem dX8_tapeAt_5 : decode cX8_tapeAt 5 = .ok (.aload_n 0, 1) := by decide +kernel
theorem dX8_tapeAt_6 : decode cX8_tapeAt 6 = .ok (.getfield 46, 3) := by decide +kernel
theorem dX8_tapeAt_9 : decode cX8_tapeAt 9 = .ok (.arraylength, 1) := by decide +kernel
theorem dX8_tapeAt_10 : decode cX8_tapeAt 10 = .ok (.if_icmp .ge 12, 3) := by decide +kernel
theorem dX8_tapeAt_13 : decode cX8_tapeAt 13 = .ok (.aload_n 0, 1) := by decide +kernel
theorem dX8_tapeAt_14 : decode cX8_tapeAt 14 = .ok (.getfield 46, 3) := by decide +kernel
theorem dX8_tapeAt_17 : decode cX8_tapeAt 17 = .ok (.iload_n 1, 1) := by decide +kernel
theorem dX8_tapeAt_18 : decode cX8_tapeAt 18 = .ok (.aaload, 1) := by decide +kernel
theorem dX8_tapeAt_19 : decode cX8_tapeAt 19 = .ok (.goto 4, 3) := by decide +kernel
theorem dX8_tapeAt_22 : decode cX8_tapeAt 22 = .ok (.aconst_null, 1) := by decide +kernel
theorem dX8_tapeAt_23 : decode cX8_tapeAt 23 = .ok (.areturn, 1) := by decide +kernel
end
section
theorem dX9_init_0 : decode cX9_init 0 = .ok (.aload_n 0, 1) := by decide +kernel
theorem dX9_init_1 : decode cX9_init 1 = .ok (.invokespecial 3, 3) := by decide +kernel
theorem dX9_init_4 : decode cX9_init 4 = .ok (.aload_n 0, 1) := by decide +kernel
theorem dX9_init_5 : decode cX9_init 5 = .ok (.bipush 69, 2) := by decide +kernel
theorem dX9_init_7 : decode cX9_init 7 = .ok (.newarray .int, 2) := by decide +kernel
theorem dX9_init_9 : decode cX9_init 9 = .ok (.putfield 9, 3) := by decide +kernel
theorem dX9_init_12 : decode cX9_init 12 = .ok (.aload_n 0, 1) := by decide +kernel
theorem dX9_init_13 : decode cX9_init 13 = .ok (.bipush 69, 2) := by decide +kernel
theorem dX9_init_15 : decode cX9_init 15 = .ok (.newarray .int, 2) := by decide +kernel
theorem dX9_init_17 : decode cX9_init 17 = .ok (.putfield 15, 3) := by decide +kernel
theorem dX9_init_20 : decode cX9_init 20 = .ok (.aload_n 0, 1) := by decide +kernel
theorem dX9_init_21 : decode cX9_init 21 = .ok (.bipush 69, 2) := by decide +kernel
theorem dX9_init_23 : decode cX9_init 23 = .ok (.newarray .int, 2) := by decide +kernel
theorem dX9_init_25 : decode cX9_init 25 = .ok (.putfield 18, 3) := by decide +kernel
theorem dX9_init_28 : decode cX9_init 28 = .ok (.aload_n 0, 1) := by decide +kernel
theorem dX9_init_29 : decode cX9_init 29 = .ok (.iconst 4, 1) := by decide +kernel
theorem dX9_init_30 : decode cX9_init 30 = .ok (.newarray .long, 2) := by decide +kernel
theorem dX9_init_32 : decode cX9_init 32 = .ok (.putfield 21, 3) := by decide +kernel
theorem dX9_init_35 : decode cX9_init 35 = .ok (.aload_n 0, 1) := by decide +kernel
theorem dX9_init_36 : decode cX9_init 36 = .ok (.iconst 4, 1) := by decide +kernel
theorem dX9_init_37 : decode cX9_init 37 = .ok (.newarray .long, 2) := by decide +kernel
theorem dX9_init_39 : decode cX9_init 39 = .ok (.putfield 25, 3) := by decide +kernel
theorem dX9_init_42 : decode cX9_init 42 = .ok (.aload_n 0, 1) := by decide +kernel
theorem dX9_init_43 : decode cX9_init 43 = .ok (.iconst 4, 1) := by decide +kernel
theorem dX9_init_44 : decode cX9_init 44 = .ok (.newarray .long, 2) := by decide +kernel
theorem dX9_init_46 : decode cX9_init 46 = .ok (.putfield 28, 3) := by decide +kernel
theorem dX9_init_49 : decode cX9_init 49 = .ok (.aload_n 0, 1) := by decide +kernel
theorem dX9_init_50 : decode cX9_init 50 = .ok (.sipush 400, 3) := by decide +kernel
theorem dX9_init_53 : decode cX9_init 53 = .ok (.newarray .int, 2) := by decide +kernel
theorem dX9_init_55 : decode cX9_init 55 = .ok (.putfield 31, 3) := by decide +kernel
theorem dX9_init_58 : decode cX9_init 58 = .ok (.aload_n 0, 1) := by decide +kernel
theorem dX9_init_59 : decode cX9_init 59 = .ok (.bipush 100, 2) := by decide +kernel
theorem dX9_init_61 : decode cX9_init 61 = .ok (.newarray .int, 2) := by decide +kernel
theorem dX9_init_63 : decode cX9_init 63 = .ok (.putfield 34, 3) := by decide +kernel
theorem dX9_init_66 : decode cX9_init 66 = .ok (.aload_n 0, 1) := by decide +kernel
theorem dX9_init_67 : decode cX9_init 67 = .ok (.bipush 12, 2) := by decide +kernel
theorem dX9_init_69 : decode cX9_init 69 = .ok (.newarray .int, 2) := by decide +kernel
theorem dX9_init_71 : decode cX9_init 71 = .ok (.putfield 37, 3) := by decide +kernel
theorem dX9_init_74 : decode cX9_init 74 = .ok (.aload_n 0, 1) := by decide +kernel
theorem dX9_init_75 : decode cX9_init 75 = .ok (.bipush 12, 2) := by decide +kernel
theorem dX9_init_77 : decode cX9_init 77 = .ok (.newarray .int, 2) := by decide +kernel
theorem dX9_init_79 : decode cX9_init 79 = .ok (.putfield 40, 3) := by decide +kernel
theorem dX9_init_82 : decode cX9_init 82 = .ok (.aload_n 0, 1) := by decide +kernel
theorem dX9_init_83 : decode cX9_init 83 = .ok (.bipush 6, 2) := by decide +kernel
theorem dX9_init_85 : decode cX9_init 85 = .ok (.newarray .int, 2) := by decide +kernel
theorem dX9_init_87 : decode cX9_init 87 = .ok (.putfield 43, 3) := by decide +kernel
theorem dX9_init_90 : decode cX9_init 90 = .ok (.aload_n 0, 1) := by decide +kernel
theorem dX9_init_91 : decode cX9_init 91 = .ok (.bipush 6, 2) := by decide +kernel
theorem dX9_init_93 : decode cX9_init 93 = .ok (.newarray .int, 2) := by decide +kernel
theorem dX9_init_95 : decode cX9_init 95 = .ok (.putfield 46, 3) := by decide +kernel
theorem dX9_init_98 : decode cX9_init 98 = .ok (.aload_n 0, 1) := by decide +kernel
theorem dX9_init_99 : decode cX9_init 99 = .ok (.sipush 360, 3) := by decide +kernel
theorem dX9_init_102 : decode cX9_init 102 = .ok (.newarray .long, 2) := by decide +kernel
theorem dX9_init_104 : decode cX9_init 104 = .ok (.putfield 49, 3) := by decide +kernel
theorem dX9_init_107 : decode cX9_init 107 = .ok (.aload_n 0, 1) := by decide +kernel
theorem dX9_init_108 : decode cX9_init 108 = .ok (.bipush 60, 2) := by decide +kernel
theorem dX9_init_110 : decode cX9_init 110 = .ok (.newarray .long, 2) := by decide +kernel
theorem dX9_init_112 : decode cX9_init 112 = .ok (.putfield 52, 3) := by decide +kernel
theorem dX9_init_115 : decode cX9_init 115 = .ok (.aload_n 0, 1) := by decide +kernel
theorem dX9_init_116 : decode cX9_init 116 = .ok (.getfield 9, 3) := by decide +kernel
theorem dX9_init_119 : decode cX9_init 119 = .ok (.iconst 2, 1) := by decide +kernel
theorem dX9_init_120 : decode cX9_init 120 = .ok (.iconst 4, 1) := by decide +kernel
theorem dX9_init_121 : decode cX9_init 121 = .ok (.iastore, 1) := by decide +kernel
theorem dX9_init_122 : decode cX9_init 122 = .ok (.aload_n 0, 1) := by decide +kernel
theorem dX9_init_123 : decode cX9_init 123 = .ok (.getfield 9, 3) := by decide +kernel
theorem dX9_init_126 : decode cX9_init 126 = .ok (.iconst 5, 1) := by decide +kernel
theorem dX9_init_127 : decode cX9_init 127 = .ok (.bipush 20, 2) := by decide +kernel
theorem dX9_init_129 : decode cX9_init 129 = .ok (.iastore, 1) := by decide +kernel
theorem dX9_init_130 : decode cX9_init 130 = .ok (.aload_n 0, 1) := by decide +kernel
theorem dX9_init_131 : decode cX9_init 131 = .ok (.getfield 9, 3) := by decide +kernel
theorem dX9_init_134 : decode cX9_init 134 = .ok (.bipush 6, 2) := by decide +kernel
theorem dX9_init_136 : decode cX9_init 136 = .ok (.bipush 10, 2) := by decide +kernel
theorem dX9_init_138 : decode cX9_init 138 = .ok (.iastore, 1) := by decide +kernel
theorem dX9_init_139 : decode cX9_init 139 = .ok (.return_, 1) := by decide +kernel
theorem dX9_within_0 : decode cX9_within 0 = .ok (.iload_n 0, 1) := by decide +kernel
theorem dX9_within_1 : decode cX9_within 1 = .ok (.iload_n 1, 1) := by decide +kernel
theorem dX9_within_2 : decode cX9_within 2 = .ok (.if_icmp .lt 12, 3) := by decide +kernel
theorem dX9_within_5 : decode cX9_within 5 = .ok (.iload_n 0, 1) := by decide +kernel
theorem dX9_within_6 : decode cX9_within 6 = .ok (.iload_n 2, 1) := by decide +kernel
theorem dX9_within_7 : decode cX9_within 7 = .ok (.if_icmp .gt 7, 3) := by decide +kernel
theorem dX9_within_10 : decode cX9_within 10 = .ok (.iconst 1, 1) := by decide +kernel
theorem dX9_within_11 : decode cX9_within 11 = .ok (.goto 4, 3) := by decide +kernel
theorem dX9_within_14 : decode cX9_within 14 = .ok (.iconst 0, 1) := by decide +kernel
theorem dX9_within_15 : decode cX9_within 15 = .ok (.ireturn, 1) := by decide +kernel
theorem dX9_isSo_0 : decode cX9_isSo 0 = .ok (.iload_n 0, 1) := by decide +kernel
theorem dX9_isSo_1 : decode cX9_isSo 1 = .ok (.tableswitch 94 0 5 #[39, 50, 61, 69, 77, 86], 39) := by decide +kernel
theorem dX9_isSo_40 : decode cX9_isSo 40 = .ok (.iload_n 1, 1) := by decide +kernel
theorem dX9_isSo_41 : decode cX9_isSo 41 = .ok (.sipush (-300), 3) := by decide +kernel
theorem dX9_isSo_44 : decode cX9_isSo 44 = .ok (.sipush 300, 3) := by decide +kernel
theorem dX9_isSo_47 : decode cX9_isSo 47 = .ok (.invokestatic 55, 3) := by decide +kernel
theorem dX9_isSo_50 : decode cX9_isSo 50 = .ok (.ireturn, 1) := by decide +kernel
theorem dX9_isSo_51 : decode cX9_isSo 51 = .ok (.iload_n 1, 1) := by decide +kernel
theorem dX9_isSo_52 : decode cX9_isSo 52 = .ok (.sipush (-400), 3) := by decide +kernel
theorem dX9_isSo_55 : decode cX9_isSo 55 = .ok (.sipush 400, 3) := by decide +kernel
theorem dX9_isSo_58 : decode cX9_isSo 58 = .ok (.invokestatic 55, 3) := by decide +kernel
theorem dX9_isSo_61 : decode cX9_isSo 61 = .ok (.ireturn, 1) := by decide +kernel
theorem dX9_isSo_62 : decode cX9_isSo 62 = .ok (.iload_n 1, 1) := by decide +kernel
theorem dX9_isSo_63 : decode cX9_isSo 63 = .ok (.iconst 1, 1) := by decide +kernel
theorem dX9_isSo_64 : decode cX9_isSo 64 = .ok (.bipush 32, 2) := by decide +kernel
theorem dX9_isSo_66 : decode cX9_isSo 66 = .ok (.invokestatic 55, 3) := by decide +kernel
theorem dX9_isSo_69 : decode cX9_isSo 69 = .ok (.ireturn, 1) := by decide +kernel
theorem dX9_isSo_70 : decode cX9_isSo 70 = .ok (.iload_n 1, 1) := by decide +kernel
theorem dX9_isSo_71 : decode cX9_isSo 71 = .ok (.iconst 0, 1) := by decide +kernel
theorem dX9_isSo_72 : decode cX9_isSo 72 = .ok (.bipush 9, 2) := by decide +kernel
theorem dX9_isSo_74 : decode cX9_isSo 74 = .ok (.invokestatic 55, 3) := by decide +kernel
theorem dX9_isSo_77 : decode cX9_isSo 77 = .ok (.ireturn, 1) := by decide +kernel
theorem dX9_isSo_78 : decode cX9_isSo 78 = .ok (.iload_n 1, 1) := by decide +kernel
theorem dX9_isSo_79 : decode cX9_isSo 79 = .ok (.bipush (-20), 2) := by decide +kernel
theorem dX9_isSo_81 : decode cX9_isSo 81 = .ok (.bipush 20, 2) := by decide +kernel
theorem dX9_isSo_83 : decode cX9_isSo 83 = .ok (.invokestatic 55, 3) := by decide +kernel
theorem dX9_isSo_86 : decode cX9_isSo 86 = .ok (.ireturn, 1) := by decide +kernel
theorem dX9_isSo_87 : decode cX9_isSo 87 = .ok (.iload_n 1, 1) := by decide +kernel
theorem dX9_isSo_88 : decode cX9_isSo 88 = .ok (.iconst 0, 1) := by decide +kernel
theorem dX9_isSo_89 : decode cX9_isSo 89 = .ok (.bipush 60, 2) := by decide +kernel
theorem dX9_isSo_91 : decode cX9_isSo 91 = .ok (.invokestatic 55, 3) := by decide +kernel
theorem dX9_isSo_94 : decode cX9_isSo 94 = .ok (.ireturn, 1) := by decide +kernel
theorem dX9_isSo_95 : decode cX9_isSo 95 = .ok (.iload_n 1, 1) := by decide +kernel
theorem dX9_isSo_96 : decode cX9_isSo 96 = .ok (.iconst 1, 1) := by decide +kernel
theorem dX9_isSo_97 : decode cX9_isSo 97 = .ok (.bipush 99, 2) := by decide +kernel
theorem dX9_isSo_99 : decode cX9_isSo 99 = .ok (.invokestatic 55, 3) := by decide +kernel
theorem dX9_isSo_102 : decode cX9_isSo 102 = .ok (.ireturn, 1) := by decide +kernel
theorem dX9_energyNow_0 : decode cX9_energyNow 0 = .ok (.ldc2_w 59, 3) := by decide +kernel
theorem dX9_energyNow_3 : decode cX9_energyNow 3 = .ok (.aload_n 0, 1) := by decide +kernel
theorem dX9_energyNow_4 : decode cX9_energyNow 4 = .ok (.getfield 9, 3) := by decide +kernel
theorem dX9_energyNow_7 : decode cX9_energyNow 7 = .ok (.iconst 1, 1) := by decide +kernel
theorem dX9_energyNow_8 : decode cX9_energyNow 8 = .ok (.iaload, 1) := by decide +kernel
theorem dX9_energyNow_9 : decode cX9_energyNow 9 = .ok (.i2l, 1) := by decide +kernel
theorem dX9_energyNow_10 : decode cX9_energyNow 10 = .ok (.lmul, 1) := by decide +kernel
theorem dX9_energyNow_11 : decode cX9_energyNow 11 = .ok (.aload_n 0, 1) := by decide +kernel
theorem dX9_energyNow_12 : decode cX9_energyNow 12 = .ok (.getfield 9, 3) := by decide +kernel
theorem dX9_energyNow_15 : decode cX9_energyNow 15 = .ok (.iconst 1, 1) := by decide +kernel
theorem dX9_energyNow_16 : decode cX9_energyNow 16 = .ok (.iaload, 1) := by decide +kernel
theorem dX9_energyNow_17 : decode cX9_energyNow 17 = .ok (.i2l, 1) := by decide +kernel
theorem dX9_energyNow_18 : decode cX9_energyNow 18 = .ok (.lmul, 1) := by decide +kernel
theorem dX9_energyNow_19 : decode cX9_energyNow 19 = .ok (.aload_n 0, 1) := by decide +kernel
theorem dX9_energyNow_20 : decode cX9_energyNow 20 = .ok (.getfield 9, 3) := by decide +kernel
theorem dX9_energyNow_23 : decode cX9_energyNow 23 = .ok (.iconst 2, 1) := by decide +kernel
theorem dX9_energyNow_24 : decode cX9_energyNow 24 = .ok (.iaload, 1) := by decide +kernel
theorem dX9_energyNow_25 : decode cX9_energyNow 25 = .ok (.i2l, 1) := by decide +kernel
theorem dX9_energyNow_26 : decode cX9_energyNow 26 = .ok (.aload_n 0, 1) := by decide +kernel
theorem dX9_energyNow_27 : decode cX9_energyNow 27 = .ok (.getfield 9, 3) := by decide +kernel
theorem dX9_energyNow_30 : decode cX9_energyNow 30 = .ok (.iconst 0, 1) := by decide +kernel
theorem dX9_energyNow_31 : decode cX9_energyNow 31 = .ok (.iaload, 1) := by decide +kernel
theorem dX9_energyNow_32 : decode cX9_energyNow 32 = .ok (.i2l, 1) := by decide +kernel
theorem dX9_energyNow_33 : decode cX9_energyNow 33 = .ok (.lmul, 1) := by decide +kernel
theorem dX9_energyNow_34 : decode cX9_energyNow 34 = .ok (.aload_n 0, 1) := by decide +kernel
theorem dX9_energyNow_35 : decode cX9_energyNow 35 = .ok (.getfield 9, 3) := by decide +kernel
theorem dX9_energyNow_38 : decode cX9_energyNow 38 = .ok (.iconst 0, 1) := by decide +kernel
theorem dX9_energyNow_39 : decode cX9_energyNow 39 = .ok (.iaload, 1) := by decide +kernel
theorem dX9_energyNow_40 : decode cX9_energyNow 40 = .ok (.i2l, 1) := by decide +kernel
theorem dX9_energyNow_41 : decode cX9_energyNow 41 = .ok (.lmul, 1) := by decide +kernel
theorem dX9_energyNow_42 : decode cX9_energyNow 42 = .ok (.ladd, 1) := by decide +kernel
theorem dX9_energyNow_43 : decode cX9_energyNow 43 = .ok (.lreturn, 1) := by decide +kernel
theorem dX9_set_0 : decode cX9_set 0 = .ok (.iload_n 1, 1) := by decide +kernel
theorem dX9_set_1 : decode cX9_set 1 = .ok (.iconst 0, 1) := by decide +kernel
theorem dX9_set_2 : decode cX9_set 2 = .ok (.bipush 6, 2) := by decide +kernel
theorem dX9_set_4 : decode cX9_set 4 = .ok (.invokestatic 55, 3) := by decide +kernel
theorem dX9_set_7 : decode cX9_set 7 = .ok (.ifCond .ne 7, 3) := by decide +kernel
theorem dX9_set_10 : decode cX9_set 10 = .ok (.sipush (-1000), 3) := by decide +kernel
theorem dX9_set_13 : decode cX9_set 13 = .ok (.ireturn, 1) := by decide +kernel
theorem dX9_set_14 : decode cX9_set 14 = .ok (.iload_n 1, 1) := by decide +kernel
theorem dX9_set_15 : decode cX9_set 15 = .ok (.iload_n 2, 1) := by decide +kernel
theorem dX9_set_16 : decode cX9_set 16 = .ok (.invokestatic 61, 3) := by decide +kernel
theorem dX9_set_19 : decode cX9_set 19 = .ok (.ifCond .ne 7, 3) := by decide +kernel
theorem dX9_set_22 : decode cX9_set 22 = .ok (.sipush (-1001), 3) := by decide +kernel
theorem dX9_set_25 : decode cX9_set 25 = .ok (.ireturn, 1) := by decide +kernel
theorem dX9_set_26 : decode cX9_set 26 = .ok (.aload_n 0, 1) := by decide +kernel
theorem dX9_set_27 : decode cX9_set 27 = .ok (.getfield 9, 3) := by decide +kernel
theorem dX9_set_30 : decode cX9_set 30 = .ok (.iload_n 1, 1) := by decide +kernel
theorem dX9_set_31 : decode cX9_set 31 = .ok (.iaload, 1) := by decide +kernel
theorem dX9_set_32 : decode cX9_set 32 = .ok (.istore_n 3, 1) := by decide +kernel
theorem dX9_set_33 : decode cX9_set 33 = .ok (.aload_n 0, 1) := by decide +kernel
theorem dX9_set_34 : decode cX9_set 34 = .ok (.invokevirtual 65, 3) := by decide +kernel
theorem dX9_set_37 : decode cX9_set 37 = .ok (.lstore 4, 2) := by decide +kernel
theorem dX9_set_39 : decode cX9_set 39 = .ok (.aload_n 0, 1) := by decide +kernel
theorem dX9_set_40 : decode cX9_set 40 = .ok (.getfield 9, 3) := by decide +kernel
theorem dX9_set_43 : decode cX9_set 43 = .ok (.iload_n 1, 1) := by decide +kernel
theorem dX9_set_44 : decode cX9_set 44 = .ok (.iload_n 2, 1) := by decide +kernel
theorem dX9_set_45 : decode cX9_set 45 = .ok (.iastore, 1) := by decide +kernel
theorem dX9_set_46 : decode cX9_set 46 = .ok (.aload_n 0, 1) := by decide +kernel
theorem dX9_set_47 : decode cX9_set 47 = .ok (.getfield 21, 3) := by decide +kernel
theorem dX9_set_50 : decode cX9_set 50 = .ok (.iconst 0, 1) := by decide +kernel
theorem dX9_set_51 : decode cX9_set 51 = .ok (.dup2, 1) := by decide +kernel
theorem dX9_set_52 : decode cX9_set 52 = .ok (.laload, 1) := by decide +kernel
theorem dX9_set_53 : decode cX9_set 53 = .ok (.aload_n 0, 1) := by decide +kernel
theorem dX9_set_54 : decode cX9_set 54 = .ok (.invokevirtual 65, 3) := by decide +kernel
theorem dX9_set_57 : decode cX9_set 57 = .ok (.lload 4, 2) := by decide +kernel
theorem dX9_set_59 : decode cX9_set 59 = .ok (.lsub, 1) := by decide +kernel
theorem dX9_set_60 : decode cX9_set 60 = .ok (.ladd, 1) := by decide +kernel
theorem dX9_set_61 : decode cX9_set 61 = .ok (.lastore, 1) := by decide +kernel
theorem dX9_set_62 : decode cX9_set 62 = .ok (.iload_n 3, 1) := by decide +kernel
theorem dX9_set_63 : decode cX9_set 63 = .ok (.ireturn, 1) := by decide +kernel
theorem dX9_told_0 : decode cX9_told 0 = .ok (.iload_n 1, 1) := by decide +kernel
theorem dX9_told_1 : decode cX9_told 1 = .ok (.iconst 0, 1) := by decide +kernel
theorem dX9_told_2 : decode cX9_told 2 = .ok (.bipush 12, 2) := by decide +kernel
theorem dX9_told_4 : decode cX9_told 4 = .ok (.invokestatic 55, 3) := by decide +kernel
theorem dX9_told_7 : decode cX9_told 7 = .ok (.ifCond .eq 12, 3) := by decide +kernel
theorem dX9_told_10 : decode cX9_told 10 = .ok (.aload_n 0, 1) := by decide +kernel
theorem dX9_told_11 : decode cX9_told 11 = .ok (.getfield 9, 3) := by decide +kernel
theorem dX9_told_14 : decode cX9_told 14 = .ok (.iload_n 1, 1) := by decide +kernel
theorem dX9_told_15 : decode cX9_told 15 = .ok (.iaload, 1) := by decide +kernel
theorem dX9_told_16 : decode cX9_told 16 = .ok (.goto 6, 3) := by decide +kernel
theorem dX9_told_19 : decode cX9_told 19 = .ok (.sipush (-1000), 3) := by decide +kernel
theorem dX9_told_22 : decode cX9_told 22 = .ok (.ireturn, 1) := by decide +kernel
theorem dX9_push_0 : decode cX9_push 0 = .ok (.iload_n 2, 1) := by decide +kernel
theorem dX9_push_1 : decode cX9_push 1 = .ok (.iconst 0, 1) := by decide +kernel
theorem dX9_push_2 : decode cX9_push 2 = .ok (.iconst 3, 1) := by decide +kernel
theorem dX9_push_3 : decode cX9_push 3 = .ok (.invokestatic 55, 3) := by decide +kernel
theorem dX9_push_6 : decode cX9_push 6 = .ok (.ifCond .ne 5, 3) := by decide +kernel
theorem dX9_push_9 : decode cX9_push 9 = .ok (.iconst (-1), 1) := by decide +kernel
theorem dX9_push_10 : decode cX9_push 10 = .ok (.ireturn, 1) := by decide +kernel
theorem dX9_push_11 : decode cX9_push 11 = .ok (.iload_n 1, 1) := by decide +kernel
theorem dX9_push_12 : decode cX9_push 12 = .ok (.aload_n 0, 1) := by decide +kernel
theorem dX9_push_13 : decode cX9_push 13 = .ok (.getfield 9, 3) := by decide +kernel
theorem dX9_push_16 : decode cX9_push 16 = .ok (.bipush 8, 2) := by decide +kernel
theorem dX9_push_18 : decode cX9_push 18 = .ok (.iaload, 1) := by decide +kernel
theorem dX9_push_19 : decode cX9_push 19 = .ok (.ldc 69, 2) := by decide +kernel
theorem dX9_push_21 : decode cX9_push 21 = .ok (.invokestatic 55, 3) := by decide +kernel
theorem dX9_push_24 : decode cX9_push 24 = .ok (.ifCond .eq 53, 3) := by decide +kernel
theorem dX9_push_27 : decode cX9_push 27 = .ok (.iload_n 3, 1) := by decide +kernel
theorem dX9_push_28 : decode cX9_push 28 = .ok (.iload_n 2, 1) := by decide +kernel
theorem dX9_push_29 : decode cX9_push 29 = .ok (.iconst 2, 1) := by decide +kernel
theorem dX9_push_30 : decode cX9_push 30 = .ok (.if_icmp .ne 8, 3) := by decide +kernel
theorem dX9_push_33 : decode cX9_push 33 = .ok (.bipush (-20), 2) := by decide +kernel
theorem dX9_push_35 : decode cX9_push 35 = .ok (.goto 14, 3) := by decide +kernel
theorem dX9_push_38 : decode cX9_push 38 = .ok (.iload_n 2, 1) := by decide +kernel
theorem dX9_push_39 : decode cX9_push 39 = .ok (.iconst 3, 1) := by decide +kernel
theorem dX9_push_40 : decode cX9_push 40 = .ok (.if_icmp .ne 7, 3) := by decide +kernel
theorem dX9_push_43 : decode cX9_push 43 = .ok (.iconst 0, 1) := by decide +kernel
theorem dX9_push_44 : decode cX9_push 44 = .ok (.goto 5, 3) := by decide +kernel
theorem dX9_push_47 : decode cX9_push 47 = .ok (.bipush (-99), 2) := by decide +kernel
theorem dX9_push_49 : decode cX9_push 49 = .ok (.iload_n 2, 1) := by decide +kernel
theorem dX9_push_50 : decode cX9_push 50 = .ok (.iconst 2, 1) := by decide +kernel
theorem dX9_push_51 : decode cX9_push 51 = .ok (.if_icmp .ne 8, 3) := by decide +kernel
theorem dX9_push_54 : decode cX9_push 54 = .ok (.bipush 20, 2) := by decide +kernel
theorem dX9_push_56 : decode cX9_push 56 = .ok (.goto 15, 3) := by decide +kernel
theorem dX9_push_59 : decode cX9_push 59 = .ok (.iload_n 2, 1) := by decide +kernel
theorem dX9_push_60 : decode cX9_push 60 = .ok (.iconst 3, 1) := by decide +kernel
theorem dX9_push_61 : decode cX9_push 61 = .ok (.if_icmp .ne 8, 3) := by decide +kernel
theorem dX9_push_64 : decode cX9_push 64 = .ok (.bipush 9, 2) := by decide +kernel
theorem dX9_push_66 : decode cX9_push 66 = .ok (.goto 5, 3) := by decide +kernel
theorem dX9_push_69 : decode cX9_push 69 = .ok (.bipush 99, 2) := by decide +kernel
theorem dX9_push_71 : decode cX9_push 71 = .ok (.invokestatic 55, 3) := by decide +kernel
theorem dX9_push_74 : decode cX9_push 74 = .ok (.ifCond .ne 6, 3) := by decide +kernel
theorem dX9_push_77 : decode cX9_push 77 = .ok (.bipush (-2), 2) := by decide +kernel
theorem dX9_push_79 : decode cX9_push 79 = .ok (.ireturn, 1) := by decide +kernel
theorem dX9_push_80 : decode cX9_push 80 = .ok (.aload_n 0, 1) := by decide +kernel
theorem dX9_push_81 : decode cX9_push 81 = .ok (.getfield 9, 3) := by decide +kernel
theorem dX9_push_84 : decode cX9_push 84 = .ok (.bipush 11, 2) := by decide +kernel
theorem dX9_push_86 : decode cX9_push 86 = .ok (.iaload, 1) := by decide +kernel
theorem dX9_push_87 : decode cX9_push 87 = .ok (.bipush 8, 2) := by decide +kernel
theorem dX9_push_89 : decode cX9_push 89 = .ok (.if_icmp .ne 6, 3) := by decide +kernel
theorem dX9_push_92 : decode cX9_push 92 = .ok (.bipush (-4), 2) := by decide +kernel
theorem dX9_push_94 : decode cX9_push 94 = .ok (.ireturn, 1) := by decide +kernel
theorem dX9_push_95 : decode cX9_push 95 = .ok (.bipush 15, 2) := by decide +kernel
theorem dX9_push_97 : decode cX9_push 97 = .ok (.iconst 3, 1) := by decide +kernel
theorem dX9_push_98 : decode cX9_push 98 = .ok (.aload_n 0, 1) := by decide +kernel
theorem dX9_push_99 : decode cX9_push 99 = .ok (.getfield 9, 3) := by decide +kernel
theorem dX9_push_102 : decode cX9_push 102 = .ok (.bipush 11, 2) := by decide +kernel
theorem dX9_push_104 : decode cX9_push 104 = .ok (.iaload, 1) := by decide +kernel
theorem dX9_push_105 : decode cX9_push 105 = .ok (.imul, 1) := by decide +kernel
theorem dX9_push_106 : decode cX9_push 106 = .ok (.iadd, 1) := by decide +kernel
theorem dX9_push_107 : decode cX9_push 107 = .ok (.istore 4, 2) := by decide +kernel
theorem dX9_push_109 : decode cX9_push 109 = .ok (.aload_n 0, 1) := by decide +kernel
theorem dX9_push_110 : decode cX9_push 110 = .ok (.getfield 9, 3) := by decide +kernel
theorem dX9_push_113 : decode cX9_push 113 = .ok (.iload 4, 2) := by decide +kernel
theorem dX9_push_115 : decode cX9_push 115 = .ok (.iload_n 1, 1) := by decide +kernel
theorem dX9_push_116 : decode cX9_push 116 = .ok (.iastore, 1) := by decide +kernel
theorem dX9_push_117 : decode cX9_push 117 = .ok (.aload_n 0, 1) := by decide +kernel
theorem dX9_push_118 : decode cX9_push 118 = .ok (.getfield 9, 3) := by decide +kernel
theorem dX9_push_121 : decode cX9_push 121 = .ok (.iload 4, 2) := by decide +kernel
theorem dX9_push_123 : decode cX9_push 123 = .ok (.iconst 1, 1) := by decide +kernel
theorem dX9_push_124 : decode cX9_push 124 = .ok (.iadd, 1) := by decide +kernel
theorem dX9_push_125 : decode cX9_push 125 = .ok (.iload_n 2, 1) := by decide +kernel
theorem dX9_push_126 : decode cX9_push 126 = .ok (.iastore, 1) := by decide +kernel
theorem dX9_push_127 : decode cX9_push 127 = .ok (.aload_n 0, 1) := by decide +kernel
theorem dX9_push_128 : decode cX9_push 128 = .ok (.getfield 9, 3) := by decide +kernel
theorem dX9_push_131 : decode cX9_push 131 = .ok (.iload 4, 2) := by decide +kernel
theorem dX9_push_133 : decode cX9_push 133 = .ok (.iconst 2, 1) := by decide +kernel
theorem dX9_push_134 : decode cX9_push 134 = .ok (.iadd, 1) := by decide +kernel
theorem dX9_push_135 : decode cX9_push 135 = .ok (.iload_n 3, 1) := by decide +kernel
theorem dX9_push_136 : decode cX9_push 136 = .ok (.iastore, 1) := by decide +kernel
theorem dX9_push_137 : decode cX9_push 137 = .ok (.aload_n 0, 1) := by decide +kernel
theorem dX9_push_138 : decode cX9_push 138 = .ok (.getfield 9, 3) := by decide +kernel
theorem dX9_push_141 : decode cX9_push 141 = .ok (.bipush 11, 2) := by decide +kernel
theorem dX9_push_143 : decode cX9_push 143 = .ok (.dup2, 1) := by decide +kernel
theorem dX9_push_144 : decode cX9_push 144 = .ok (.iaload, 1) := by decide +kernel
theorem dX9_push_145 : decode cX9_push 145 = .ok (.iconst 1, 1) := by decide +kernel
theorem dX9_push_146 : decode cX9_push 146 = .ok (.iadd, 1) := by decide +kernel
theorem dX9_push_147 : decode cX9_push 147 = .ok (.dup_x2, 1) := by decide +kernel
theorem dX9_push_148 : decode cX9_push 148 = .ok (.iastore, 1) := by decide +kernel
theorem dX9_push_149 : decode cX9_push 149 = .ok (.ireturn, 1) := by decide +kernel
theorem dX9_pushOf_0 : decode cX9_pushOf 0 = .ok (.iload_n 1, 1) := by decide +kernel
theorem dX9_pushOf_1 : decode cX9_pushOf 1 = .ok (.iconst 0, 1) := by decide +kernel
theorem dX9_pushOf_2 : decode cX9_pushOf 2 = .ok (.aload_n 0, 1) := by decide +kernel
theorem dX9_pushOf_3 : decode cX9_pushOf 3 = .ok (.getfield 9, 3) := by decide +kernel
theorem dX9_pushOf_6 : decode cX9_pushOf 6 = .ok (.bipush 11, 2) := by decide +kernel
theorem dX9_pushOf_8 : decode cX9_pushOf 8 = .ok (.iaload, 1) := by decide +kernel
theorem dX9_pushOf_9 : decode cX9_pushOf 9 = .ok (.iconst 1, 1) := by decide +kernel
theorem dX9_pushOf_10 : decode cX9_pushOf 10 = .ok (.isub, 1) := by decide +kernel
theorem dX9_pushOf_11 : decode cX9_pushOf 11 = .ok (.invokestatic 55, 3) := by decide +kernel
theorem dX9_pushOf_14 : decode cX9_pushOf 14 = .ok (.ifCond .eq 12, 3) := by decide +kernel
theorem dX9_pushOf_17 : decode cX9_pushOf 17 = .ok (.iload_n 2, 1) := by decide +kernel
theorem dX9_pushOf_18 : decode cX9_pushOf 18 = .ok (.iconst 0, 1) := by decide +kernel
theorem dX9_pushOf_19 : decode cX9_pushOf 19 = .ok (.iconst 2, 1) := by decide +kernel
theorem dX9_pushOf_20 : decode cX9_pushOf 20 = .ok (.invokestatic 55, 3) := by decide +kernel
theorem dX9_pushOf_23 : decode cX9_pushOf 23 = .ok (.ifCond .ne 7, 3) := by decide +kernel
theorem dX9_pushOf_26 : decode cX9_pushOf 26 = .ok (.sipush (-1000), 3) := by decide +kernel
theorem dX9_pushOf_29 : decode cX9_pushOf 29 = .ok (.ireturn, 1) := by decide +kernel
theorem dX9_pushOf_30 : decode cX9_pushOf 30 = .ok (.iconst 0, 1) := by decide +kernel
theorem dX9_pushOf_31 : decode cX9_pushOf 31 = .ok (.istore_n 3, 1) := by decide +kernel
theorem dX9_pushOf_32 : decode cX9_pushOf 32 = .ok (.iload_n 3, 1) := by decide +kernel
theorem dX9_pushOf_33 : decode cX9_pushOf 33 = .ok (.aload_n 0, 1) := by decide +kernel
theorem dX9_pushOf_34 : decode cX9_pushOf 34 = .ok (.getfield 9, 3) := by decide +kernel
theorem dX9_pushOf_37 : decode cX9_pushOf 37 = .ok (.bipush 11, 2) := by decide +kernel
theorem dX9_pushOf_39 : decode cX9_pushOf 39 = .ok (.iaload, 1) := by decide +kernel
theorem dX9_pushOf_40 : decode cX9_pushOf 40 = .ok (.if_icmp .ge 98, 3) := by decide +kernel
theorem dX9_pushOf_43 : decode cX9_pushOf 43 = .ok (.iconst 0, 1) := by decide +kernel
theorem dX9_pushOf_44 : decode cX9_pushOf 44 = .ok (.istore 4, 2) := by decide +kernel
theorem dX9_pushOf_46 : decode cX9_pushOf 46 = .ok (.iconst 0, 1) := by decide +kernel
theorem dX9_pushOf_47 : decode cX9_pushOf 47 = .ok (.istore 5, 2) := by decide +kernel
theorem dX9_pushOf_49 : decode cX9_pushOf 49 = .ok (.iload 5, 2) := by decide +kernel
theorem dX9_pushOf_51 : decode cX9_pushOf 51 = .ok (.aload_n 0, 1) := by decide +kernel
theorem dX9_pushOf_52 : decode cX9_pushOf 52 = .ok (.getfield 9, 3) := by decide +kernel
theorem dX9_pushOf_55 : decode cX9_pushOf 55 = .ok (.bipush 11, 2) := by decide +kernel
theorem dX9_pushOf_57 : decode cX9_pushOf 57 = .ok (.iaload, 1) := by decide +kernel
theorem dX9_pushOf_58 : decode cX9_pushOf 58 = .ok (.if_icmp .ge 54, 3) := by decide +kernel
theorem dX9_pushOf_61 : decode cX9_pushOf 61 = .ok (.aload_n 0, 1) := by decide +kernel
theorem dX9_pushOf_62 : decode cX9_pushOf 62 = .ok (.getfield 9, 3) := by decide +kernel
theorem dX9_pushOf_65 : decode cX9_pushOf 65 = .ok (.bipush 15, 2) := by decide +kernel
theorem dX9_pushOf_67 : decode cX9_pushOf 67 = .ok (.iconst 3, 1) := by decide +kernel
theorem dX9_pushOf_68 : decode cX9_pushOf 68 = .ok (.iload 5, 2) := by decide +kernel
theorem dX9_pushOf_70 : decode cX9_pushOf 70 = .ok (.imul, 1) := by decide +kernel
theorem dX9_pushOf_71 : decode cX9_pushOf 71 = .ok (.iadd, 1) := by decide +kernel
theorem dX9_pushOf_72 : decode cX9_pushOf 72 = .ok (.iaload, 1) := by decide +kernel
theorem dX9_pushOf_73 : decode cX9_pushOf 73 = .ok (.aload_n 0, 1) := by decide +kernel
theorem dX9_pushOf_74 : decode cX9_pushOf 74 = .ok (.getfield 9, 3) := by decide +kernel
theorem dX9_pushOf_77 : decode cX9_pushOf 77 = .ok (.bipush 15, 2) := by decide +kernel
theorem dX9_pushOf_79 : decode cX9_pushOf 79 = .ok (.iconst 3, 1) := by decide +kernel
theorem dX9_pushOf_80 : decode cX9_pushOf 80 = .ok (.iload_n 3, 1) := by decide +kernel
theorem dX9_pushOf_81 : decode cX9_pushOf 81 = .ok (.imul, 1) := by decide +kernel
theorem dX9_pushOf_82 : decode cX9_pushOf 82 = .ok (.iadd, 1) := by decide +kernel
theorem dX9_pushOf_83 : decode cX9_pushOf 83 = .ok (.iaload, 1) := by decide +kernel
theorem dX9_pushOf_84 : decode cX9_pushOf 84 = .ok (.isub, 1) := by decide +kernel
theorem dX9_pushOf_85 : decode cX9_pushOf 85 = .ok (.istore 6, 2) := by decide +kernel
theorem dX9_pushOf_87 : decode cX9_pushOf 87 = .ok (.iload 6, 2) := by decide +kernel
theorem dX9_pushOf_89 : decode cX9_pushOf 89 = .ok (.ifCond .lt 14, 3) := by decide +kernel
theorem dX9_pushOf_92 : decode cX9_pushOf 92 = .ok (.iload 6, 2) := by decide +kernel
theorem dX9_pushOf_94 : decode cX9_pushOf 94 = .ok (.ifCond .ne 12, 3) := by decide +kernel
theorem dX9_pushOf_97 : decode cX9_pushOf 97 = .ok (.iload 5, 2) := by decide +kernel
theorem dX9_pushOf_99 : decode cX9_pushOf 99 = .ok (.iload_n 3, 1) := by decide +kernel
theorem dX9_pushOf_100 : decode cX9_pushOf 100 = .ok (.if_icmp .ge 6, 3) := by decide +kernel
theorem dX9_pushOf_103 : decode cX9_pushOf 103 = .ok (.iinc 4 1, 3) := by decide +kernel
theorem dX9_pushOf_106 : decode cX9_pushOf 106 = .ok (.iinc 5 1, 3) := by decide +kernel
theorem dX9_pushOf_109 : decode cX9_pushOf 109 = .ok (.goto (-60), 3) := by decide +kernel
theorem dX9_pushOf_112 : decode cX9_pushOf 112 = .ok (.iload 4, 2) := by decide +kernel
theorem dX9_pushOf_114 : decode cX9_pushOf 114 = .ok (.iload_n 1, 1) := by decide +kernel
theorem dX9_pushOf_115 : decode cX9_pushOf 115 = .ok (.if_icmp .ne 17, 3) := by decide +kernel
theorem dX9_pushOf_118 : decode cX9_pushOf 118 = .ok (.aload_n 0, 1) := by decide +kernel
theorem dX9_pushOf_119 : decode cX9_pushOf 119 = .ok (.getfield 9, 3) := by decide +kernel
theorem dX9_pushOf_122 : decode cX9_pushOf 122 = .ok (.bipush 15, 2) := by decide +kernel
theorem dX9_pushOf_124 : decode cX9_pushOf 124 = .ok (.iconst 3, 1) := by decide +kernel
theorem dX9_pushOf_125 : decode cX9_pushOf 125 = .ok (.iload_n 3, 1) := by decide +kernel
theorem dX9_pushOf_126 : decode cX9_pushOf 126 = .ok (.imul, 1) := by decide +kernel
theorem dX9_pushOf_127 : decode cX9_pushOf 127 = .ok (.iadd, 1) := by decide +kernel
theorem dX9_pushOf_128 : decode cX9_pushOf 128 = .ok (.iload_n 2, 1) := by decide +kernel
theorem dX9_pushOf_129 : decode cX9_pushOf 129 = .ok (.iadd, 1) := by decide +kernel
theorem dX9_pushOf_130 : decode cX9_pushOf 130 = .ok (.iaload, 1) := by decide +kernel
theorem dX9_pushOf_131 : decode cX9_pushOf 131 = .ok (.ireturn, 1) := by decide +kernel
theorem dX9_pushOf_132 : decode cX9_pushOf 132 = .ok (.iinc 3 1, 3) := by decide +kernel
theorem dX9_pushOf_135 : decode cX9_pushOf 135 = .ok (.goto (-103), 3) := by decide +kernel
theorem dX9_pushOf_138 : decode cX9_pushOf 138 = .ok (.sipush (-1000), 3) := by decide +kernel
theorem dX9_pushOf_141 : decode cX9_pushOf 141 = .ok (.ireturn, 1) := by decide +kernel
theorem dX9_pushes_0 : decode cX9_pushes 0 = .ok (.iconst 0, 1) := by decide +kernel
theorem dX9_pushes_1 : decode cX9_pushes 1 = .ok (.istore_n 1, 1) := by decide +kernel
theorem dX9_pushes_2 : decode cX9_pushes 2 = .ok (.aload_n 0, 1) := by decide +kernel
theorem dX9_pushes_3 : decode cX9_pushes 3 = .ok (.getfield 9, 3) := by decide +kernel
theorem dX9_pushes_6 : decode cX9_pushes 6 = .ok (.bipush 11, 2) := by decide +kernel
theorem dX9_pushes_8 : decode cX9_pushes 8 = .ok (.iaload, 1) := by decide +kernel
theorem dX9_pushes_9 : decode cX9_pushes 9 = .ok (.istore_n 2, 1) := by decide +kernel
theorem dX9_pushes_10 : decode cX9_pushes 10 = .ok (.iconst 0, 1) := by decide +kernel
theorem dX9_pushes_11 : decode cX9_pushes 11 = .ok (.istore_n 3, 1) := by decide +kernel
theorem dX9_pushes_12 : decode cX9_pushes 12 = .ok (.iload_n 3, 1) := by decide +kernel
theorem dX9_pushes_13 : decode cX9_pushes 13 = .ok (.iload_n 2, 1) := by decide +kernel
theorem dX9_pushes_14 : decode cX9_pushes 14 = .ok (.if_icmp .ge 184, 3) := by decide +kernel
theorem dX9_pushes_17 : decode cX9_pushes 17 = .ok (.bipush 15, 2) := by decide +kernel
theorem dX9_pushes_19 : decode cX9_pushes 19 = .ok (.iconst 3, 1) := by decide +kernel
theorem dX9_pushes_20 : decode cX9_pushes 20 = .ok (.iload_n 3, 1) := by decide +kernel
theorem dX9_pushes_21 : decode cX9_pushes 21 = .ok (.imul, 1) := by decide +kernel
theorem dX9_pushes_22 : decode cX9_pushes 22 = .ok (.iadd, 1) := by decide +kernel
theorem dX9_pushes_23 : decode cX9_pushes 23 = .ok (.istore 4, 2) := by decide +kernel
theorem dX9_pushes_25 : decode cX9_pushes 25 = .ok (.aload_n 0, 1) := by decide +kernel
theorem dX9_pushes_26 : decode cX9_pushes 26 = .ok (.getfield 9, 3) := by decide +kernel
theorem dX9_pushes_29 : decode cX9_pushes 29 = .ok (.iload 4, 2) := by decide +kernel
theorem dX9_pushes_31 : decode cX9_pushes 31 = .ok (.iconst 2, 1) := by decide +kernel
theorem dX9_pushes_32 : decode cX9_pushes 32 = .ok (.iadd, 1) := by decide +kernel
theorem dX9_pushes_33 : decode cX9_pushes 33 = .ok (.iaload, 1) := by decide +kernel
theorem dX9_pushes_34 : decode cX9_pushes 34 = .ok (.istore 5, 2) := by decide +kernel
theorem dX9_pushes_36 : decode cX9_pushes 36 = .ok (.aload_n 0, 1) := by decide +kernel
theorem dX9_pushes_37 : decode cX9_pushes 37 = .ok (.getfield 9, 3) := by decide +kernel
theorem dX9_pushes_40 : decode cX9_pushes 40 = .ok (.iload 4, 2) := by decide +kernel
theorem dX9_pushes_42 : decode cX9_pushes 42 = .ok (.iaload, 1) := by decide +kernel
theorem dX9_pushes_43 : decode cX9_pushes 43 = .ok (.aload_n 0, 1) := by decide +kernel
theorem dX9_pushes_44 : decode cX9_pushes 44 = .ok (.getfield 9, 3) := by decide +kernel
theorem dX9_pushes_47 : decode cX9_pushes 47 = .ok (.bipush 8, 2) := by decide +kernel
theorem dX9_pushes_49 : decode cX9_pushes 49 = .ok (.iaload, 1) := by decide +kernel
theorem dX9_pushes_50 : decode cX9_pushes 50 = .ok (.if_icmp .eq 48, 3) := by decide +kernel
theorem dX9_pushes_53 : decode cX9_pushes 53 = .ok (.iconst 0, 1) := by decide +kernel
theorem dX9_pushes_54 : decode cX9_pushes 54 = .ok (.istore 6, 2) := by decide +kernel
theorem dX9_pushes_56 : decode cX9_pushes 56 = .ok (.iload 6, 2) := by decide +kernel
theorem dX9_pushes_58 : decode cX9_pushes 58 = .ok (.iconst 3, 1) := by decide +kernel
theorem dX9_pushes_59 : decode cX9_pushes 59 = .ok (.if_icmp .ge 33, 3) := by decide +kernel
theorem dX9_pushes_62 : decode cX9_pushes 62 = .ok (.aload_n 0, 1) := by decide +kernel
theorem dX9_pushes_63 : decode cX9_pushes 63 = .ok (.getfield 9, 3) := by decide +kernel
theorem dX9_pushes_66 : decode cX9_pushes 66 = .ok (.bipush 15, 2) := by decide +kernel
theorem dX9_pushes_68 : decode cX9_pushes 68 = .ok (.iconst 3, 1) := by decide +kernel
theorem dX9_pushes_69 : decode cX9_pushes 69 = .ok (.iload_n 1, 1) := by decide +kernel
theorem dX9_pushes_70 : decode cX9_pushes 70 = .ok (.imul, 1) := by decide +kernel
theorem dX9_pushes_71 : decode cX9_pushes 71 = .ok (.iadd, 1) := by decide +kernel
theorem dX9_pushes_72 : decode cX9_pushes 72 = .ok (.iload 6, 2) := by decide +kernel
theorem dX9_pushes_74 : decode cX9_pushes 74 = .ok (.iadd, 1) := by decide +kernel
theorem dX9_pushes_75 : decode cX9_pushes 75 = .ok (.aload_n 0, 1) := by decide +kernel
theorem dX9_pushes_76 : decode cX9_pushes 76 = .ok (.getfield 9, 3) := by decide +kernel
theorem dX9_pushes_79 : decode cX9_pushes 79 = .ok (.iload 4, 2) := by decide +kernel
theorem dX9_pushes_81 : decode cX9_pushes 81 = .ok (.iload 6, 2) := by decide +kernel
theorem dX9_pushes_83 : decode cX9_pushes 83 = .ok (.iadd, 1) := by decide +kernel
theorem dX9_pushes_84 : decode cX9_pushes 84 = .ok (.iaload, 1) := by decide +kernel
theorem dX9_pushes_85 : decode cX9_pushes 85 = .ok (.iastore, 1) := by decide +kernel
theorem dX9_pushes_86 : decode cX9_pushes 86 = .ok (.iinc 6 1, 3) := by decide +kernel
theorem dX9_pushes_89 : decode cX9_pushes 89 = .ok (.goto (-33), 3) := by decide +kernel
theorem dX9_pushes_92 : decode cX9_pushes 92 = .ok (.iinc 1 1, 3) := by decide +kernel
theorem dX9_pushes_95 : decode cX9_pushes 95 = .ok (.goto 97, 3) := by decide +kernel
theorem dX9_pushes_98 : decode cX9_pushes 98 = .ok (.aload_n 0, 1) := by decide +kernel
theorem dX9_pushes_99 : decode cX9_pushes 99 = .ok (.getfield 9, 3) := by decide +kernel
theorem dX9_pushes_102 : decode cX9_pushes 102 = .ok (.iload 4, 2) := by decide +kernel
theorem dX9_pushes_104 : decode cX9_pushes 104 = .ok (.iconst 1, 1) := by decide +kernel
theorem dX9_pushes_105 : decode cX9_pushes 105 = .ok (.iadd, 1) := by decide +kernel
theorem dX9_pushes_106 : decode cX9_pushes 106 = .ok (.iaload, 1) := by decide +kernel
theorem dX9_pushes_107 : decode cX9_pushes 107 = .ok (.tableswitch 77 0 2 #[25, 39, 66], 25) := by decide +kernel
theorem dX9_pushes_132 : decode cX9_pushes 132 = .ok (.aload_n 0, 1) := by decide +kernel
theorem dX9_pushes_133 : decode cX9_pushes 133 = .ok (.getfield 9, 3) := by decide +kernel
theorem dX9_pushes_136 : decode cX9_pushes 136 = .ok (.iconst 1, 1) := by decide +kernel
theorem dX9_pushes_137 : decode cX9_pushes 137 = .ok (.dup2, 1) := by decide +kernel
theorem dX9_pushes_138 : decode cX9_pushes 138 = .ok (.iaload, 1) := by decide +kernel
theorem dX9_pushes_139 : decode cX9_pushes 139 = .ok (.iload 5, 2) := by decide +kernel
theorem dX9_pushes_141 : decode cX9_pushes 141 = .ok (.iadd, 1) := by decide +kernel
theorem dX9_pushes_142 : decode cX9_pushes 142 = .ok (.iastore, 1) := by decide +kernel
theorem dX9_pushes_143 : decode cX9_pushes 143 = .ok (.goto 49, 3) := by decide +kernel
theorem dX9_pushes_146 : decode cX9_pushes 146 = .ok (.aload_n 0, 1) := by decide +kernel
theorem dX9_pushes_147 : decode cX9_pushes 147 = .ok (.getfield 9, 3) := by decide +kernel
theorem dX9_pushes_150 : decode cX9_pushes 150 = .ok (.iconst 5, 1) := by decide +kernel
theorem dX9_pushes_151 : decode cX9_pushes 151 = .ok (.iconst 0, 1) := by decide +kernel
theorem dX9_pushes_152 : decode cX9_pushes 152 = .ok (.bipush 60, 2) := by decide +kernel
theorem dX9_pushes_154 : decode cX9_pushes 154 = .ok (.aload_n 0, 1) := by decide +kernel
theorem dX9_pushes_155 : decode cX9_pushes 155 = .ok (.getfield 9, 3) := by decide +kernel
theorem dX9_pushes_158 : decode cX9_pushes 158 = .ok (.iconst 5, 1) := by decide +kernel
theorem dX9_pushes_159 : decode cX9_pushes 159 = .ok (.iaload, 1) := by decide +kernel
theorem dX9_pushes_160 : decode cX9_pushes 160 = .ok (.iload 5, 2) := by decide +kernel
theorem dX9_pushes_162 : decode cX9_pushes 162 = .ok (.iadd, 1) := by decide +kernel
theorem dX9_pushes_163 : decode cX9_pushes 163 = .ok (.invokestatic 70, 3) := by decide +kernel
theorem dX9_pushes_166 : decode cX9_pushes 166 = .ok (.invokestatic 76, 3) := by decide +kernel
theorem dX9_pushes_169 : decode cX9_pushes 169 = .ok (.iastore, 1) := by decide +kernel
theorem dX9_pushes_170 : decode cX9_pushes 170 = .ok (.goto 22, 3) := by decide +kernel
theorem dX9_pushes_173 : decode cX9_pushes 173 = .ok (.aload_n 0, 1) := by decide +kernel
theorem dX9_pushes_174 : decode cX9_pushes 174 = .ok (.getfield 9, 3) := by decide +kernel
theorem dX9_pushes_177 : decode cX9_pushes 177 = .ok (.iconst 4, 1) := by decide +kernel
theorem dX9_pushes_178 : decode cX9_pushes 178 = .ok (.iload 5, 2) := by decide +kernel
theorem dX9_pushes_180 : decode cX9_pushes 180 = .ok (.iastore, 1) := by decide +kernel
theorem dX9_pushes_181 : decode cX9_pushes 181 = .ok (.goto 11, 3) := by decide +kernel
theorem dX9_pushes_184 : decode cX9_pushes 184 = .ok (.aload_n 0, 1) := by decide +kernel
theorem dX9_pushes_185 : decode cX9_pushes 185 = .ok (.getfield 9, 3) := by decide +kernel
theorem dX9_pushes_188 : decode cX9_pushes 188 = .ok (.iconst 3, 1) := by decide +kernel
theorem dX9_pushes_189 : decode cX9_pushes 189 = .ok (.iload 5, 2) := by decide +kernel
theorem dX9_pushes_191 : decode cX9_pushes 191 = .ok (.iastore, 1) := by decide +kernel
theorem dX9_pushes_192 : decode cX9_pushes 192 = .ok (.iinc 3 1, 3) := by decide +kernel
theorem dX9_pushes_195 : decode cX9_pushes 195 = .ok (.goto (-183), 3) := by decide +kernel
theorem dX9_pushes_198 : decode cX9_pushes 198 = .ok (.aload_n 0, 1) := by decide +kernel
theorem dX9_pushes_199 : decode cX9_pushes 199 = .ok (.getfield 9, 3) := by decide +kernel
theorem dX9_pushes_202 : decode cX9_pushes 202 = .ok (.bipush 11, 2) := by decide +kernel
theorem dX9_pushes_204 : decode cX9_pushes 204 = .ok (.iload_n 1, 1) := by decide +kernel
theorem dX9_pushes_205 : decode cX9_pushes 205 = .ok (.iastore, 1) := by decide +kernel
theorem dX9_pushes_206 : decode cX9_pushes 206 = .ok (.return_, 1) := by decide +kernel
theorem dX9_accounts_0 : decode cX9_accounts 0 = .ok (.aload_n 0, 1) := by decide +kernel
theorem dX9_accounts_1 : decode cX9_accounts 1 = .ok (.invokevirtual 65, 3) := by decide +kernel
theorem dX9_accounts_4 : decode cX9_accounts 4 = .ok (.lstore 4, 2) := by decide +kernel
theorem dX9_accounts_6 : decode cX9_accounts 6 = .ok (.aload_n 0, 1) := by decide +kernel
theorem dX9_accounts_7 : decode cX9_accounts 7 = .ok (.getfield 21, 3) := by decide +kernel
theorem dX9_accounts_10 : decode cX9_accounts 10 = .ok (.iload_n 1, 1) := by decide +kernel
theorem dX9_accounts_11 : decode cX9_accounts 11 = .ok (.dup2, 1) := by decide +kernel
theorem dX9_accounts_12 : decode cX9_accounts 12 = .ok (.laload, 1) := by decide +kernel
theorem dX9_accounts_13 : decode cX9_accounts 13 = .ok (.lload 4, 2) := by decide +kernel
theorem dX9_accounts_15 : decode cX9_accounts 15 = .ok (.lload_n 2, 1) := by decide +kernel
theorem dX9_accounts_16 : decode cX9_accounts 16 = .ok (.lsub, 1) := by decide +kernel
theorem dX9_accounts_17 : decode cX9_accounts 17 = .ok (.ladd, 1) := by decide +kernel
theorem dX9_accounts_18 : decode cX9_accounts 18 = .ok (.lastore, 1) := by decide +kernel
theorem dX9_accounts_19 : decode cX9_accounts 19 = .ok (.lload 4, 2) := by decide +kernel
theorem dX9_accounts_21 : decode cX9_accounts 21 = .ok (.lreturn, 1) := by decide +kernel
theorem dX9_tick_0 : decode cX9_tick 0 = .ok (.aload_n 0, 1) := by decide +kernel
theorem dX9_tick_1 : decode cX9_tick 1 = .ok (.invokevirtual 65, 3) := by decide +kernel
theorem dX9_tick_4 : decode cX9_tick 4 = .ok (.lstore_n 1, 1) := by decide +kernel
theorem dX9_tick_5 : decode cX9_tick 5 = .ok (.aload_n 0, 1) := by decide +kernel
theorem dX9_tick_6 : decode cX9_tick 6 = .ok (.getfield 9, 3) := by decide +kernel
theorem dX9_tick_9 : decode cX9_tick 9 = .ok (.bipush 11, 2) := by decide +kernel
theorem dX9_tick_11 : decode cX9_tick 11 = .ok (.iaload, 1) := by decide +kernel
theorem dX9_tick_12 : decode cX9_tick 12 = .ok (.ifCond .le 7, 3) := by decide +kernel
theorem dX9_tick_15 : decode cX9_tick 15 = .ok (.aload_n 0, 1) := by decide +kernel
theorem dX9_tick_16 : decode cX9_tick 16 = .ok (.invokevirtual 79, 3) := by decide +kernel
theorem dX9_tick_19 : decode cX9_tick 19 = .ok (.aload_n 0, 1) := by decide +kernel
theorem dX9_tick_20 : decode cX9_tick 20 = .ok (.iconst 0, 1) := by decide +kernel
theorem dX9_tick_21 : decode cX9_tick 21 = .ok (.lload_n 1, 1) := by decide +kernel
theorem dX9_tick_22 : decode cX9_tick 22 = .ok (.invokevirtual 82, 3) := by decide +kernel
theorem dX9_tick_25 : decode cX9_tick 25 = .ok (.lstore_n 1, 1) := by decide +kernel
theorem dX9_tick_26 : decode cX9_tick 26 = .ok (.aload_n 0, 1) := by decide +kernel
theorem dX9_tick_27 : decode cX9_tick 27 = .ok (.getfield 9, 3) := by decide +kernel
theorem dX9_tick_30 : decode cX9_tick 30 = .ok (.iconst 1, 1) := by decide +kernel
theorem dX9_tick_31 : decode cX9_tick 31 = .ok (.dup2, 1) := by decide +kernel
theorem dX9_tick_32 : decode cX9_tick 32 = .ok (.iaload, 1) := by decide +kernel
theorem dX9_tick_33 : decode cX9_tick 33 = .ok (.aload_n 0, 1) := by decide +kernel
theorem dX9_tick_34 : decode cX9_tick 34 = .ok (.getfield 9, 3) := by decide +kernel
theorem dX9_tick_37 : decode cX9_tick 37 = .ok (.iconst 0, 1) := by decide +kernel
theorem dX9_tick_38 : decode cX9_tick 38 = .ok (.iaload, 1) := by decide +kernel
theorem dX9_tick_39 : decode cX9_tick 39 = .ok (.aload_n 0, 1) := by decide +kernel
theorem dX9_tick_40 : decode cX9_tick 40 = .ok (.getfield 9, 3) := by decide +kernel
theorem dX9_tick_43 : decode cX9_tick 43 = .ok (.iconst 2, 1) := by decide +kernel
theorem dX9_tick_44 : decode cX9_tick 44 = .ok (.iaload, 1) := by decide +kernel
theorem dX9_tick_45 : decode cX9_tick 45 = .ok (.imul, 1) := by decide +kernel
theorem dX9_tick_46 : decode cX9_tick 46 = .ok (.bipush 32, 2) := by decide +kernel
theorem dX9_tick_48 : decode cX9_tick 48 = .ok (.idiv, 1) := by decide +kernel
theorem dX9_tick_49 : decode cX9_tick 49 = .ok (.isub, 1) := by decide +kernel
theorem dX9_tick_50 : decode cX9_tick 50 = .ok (.iastore, 1) := by decide +kernel
theorem dX9_tick_51 : decode cX9_tick 51 = .ok (.aload_n 0, 1) := by decide +kernel
theorem dX9_tick_52 : decode cX9_tick 52 = .ok (.iconst 1, 1) := by decide +kernel
theorem dX9_tick_53 : decode cX9_tick 53 = .ok (.lload_n 1, 1) := by decide +kernel
theorem dX9_tick_54 : decode cX9_tick 54 = .ok (.invokevirtual 82, 3) := by decide +kernel
theorem dX9_tick_57 : decode cX9_tick 57 = .ok (.lstore_n 1, 1) := by decide +kernel
theorem dX9_tick_58 : decode cX9_tick 58 = .ok (.aload_n 0, 1) := by decide +kernel
theorem dX9_tick_59 : decode cX9_tick 59 = .ok (.getfield 9, 3) := by decide +kernel
theorem dX9_tick_62 : decode cX9_tick 62 = .ok (.iconst 1, 1) := by decide +kernel
theorem dX9_tick_63 : decode cX9_tick 63 = .ok (.iaload, 1) := by decide +kernel
theorem dX9_tick_64 : decode cX9_tick 64 = .ok (.istore_n 3, 1) := by decide +kernel
theorem dX9_tick_65 : decode cX9_tick 65 = .ok (.aload_n 0, 1) := by decide +kernel
theorem dX9_tick_66 : decode cX9_tick 66 = .ok (.getfield 9, 3) := by decide +kernel
theorem dX9_tick_69 : decode cX9_tick 69 = .ok (.iconst 1, 1) := by decide +kernel
theorem dX9_tick_70 : decode cX9_tick 70 = .ok (.iload_n 3, 1) := by decide +kernel
theorem dX9_tick_71 : decode cX9_tick 71 = .ok (.ifCond .le 18, 3) := by decide +kernel
theorem dX9_tick_74 : decode cX9_tick 74 = .ok (.iconst 0, 1) := by decide +kernel
theorem dX9_tick_75 : decode cX9_tick 75 = .ok (.iload_n 3, 1) := by decide +kernel
theorem dX9_tick_76 : decode cX9_tick 76 = .ok (.aload_n 0, 1) := by decide +kernel
theorem dX9_tick_77 : decode cX9_tick 77 = .ok (.getfield 9, 3) := by decide +kernel
theorem dX9_tick_80 : decode cX9_tick 80 = .ok (.iconst 3, 1) := by decide +kernel
theorem dX9_tick_81 : decode cX9_tick 81 = .ok (.iaload, 1) := by decide +kernel
theorem dX9_tick_82 : decode cX9_tick 82 = .ok (.isub, 1) := by decide +kernel
theorem dX9_tick_83 : decode cX9_tick 83 = .ok (.invokestatic 76, 3) := by decide +kernel
theorem dX9_tick_86 : decode cX9_tick 86 = .ok (.goto 15, 3) := by decide +kernel
theorem dX9_tick_89 : decode cX9_tick 89 = .ok (.iconst 0, 1) := by decide +kernel
theorem dX9_tick_90 : decode cX9_tick 90 = .ok (.iload_n 3, 1) := by decide +kernel
theorem dX9_tick_91 : decode cX9_tick 91 = .ok (.aload_n 0, 1) := by decide +kernel
theorem dX9_tick_92 : decode cX9_tick 92 = .ok (.getfield 9, 3) := by decide +kernel
theorem dX9_tick_95 : decode cX9_tick 95 = .ok (.iconst 3, 1) := by decide +kernel
theorem dX9_tick_96 : decode cX9_tick 96 = .ok (.iaload, 1) := by decide +kernel
theorem dX9_tick_97 : decode cX9_tick 97 = .ok (.iadd, 1) := by decide +kernel
theorem dX9_tick_98 : decode cX9_tick 98 = .ok (.invokestatic 70, 3) := by decide +kernel
theorem dX9_tick_101 : decode cX9_tick 101 = .ok (.iastore, 1) := by decide +kernel
theorem dX9_tick_102 : decode cX9_tick 102 = .ok (.aload_n 0, 1) := by decide +kernel
theorem dX9_tick_103 : decode cX9_tick 103 = .ok (.iconst 2, 1) := by decide +kernel
theorem dX9_tick_104 : decode cX9_tick 104 = .ok (.lload_n 1, 1) := by decide +kernel
theorem dX9_tick_105 : decode cX9_tick 105 = .ok (.invokevirtual 82, 3) := by decide +kernel
theorem dX9_tick_108 : decode cX9_tick 108 = .ok (.lstore_n 1, 1) := by decide +kernel
theorem dX9_tick_109 : decode cX9_tick 109 = .ok (.aload_n 0, 1) := by decide +kernel
theorem dX9_tick_110 : decode cX9_tick 110 = .ok (.getfield 9, 3) := by decide +kernel
theorem dX9_tick_113 : decode cX9_tick 113 = .ok (.iconst 0, 1) := by decide +kernel
theorem dX9_tick_114 : decode cX9_tick 114 = .ok (.iaload, 1) := by decide +kernel
theorem dX9_tick_115 : decode cX9_tick 115 = .ok (.istore 4, 2) := by decide +kernel
theorem dX9_tick_117 : decode cX9_tick 117 = .ok (.aload_n 0, 1) := by decide +kernel
theorem dX9_tick_118 : decode cX9_tick 118 = .ok (.getfield 9, 3) := by decide +kernel
theorem dX9_tick_121 : decode cX9_tick 121 = .ok (.iconst 0, 1) := by decide +kernel
theorem dX9_tick_122 : decode cX9_tick 122 = .ok (.dup2, 1) := by decide +kernel
theorem dX9_tick_123 : decode cX9_tick 123 = .ok (.iaload, 1) := by decide +kernel
theorem dX9_tick_124 : decode cX9_tick 124 = .ok (.aload_n 0, 1) := by decide +kernel
theorem dX9_tick_125 : decode cX9_tick 125 = .ok (.getfield 9, 3) := by decide +kernel
theorem dX9_tick_128 : decode cX9_tick 128 = .ok (.iconst 1, 1) := by decide +kernel
theorem dX9_tick_129 : decode cX9_tick 129 = .ok (.iaload, 1) := by decide +kernel
theorem dX9_tick_130 : decode cX9_tick 130 = .ok (.iadd, 1) := by decide +kernel
theorem dX9_tick_131 : decode cX9_tick 131 = .ok (.iastore, 1) := by decide +kernel
theorem dX9_tick_132 : decode cX9_tick 132 = .ok (.aload_n 0, 1) := by decide +kernel
theorem dX9_tick_133 : decode cX9_tick 133 = .ok (.getfield 9, 3) := by decide +kernel
theorem dX9_tick_136 : decode cX9_tick 136 = .ok (.iconst 0, 1) := by decide +kernel
theorem dX9_tick_137 : decode cX9_tick 137 = .ok (.iaload, 1) := by decide +kernel
theorem dX9_tick_138 : decode cX9_tick 138 = .ok (.sipush (-300), 3) := by decide +kernel
theorem dX9_tick_141 : decode cX9_tick 141 = .ok (.sipush 300, 3) := by decide +kernel
theorem dX9_tick_144 : decode cX9_tick 144 = .ok (.invokestatic 55, 3) := by decide +kernel
theorem dX9_tick_147 : decode cX9_tick 147 = .ok (.ifCond .ne 45, 3) := by decide +kernel
theorem dX9_tick_150 : decode cX9_tick 150 = .ok (.aload_n 0, 1) := by decide +kernel
theorem dX9_tick_151 : decode cX9_tick 151 = .ok (.getfield 9, 3) := by decide +kernel
theorem dX9_tick_154 : decode cX9_tick 154 = .ok (.iconst 0, 1) := by decide +kernel
theorem dX9_tick_155 : decode cX9_tick 155 = .ok (.aload_n 0, 1) := by decide +kernel
theorem dX9_tick_156 : decode cX9_tick 156 = .ok (.getfield 9, 3) := by decide +kernel
theorem dX9_tick_159 : decode cX9_tick 159 = .ok (.iconst 0, 1) := by decide +kernel
theorem dX9_tick_160 : decode cX9_tick 160 = .ok (.iaload, 1) := by decide +kernel
theorem dX9_tick_161 : decode cX9_tick 161 = .ok (.ifCond .le 9, 3) := by decide +kernel
theorem dX9_tick_164 : decode cX9_tick 164 = .ok (.sipush 300, 3) := by decide +kernel
theorem dX9_tick_167 : decode cX9_tick 167 = .ok (.goto 6, 3) := by decide +kernel
theorem dX9_tick_170 : decode cX9_tick 170 = .ok (.sipush (-300), 3) := by decide +kernel
theorem dX9_tick_173 : decode cX9_tick 173 = .ok (.iastore, 1) := by decide +kernel
theorem dX9_tick_174 : decode cX9_tick 174 = .ok (.aload_n 0, 1) := by decide +kernel
theorem dX9_tick_175 : decode cX9_tick 175 = .ok (.getfield 9, 3) := by decide +kernel
theorem dX9_tick_178 : decode cX9_tick 178 = .ok (.iconst 1, 1) := by decide +kernel
theorem dX9_tick_179 : decode cX9_tick 179 = .ok (.iconst 0, 1) := by decide +kernel
theorem dX9_tick_180 : decode cX9_tick 180 = .ok (.iastore, 1) := by decide +kernel
theorem dX9_tick_181 : decode cX9_tick 181 = .ok (.aload_n 0, 1) := by decide +kernel
theorem dX9_tick_182 : decode cX9_tick 182 = .ok (.getfield 9, 3) := by decide +kernel
theorem dX9_tick_185 : decode cX9_tick 185 = .ok (.bipush 10, 2) := by decide +kernel
theorem dX9_tick_187 : decode cX9_tick 187 = .ok (.dup2, 1) := by decide +kernel
theorem dX9_tick_188 : decode cX9_tick 188 = .ok (.iaload, 1) := by decide +kernel
theorem dX9_tick_189 : decode cX9_tick 189 = .ok (.iconst 1, 1) := by decide +kernel
theorem dX9_tick_190 : decode cX9_tick 190 = .ok (.iadd, 1) := by decide +kernel
theorem dX9_tick_191 : decode cX9_tick 191 = .ok (.iastore, 1) := by decide +kernel
theorem dX9_tick_192 : decode cX9_tick 192 = .ok (.aload_n 0, 1) := by decide +kernel
theorem dX9_tick_193 : decode cX9_tick 193 = .ok (.iconst 1, 1) := by decide +kernel
theorem dX9_tick_194 : decode cX9_tick 194 = .ok (.lload_n 1, 1) := by decide +kernel
theorem dX9_tick_195 : decode cX9_tick 195 = .ok (.invokevirtual 82, 3) := by decide +kernel
theorem dX9_tick_198 : decode cX9_tick 198 = .ok (.lstore_n 1, 1) := by decide +kernel
theorem dX9_tick_199 : decode cX9_tick 199 = .ok (.aload_n 0, 1) := by decide +kernel
theorem dX9_tick_200 : decode cX9_tick 200 = .ok (.getfield 9, 3) := by decide +kernel
theorem dX9_tick_203 : decode cX9_tick 203 = .ok (.bipush 7, 2) := by decide +kernel
theorem dX9_tick_205 : decode cX9_tick 205 = .ok (.iaload, 1) := by decide +kernel
theorem dX9_tick_206 : decode cX9_tick 206 = .ok (.ifCond .ne 7, 3) := by decide +kernel
theorem dX9_tick_209 : decode cX9_tick 209 = .ok (.iconst 1, 1) := by decide +kernel
theorem dX9_tick_210 : decode cX9_tick 210 = .ok (.goto 4, 3) := by decide +kernel
theorem dX9_tick_213 : decode cX9_tick 213 = .ok (.iconst 0, 1) := by decide +kernel
theorem dX9_tick_214 : decode cX9_tick 214 = .ok (.istore 5, 2) := by decide +kernel
theorem dX9_tick_216 : decode cX9_tick 216 = .ok (.aload_n 0, 1) := by decide +kernel
theorem dX9_tick_217 : decode cX9_tick 217 = .ok (.getfield 9, 3) := by decide +kernel
theorem dX9_tick_220 : decode cX9_tick 220 = .ok (.iconst 4, 1) := by decide +kernel
theorem dX9_tick_221 : decode cX9_tick 221 = .ok (.iaload, 1) := by decide +kernel
theorem dX9_tick_222 : decode cX9_tick 222 = .ok (.istore 6, 2) := by decide +kernel
theorem dX9_tick_224 : decode cX9_tick 224 = .ok (.iload 5, 2) := by decide +kernel
theorem dX9_tick_226 : decode cX9_tick 226 = .ok (.ifCond .eq 29, 3) := by decide +kernel
theorem dX9_tick_229 : decode cX9_tick 229 = .ok (.iload 4, 2) := by decide +kernel
theorem dX9_tick_231 : decode cX9_tick 231 = .ok (.iload 6, 2) := by decide +kernel
theorem dX9_tick_233 : decode cX9_tick 233 = .ok (.if_icmp .gt 18, 3) := by decide +kernel
theorem dX9_tick_236 : decode cX9_tick 236 = .ok (.aload_n 0, 1) := by decide +kernel
theorem dX9_tick_237 : decode cX9_tick 237 = .ok (.getfield 9, 3) := by decide +kernel
theorem dX9_tick_240 : decode cX9_tick 240 = .ok (.iconst 0, 1) := by decide +kernel
theorem dX9_tick_241 : decode cX9_tick 241 = .ok (.iaload, 1) := by decide +kernel
theorem dX9_tick_242 : decode cX9_tick 242 = .ok (.iload 6, 2) := by decide +kernel
theorem dX9_tick_244 : decode cX9_tick 244 = .ok (.if_icmp .le 7, 3) := by decide +kernel
theorem dX9_tick_247 : decode cX9_tick 247 = .ok (.iconst 1, 1) := by decide +kernel
theorem dX9_tick_248 : decode cX9_tick 248 = .ok (.goto 30, 3) := by decide +kernel
theorem dX9_tick_251 : decode cX9_tick 251 = .ok (.iconst 0, 1) := by decide +kernel
theorem dX9_tick_252 : decode cX9_tick 252 = .ok (.goto 26, 3) := by decide +kernel
theorem dX9_tick_255 : decode cX9_tick 255 = .ok (.iload 4, 2) := by decide +kernel
theorem dX9_tick_257 : decode cX9_tick 257 = .ok (.iload 6, 2) := by decide +kernel
theorem dX9_tick_259 : decode cX9_tick 259 = .ok (.if_icmp .lt 18, 3) := by decide +kernel
theorem dX9_tick_262 : decode cX9_tick 262 = .ok (.aload_n 0, 1) := by decide +kernel
theorem dX9_tick_263 : decode cX9_tick 263 = .ok (.getfield 9, 3) := by decide +kernel
theorem dX9_tick_266 : decode cX9_tick 266 = .ok (.iconst 0, 1) := by decide +kernel
theorem dX9_tick_267 : decode cX9_tick 267 = .ok (.iaload, 1) := by decide +kernel
theorem dX9_tick_268 : decode cX9_tick 268 = .ok (.iload 6, 2) := by decide +kernel
theorem dX9_tick_270 : decode cX9_tick 270 = .ok (.if_icmp .ge 7, 3) := by decide +kernel
theorem dX9_tick_273 : decode cX9_tick 273 = .ok (.iconst 1, 1) := by decide +kernel
theorem dX9_tick_274 : decode cX9_tick 274 = .ok (.goto 4, 3) := by decide +kernel
theorem dX9_tick_277 : decode cX9_tick 277 = .ok (.iconst 0, 1) := by decide +kernel
theorem dX9_tick_278 : decode cX9_tick 278 = .ok (.istore 7, 2) := by decide +kernel
theorem dX9_tick_280 : decode cX9_tick 280 = .ok (.aload_n 0, 1) := by decide +kernel
theorem dX9_tick_281 : decode cX9_tick 281 = .ok (.getfield 9, 3) := by decide +kernel
theorem dX9_tick_284 : decode cX9_tick 284 = .ok (.iconst 5, 1) := by decide +kernel
theorem dX9_tick_285 : decode cX9_tick 285 = .ok (.iaload, 1) := by decide +kernel
theorem dX9_tick_286 : decode cX9_tick 286 = .ok (.ifCond .le 138, 3) := by decide +kernel
theorem dX9_tick_289 : decode cX9_tick 289 = .ok (.iload 7, 2) := by decide +kernel
theorem dX9_tick_291 : decode cX9_tick 291 = .ok (.ifCond .eq 133, 3) := by decide +kernel
theorem dX9_tick_294 : decode cX9_tick 294 = .ok (.aload_n 0, 1) := by decide +kernel
theorem dX9_tick_295 : decode cX9_tick 295 = .ok (.getfield 9, 3) := by decide +kernel
theorem dX9_tick_298 : decode cX9_tick 298 = .ok (.iconst 5, 1) := by decide +kernel
theorem dX9_tick_299 : decode cX9_tick 299 = .ok (.iaload, 1) := by decide +kernel
theorem dX9_tick_300 : decode cX9_tick 300 = .ok (.iconst 3, 1) := by decide +kernel
theorem dX9_tick_301 : decode cX9_tick 301 = .ok (.iadd, 1) := by decide +kernel
theorem dX9_tick_302 : decode cX9_tick 302 = .ok (.iconst 4, 1) := by decide +kernel
theorem dX9_tick_303 : decode cX9_tick 303 = .ok (.idiv, 1) := by decide +kernel
theorem dX9_tick_304 : decode cX9_tick 304 = .ok (.istore 8, 2) := by decide +kernel
theorem dX9_tick_306 : decode cX9_tick 306 = .ok (.aload_n 0, 1) := by decide +kernel
theorem dX9_tick_307 : decode cX9_tick 307 = .ok (.getfield 9, 3) := by decide +kernel
theorem dX9_tick_310 : decode cX9_tick 310 = .ok (.iconst 1, 1) := by decide +kernel
theorem dX9_tick_311 : decode cX9_tick 311 = .ok (.dup2, 1) := by decide +kernel
theorem dX9_tick_312 : decode cX9_tick 312 = .ok (.iaload, 1) := by decide +kernel
theorem dX9_tick_313 : decode cX9_tick 313 = .ok (.iload 5, 2) := by decide +kernel
theorem dX9_tick_315 : decode cX9_tick 315 = .ok (.ifCond .eq 8, 3) := by decide +kernel
theorem dX9_tick_318 : decode cX9_tick 318 = .ok (.iload 8, 2) := by decide +kernel
theorem dX9_tick_320 : decode cX9_tick 320 = .ok (.goto 6, 3) := by decide +kernel
theorem dX9_tick_323 : decode cX9_tick 323 = .ok (.iload 8, 2) := by decide +kernel
theorem dX9_tick_325 : decode cX9_tick 325 = .ok (.ineg, 1) := by decide +kernel
theorem dX9_tick_326 : decode cX9_tick 326 = .ok (.iadd, 1) := by decide +kernel
theorem dX9_tick_327 : decode cX9_tick 327 = .ok (.iastore, 1) := by decide +kernel
theorem dX9_tick_328 : decode cX9_tick 328 = .ok (.aload_n 0, 1) := by decide +kernel
theorem dX9_tick_329 : decode cX9_tick 329 = .ok (.getfield 9, 3) := by decide +kernel
theorem dX9_tick_332 : decode cX9_tick 332 = .ok (.bipush 7, 2) := by decide +kernel
theorem dX9_tick_334 : decode cX9_tick 334 = .ok (.iconst 1, 1) := by decide +kernel
theorem dX9_tick_335 : decode cX9_tick 335 = .ok (.aload_n 0, 1) := by decide +kernel
theorem dX9_tick_336 : decode cX9_tick 336 = .ok (.getfield 9, 3) := by decide +kernel
theorem dX9_tick_339 : decode cX9_tick 339 = .ok (.bipush 7, 2) := by decide +kernel
theorem dX9_tick_341 : decode cX9_tick 341 = .ok (.iaload, 1) := by decide +kernel
theorem dX9_tick_342 : decode cX9_tick 342 = .ok (.isub, 1) := by decide +kernel
theorem dX9_tick_343 : decode cX9_tick 343 = .ok (.iastore, 1) := by decide +kernel
theorem dX9_tick_344 : decode cX9_tick 344 = .ok (.aload_n 0, 1) := by decide +kernel
theorem dX9_tick_345 : decode cX9_tick 345 = .ok (.getfield 9, 3) := by decide +kernel
theorem dX9_tick_348 : decode cX9_tick 348 = .ok (.bipush 9, 2) := by decide +kernel
theorem dX9_tick_350 : decode cX9_tick 350 = .ok (.dup2, 1) := by decide +kernel
theorem dX9_tick_351 : decode cX9_tick 351 = .ok (.iaload, 1) := by decide +kernel
theorem dX9_tick_352 : decode cX9_tick 352 = .ok (.iconst 1, 1) := by decide +kernel
theorem dX9_tick_353 : decode cX9_tick 353 = .ok (.iadd, 1) := by decide +kernel
theorem dX9_tick_354 : decode cX9_tick 354 = .ok (.iastore, 1) := by decide +kernel
theorem dX9_tick_355 : decode cX9_tick 355 = .ok (.aload_n 0, 1) := by decide +kernel
theorem dX9_tick_356 : decode cX9_tick 356 = .ok (.getfield 9, 3) := by decide +kernel
theorem dX9_tick_359 : decode cX9_tick 359 = .ok (.bipush 9, 2) := by decide +kernel
theorem dX9_tick_361 : decode cX9_tick 361 = .ok (.iaload, 1) := by decide +kernel
theorem dX9_tick_362 : decode cX9_tick 362 = .ok (.aload_n 0, 1) := by decide +kernel
theorem dX9_tick_363 : decode cX9_tick 363 = .ok (.getfield 9, 3) := by decide +kernel
theorem dX9_tick_366 : decode cX9_tick 366 = .ok (.bipush 6, 2) := by decide +kernel
theorem dX9_tick_368 : decode cX9_tick 368 = .ok (.iaload, 1) := by decide +kernel
theorem dX9_tick_369 : decode cX9_tick 369 = .ok (.irem, 1) := by decide +kernel
theorem dX9_tick_370 : decode cX9_tick 370 = .ok (.ifCond .ne 13, 3) := by decide +kernel
theorem dX9_tick_373 : decode cX9_tick 373 = .ok (.aload_n 0, 1) := by decide +kernel
theorem dX9_tick_374 : decode cX9_tick 374 = .ok (.getfield 9, 3) := by decide +kernel
theorem dX9_tick_377 : decode cX9_tick 377 = .ok (.iconst 5, 1) := by decide +kernel
theorem dX9_tick_378 : decode cX9_tick 378 = .ok (.dup2, 1) := by decide +kernel
theorem dX9_tick_379 : decode cX9_tick 379 = .ok (.iaload, 1) := by decide +kernel
theorem dX9_tick_380 : decode cX9_tick 380 = .ok (.iconst 1, 1) := by decide +kernel
theorem dX9_tick_381 : decode cX9_tick 381 = .ok (.isub, 1) := by decide +kernel
theorem dX9_tick_382 : decode cX9_tick 382 = .ok (.iastore, 1) := by decide +kernel
theorem dX9_tick_383 : decode cX9_tick 383 = .ok (.aload_n 0, 1) := by decide +kernel
theorem dX9_tick_384 : decode cX9_tick 384 = .ok (.getfield 86, 3) := by decide +kernel
theorem dX9_tick_387 : decode cX9_tick 387 = .ok (.sipush 400, 3) := by decide +kernel
theorem dX9_tick_390 : decode cX9_tick 390 = .ok (.if_icmp .ge 24, 3) := by decide +kernel
theorem dX9_tick_393 : decode cX9_tick 393 = .ok (.aload_n 0, 1) := by decide +kernel
theorem dX9_tick_394 : decode cX9_tick 394 = .ok (.getfield 31, 3) := by decide +kernel
theorem dX9_tick_397 : decode cX9_tick 397 = .ok (.aload_n 0, 1) := by decide +kernel
theorem dX9_tick_398 : decode cX9_tick 398 = .ok (.getfield 86, 3) := by decide +kernel
theorem dX9_tick_401 : decode cX9_tick 401 = .ok (.aload_n 0, 1) := by decide +kernel
theorem dX9_tick_402 : decode cX9_tick 402 = .ok (.getfield 9, 3) := by decide +kernel
theorem dX9_tick_405 : decode cX9_tick 405 = .ok (.bipush 8, 2) := by decide +kernel
theorem dX9_tick_407 : decode cX9_tick 407 = .ok (.iaload, 1) := by decide +kernel
theorem dX9_tick_408 : decode cX9_tick 408 = .ok (.aload_n 0, 1) := by decide +kernel
theorem dX9_tick_409 : decode cX9_tick 409 = .ok (.getfield 90, 3) := by decide +kernel
theorem dX9_tick_412 : decode cX9_tick 412 = .ok (.isub, 1) := by decide +kernel
theorem dX9_tick_413 : decode cX9_tick 413 = .ok (.iastore, 1) := by decide +kernel
theorem dX9_tick_414 : decode cX9_tick 414 = .ok (.aload_n 0, 1) := by decide +kernel
theorem dX9_tick_415 : decode cX9_tick 415 = .ok (.dup, 1) := by decide +kernel
theorem dX9_tick_416 : decode cX9_tick 416 = .ok (.getfield 86, 3) := by decide +kernel
theorem dX9_tick_419 : decode cX9_tick 419 = .ok (.iconst 1, 1) := by decide +kernel
theorem dX9_tick_420 : decode cX9_tick 420 = .ok (.iadd, 1) := by decide +kernel
theorem dX9_tick_421 : decode cX9_tick 421 = .ok (.putfield 86, 3) := by decide +kernel
theorem dX9_tick_424 : decode cX9_tick 424 = .ok (.aload_n 0, 1) := by decide +kernel
theorem dX9_tick_425 : decode cX9_tick 425 = .ok (.iconst 3, 1) := by decide +kernel
theorem dX9_tick_426 : decode cX9_tick 426 = .ok (.lload_n 1, 1) := by decide +kernel
theorem dX9_tick_427 : decode cX9_tick 427 = .ok (.invokevirtual 82, 3) := by decide +kernel
theorem dX9_tick_430 : decode cX9_tick 430 = .ok (.pop2, 1) := by decide +kernel
theorem dX9_tick_431 : decode cX9_tick 431 = .ok (.aload_n 0, 1) := by decide +kernel
theorem dX9_tick_432 : decode cX9_tick 432 = .ok (.getfield 9, 3) := by decide +kernel
theorem dX9_tick_435 : decode cX9_tick 435 = .ok (.bipush 8, 2) := by decide +kernel
theorem dX9_tick_437 : decode cX9_tick 437 = .ok (.dup2, 1) := by decide +kernel
theorem dX9_tick_438 : decode cX9_tick 438 = .ok (.iaload, 1) := by decide +kernel
theorem dX9_tick_439 : decode cX9_tick 439 = .ok (.iconst 1, 1) := by decide +kernel
theorem dX9_tick_440 : decode cX9_tick 440 = .ok (.iadd, 1) := by decide +kernel
theorem dX9_tick_441 : decode cX9_tick 441 = .ok (.iastore, 1) := by decide +kernel
theorem dX9_tick_442 : decode cX9_tick 442 = .ok (.return_, 1) := by decide +kernel
theorem dX9_goes_0 : decode cX9_goes 0 = .ok (.aload_n 0, 1) := by decide +kernel
theorem dX9_goes_1 : decode cX9_goes 1 = .ok (.iconst 0, 1) := by decide +kernel
theorem dX9_goes_2 : decode cX9_goes 2 = .ok (.putfield 86, 3) := by decide +kernel
theorem dX9_goes_5 : decode cX9_goes 5 = .ok (.aload_n 0, 1) := by decide +kernel
theorem dX9_goes_6 : decode cX9_goes 6 = .ok (.aload_n 0, 1) := by decide +kernel
theorem dX9_goes_7 : decode cX9_goes 7 = .ok (.getfield 9, 3) := by decide +kernel
theorem dX9_goes_10 : decode cX9_goes 10 = .ok (.bipush 8, 2) := by decide +kernel
theorem dX9_goes_12 : decode cX9_goes 12 = .ok (.iaload, 1) := by decide +kernel
theorem dX9_goes_13 : decode cX9_goes 13 = .ok (.putfield 90, 3) := by decide +kernel
theorem dX9_goes_16 : decode cX9_goes 16 = .ok (.iconst 0, 1) := by decide +kernel
theorem dX9_goes_17 : decode cX9_goes 17 = .ok (.istore_n 2, 1) := by decide +kernel
theorem dX9_goes_18 : decode cX9_goes 18 = .ok (.iload_n 2, 1) := by decide +kernel
theorem dX9_goes_19 : decode cX9_goes 19 = .ok (.iload_n 1, 1) := by decide +kernel
theorem dX9_goes_20 : decode cX9_goes 20 = .ok (.if_icmp .ge 13, 3) := by decide +kernel
theorem dX9_goes_23 : decode cX9_goes 23 = .ok (.aload_n 0, 1) := by decide +kernel
theorem dX9_goes_24 : decode cX9_goes 24 = .ok (.invokevirtual 93, 3) := by decide +kernel
theorem dX9_goes_27 : decode cX9_goes 27 = .ok (.iinc 2 1, 3) := by decide +kernel
theorem dX9_goes_30 : decode cX9_goes 30 = .ok (.goto (-12), 3) := by decide +kernel
theorem dX9_goes_33 : decode cX9_goes 33 = .ok (.return_, 1) := by decide +kernel
theorem dX9_go_0 : decode cX9_go 0 = .ok (.iload_n 1, 1) := by decide +kernel
theorem dX9_go_1 : decode cX9_go 1 = .ok (.iconst 1, 1) := by decide +kernel
theorem dX9_go_2 : decode cX9_go 2 = .ok (.sipush 400, 3) := by decide +kernel
theorem dX9_go_5 : decode cX9_go 5 = .ok (.invokestatic 55, 3) := by decide +kernel
theorem dX9_go_8 : decode cX9_go 8 = .ok (.ifCond .ne 6, 3) := by decide +kernel
theorem dX9_go_11 : decode cX9_go 11 = .ok (.bipush (-2), 2) := by decide +kernel
theorem dX9_go_13 : decode cX9_go 13 = .ok (.ireturn, 1) := by decide +kernel
theorem dX9_go_14 : decode cX9_go 14 = .ok (.aload_n 0, 1) := by decide +kernel
theorem dX9_go_15 : decode cX9_go 15 = .ok (.getfield 9, 3) := by decide +kernel
theorem dX9_go_18 : decode cX9_go 18 = .ok (.bipush 8, 2) := by decide +kernel
theorem dX9_go_20 : decode cX9_go 20 = .ok (.iaload, 1) := by decide +kernel
theorem dX9_go_21 : decode cX9_go 21 = .ok (.iload_n 1, 1) := by decide +kernel
theorem dX9_go_22 : decode cX9_go 22 = .ok (.iadd, 1) := by decide +kernel
theorem dX9_go_23 : decode cX9_go 23 = .ok (.ldc 69, 2) := by decide +kernel
theorem dX9_go_25 : decode cX9_go 25 = .ok (.if_icmp .le 6, 3) := by decide +kernel
theorem dX9_go_28 : decode cX9_go 28 = .ok (.bipush (-4), 2) := by decide +kernel
theorem dX9_go_30 : decode cX9_go 30 = .ok (.ireturn, 1) := by decide +kernel
theorem dX9_go_31 : decode cX9_go 31 = .ok (.aload_n 0, 1) := by decide +kernel
theorem dX9_go_32 : decode cX9_go 32 = .ok (.iload_n 1, 1) := by decide +kernel
theorem dX9_go_33 : decode cX9_go 33 = .ok (.invokevirtual 96, 3) := by decide +kernel
theorem dX9_go_36 : decode cX9_go 36 = .ok (.aload_n 0, 1) := by decide +kernel
theorem dX9_go_37 : decode cX9_go 37 = .ok (.getfield 86, 3) := by decide +kernel
theorem dX9_go_40 : decode cX9_go 40 = .ok (.ireturn, 1) := by decide +kernel
theorem dX9_wheel_0 : decode cX9_wheel 0 = .ok (.iload_n 1, 1) := by decide +kernel
theorem dX9_wheel_1 : decode cX9_wheel 1 = .ok (.iconst 2, 1) := by decide +kernel
theorem dX9_wheel_2 : decode cX9_wheel 2 = .ok (.bipush 99, 2) := by decide +kernel
theorem dX9_wheel_4 : decode cX9_wheel 4 = .ok (.invokestatic 55, 3) := by decide +kernel
theorem dX9_wheel_7 : decode cX9_wheel 7 = .ok (.ifCond .ne 6, 3) := by decide +kernel
theorem dX9_wheel_10 : decode cX9_wheel 10 = .ok (.bipush (-2), 2) := by decide +kernel
theorem dX9_wheel_12 : decode cX9_wheel 12 = .ok (.ireturn, 1) := by decide +kernel
theorem dX9_wheel_13 : decode cX9_wheel 13 = .ok (.aload_n 0, 1) := by decide +kernel
theorem dX9_wheel_14 : decode cX9_wheel 14 = .ok (.getfield 9, 3) := by decide +kernel
theorem dX9_wheel_17 : decode cX9_wheel 17 = .ok (.bipush 12, 2) := by decide +kernel
theorem dX9_wheel_19 : decode cX9_wheel 19 = .ok (.iaload, 1) := by decide +kernel
theorem dX9_wheel_20 : decode cX9_wheel 20 = .ok (.iconst 4, 1) := by decide +kernel
theorem dX9_wheel_21 : decode cX9_wheel 21 = .ok (.if_icmp .ne 6, 3) := by decide +kernel
theorem dX9_wheel_24 : decode cX9_wheel 24 = .ok (.bipush (-4), 2) := by decide +kernel
theorem dX9_wheel_26 : decode cX9_wheel 26 = .ok (.ireturn, 1) := by decide +kernel
theorem dX9_wheel_27 : decode cX9_wheel 27 = .ok (.aload_n 0, 1) := by decide +kernel
theorem dX9_wheel_28 : decode cX9_wheel 28 = .ok (.getfield 9, 3) := by decide +kernel
theorem dX9_wheel_31 : decode cX9_wheel 31 = .ok (.bipush 39, 2) := by decide +kernel
theorem dX9_wheel_33 : decode cX9_wheel 33 = .ok (.aload_n 0, 1) := by decide +kernel
theorem dX9_wheel_34 : decode cX9_wheel 34 = .ok (.getfield 9, 3) := by decide +kernel
theorem dX9_wheel_37 : decode cX9_wheel 37 = .ok (.bipush 12, 2) := by decide +kernel
theorem dX9_wheel_39 : decode cX9_wheel 39 = .ok (.iaload, 1) := by decide +kernel
theorem dX9_wheel_40 : decode cX9_wheel 40 = .ok (.iadd, 1) := by decide +kernel
theorem dX9_wheel_41 : decode cX9_wheel 41 = .ok (.iload_n 1, 1) := by decide +kernel
theorem dX9_wheel_42 : decode cX9_wheel 42 = .ok (.iastore, 1) := by decide +kernel
theorem dX9_wheel_43 : decode cX9_wheel 43 = .ok (.aload_n 0, 1) := by decide +kernel
theorem dX9_wheel_44 : decode cX9_wheel 44 = .ok (.getfield 9, 3) := by decide +kernel
theorem dX9_wheel_47 : decode cX9_wheel 47 = .ok (.bipush 12, 2) := by decide +kernel
theorem dX9_wheel_49 : decode cX9_wheel 49 = .ok (.dup2, 1) := by decide +kernel
theorem dX9_wheel_50 : decode cX9_wheel 50 = .ok (.iaload, 1) := by decide +kernel
theorem dX9_wheel_51 : decode cX9_wheel 51 = .ok (.dup_x2, 1) := by decide +kernel
theorem dX9_wheel_52 : decode cX9_wheel 52 = .ok (.iconst 1, 1) := by decide +kernel
theorem dX9_wheel_53 : decode cX9_wheel 53 = .ok (.iadd, 1) := by decide +kernel
theorem dX9_wheel_54 : decode cX9_wheel 54 = .ok (.iastore, 1) := by decide +kernel
theorem dX9_wheel_55 : decode cX9_wheel 55 = .ok (.ireturn, 1) := by decide +kernel
theorem dX9_lowest_0 : decode cX9_lowest 0 = .ok (.lload_n 0, 1) := by decide +kernel
theorem dX9_lowest_1 : decode cX9_lowest 1 = .ok (.lstore 5, 2) := by decide +kernel
theorem dX9_lowest_3 : decode cX9_lowest 3 = .ok (.lload_n 2, 1) := by decide +kernel
theorem dX9_lowest_4 : decode cX9_lowest 4 = .ok (.lstore 7, 2) := by decide +kernel
theorem dX9_lowest_6 : decode cX9_lowest 6 = .ok (.lload 7, 2) := by decide +kernel
theorem dX9_lowest_8 : decode cX9_lowest 8 = .ok (.lconst 0, 1) := by decide +kernel
theorem dX9_lowest_9 : decode cX9_lowest 9 = .ok (.lcmp, 1) := by decide +kernel
theorem dX9_lowest_10 : decode cX9_lowest 10 = .ok (.ifCond .eq 21, 3) := by decide +kernel
theorem dX9_lowest_13 : decode cX9_lowest 13 = .ok (.lload 5, 2) := by decide +kernel
theorem dX9_lowest_15 : decode cX9_lowest 15 = .ok (.lload 7, 2) := by decide +kernel
theorem dX9_lowest_17 : decode cX9_lowest 17 = .ok (.lrem, 1) := by decide +kernel
theorem dX9_lowest_18 : decode cX9_lowest 18 = .ok (.lstore 9, 2) := by decide +kernel
theorem dX9_lowest_20 : decode cX9_lowest 20 = .ok (.lload 7, 2) := by decide +kernel
theorem dX9_lowest_22 : decode cX9_lowest 22 = .ok (.lstore 5, 2) := by decide +kernel
theorem dX9_lowest_24 : decode cX9_lowest 24 = .ok (.lload 9, 2) := by decide +kernel
theorem dX9_lowest_26 : decode cX9_lowest 26 = .ok (.lstore 7, 2) := by decide +kernel
theorem dX9_lowest_28 : decode cX9_lowest 28 = .ok (.goto (-22), 3) := by decide +kernel
theorem dX9_lowest_31 : decode cX9_lowest 31 = .ok (.iload 4, 2) := by decide +kernel
theorem dX9_lowest_33 : decode cX9_lowest 33 = .ok (.ifCond .ne 10, 3) := by decide +kernel
theorem dX9_lowest_36 : decode cX9_lowest 36 = .ok (.lload_n 0, 1) := by decide +kernel
theorem dX9_lowest_37 : decode cX9_lowest 37 = .ok (.lload 5, 2) := by decide +kernel
theorem dX9_lowest_39 : decode cX9_lowest 39 = .ok (.ldiv, 1) := by decide +kernel
theorem dX9_lowest_40 : decode cX9_lowest 40 = .ok (.goto 7, 3) := by decide +kernel
theorem dX9_lowest_43 : decode cX9_lowest 43 = .ok (.lload_n 2, 1) := by decide +kernel
theorem dX9_lowest_44 : decode cX9_lowest 44 = .ok (.lload 5, 2) := by decide +kernel
theorem dX9_lowest_46 : decode cX9_lowest 46 = .ok (.ldiv, 1) := by decide +kernel
theorem dX9_lowest_47 : decode cX9_lowest 47 = .ok (.lreturn, 1) := by decide +kernel
theorem dX9_turns_0 : decode cX9_turns 0 = .ok (.iload_n 1, 1) := by decide +kernel
theorem dX9_turns_1 : decode cX9_turns 1 = .ok (.iconst 0, 1) := by decide +kernel
theorem dX9_turns_2 : decode cX9_turns 2 = .ok (.aload_n 0, 1) := by decide +kernel
theorem dX9_turns_3 : decode cX9_turns 3 = .ok (.getfield 9, 3) := by decide +kernel
theorem dX9_turns_6 : decode cX9_turns 6 = .ok (.bipush 12, 2) := by decide +kernel
theorem dX9_turns_8 : decode cX9_turns 8 = .ok (.iaload, 1) := by decide +kernel
theorem dX9_turns_9 : decode cX9_turns 9 = .ok (.iconst 1, 1) := by decide +kernel
theorem dX9_turns_10 : decode cX9_turns 10 = .ok (.isub, 1) := by decide +kernel
theorem dX9_turns_11 : decode cX9_turns 11 = .ok (.invokestatic 55, 3) := by decide +kernel
theorem dX9_turns_14 : decode cX9_turns 14 = .ok (.ifCond .eq 12, 3) := by decide +kernel
theorem dX9_turns_17 : decode cX9_turns 17 = .ok (.iload_n 2, 1) := by decide +kernel
theorem dX9_turns_18 : decode cX9_turns 18 = .ok (.iconst 0, 1) := by decide +kernel
theorem dX9_turns_19 : decode cX9_turns 19 = .ok (.iconst 1, 1) := by decide +kernel
theorem dX9_turns_20 : decode cX9_turns 20 = .ok (.invokestatic 55, 3) := by decide +kernel
theorem dX9_turns_23 : decode cX9_turns 23 = .ok (.ifCond .ne 7, 3) := by decide +kernel
theorem dX9_turns_26 : decode cX9_turns 26 = .ok (.ldc2_w 100, 3) := by decide +kernel
theorem dX9_turns_29 : decode cX9_turns 29 = .ok (.lreturn, 1) := by decide +kernel
theorem dX9_turns_30 : decode cX9_turns 30 = .ok (.ldc2_w 102, 3) := by decide +kernel
theorem dX9_turns_33 : decode cX9_turns 33 = .ok (.lstore_n 3, 1) := by decide +kernel
theorem dX9_turns_34 : decode cX9_turns 34 = .ok (.iconst 0, 1) := by decide +kernel
theorem dX9_turns_35 : decode cX9_turns 35 = .ok (.istore 5, 2) := by decide +kernel
theorem dX9_turns_37 : decode cX9_turns 37 = .ok (.iload 5, 2) := by decide +kernel
theorem dX9_turns_39 : decode cX9_turns 39 = .ok (.iload_n 1, 1) := by decide +kernel
theorem dX9_turns_40 : decode cX9_turns 40 = .ok (.if_icmp .gt 23, 3) := by decide +kernel
theorem dX9_turns_43 : decode cX9_turns 43 = .ok (.lload_n 3, 1) := by decide +kernel
theorem dX9_turns_44 : decode cX9_turns 44 = .ok (.aload_n 0, 1) := by decide +kernel
theorem dX9_turns_45 : decode cX9_turns 45 = .ok (.getfield 9, 3) := by decide +kernel
theorem dX9_turns_48 : decode cX9_turns 48 = .ok (.bipush 39, 2) := by decide +kernel
theorem dX9_turns_50 : decode cX9_turns 50 = .ok (.iload 5, 2) := by decide +kernel
theorem dX9_turns_52 : decode cX9_turns 52 = .ok (.iadd, 1) := by decide +kernel
theorem dX9_turns_53 : decode cX9_turns 53 = .ok (.iaload, 1) := by decide +kernel
theorem dX9_turns_54 : decode cX9_turns 54 = .ok (.i2l, 1) := by decide +kernel
theorem dX9_turns_55 : decode cX9_turns 55 = .ok (.lmul, 1) := by decide +kernel
theorem dX9_turns_56 : decode cX9_turns 56 = .ok (.lstore_n 3, 1) := by decide +kernel
theorem dX9_turns_57 : decode cX9_turns 57 = .ok (.iinc 5 1, 3) := by decide +kernel
theorem dX9_turns_60 : decode cX9_turns 60 = .ok (.goto (-23), 3) := by decide +kernel
theorem dX9_turns_63 : decode cX9_turns 63 = .ok (.aload_n 0, 1) := by decide +kernel
theorem dX9_turns_64 : decode cX9_turns 64 = .ok (.getfield 9, 3) := by decide +kernel
theorem dX9_turns_67 : decode cX9_turns 67 = .ok (.bipush 9, 2) := by decide +kernel
theorem dX9_turns_69 : decode cX9_turns 69 = .ok (.iaload, 1) := by decide +kernel
theorem dX9_turns_70 : decode cX9_turns 70 = .ok (.i2l, 1) := by decide +kernel
theorem dX9_turns_71 : decode cX9_turns 71 = .ok (.lload_n 3, 1) := by decide +kernel
theorem dX9_turns_72 : decode cX9_turns 72 = .ok (.iload_n 2, 1) := by decide +kernel
theorem dX9_turns_73 : decode cX9_turns 73 = .ok (.invokestatic 104, 3) := by decide +kernel
theorem dX9_turns_76 : decode cX9_turns 76 = .ok (.lreturn, 1) := by decide +kernel
theorem dX9_energy_0 : decode cX9_energy 0 = .ok (.iload_n 1, 1) := by decide +kernel
theorem dX9_energy_1 : decode cX9_energy 1 = .ok (.iconst 0, 1) := by decide +kernel
theorem dX9_energy_2 : decode cX9_energy 2 = .ok (.iconst 4, 1) := by decide +kernel
theorem dX9_energy_3 : decode cX9_energy 3 = .ok (.invokestatic 55, 3) := by decide +kernel
theorem dX9_energy_6 : decode cX9_energy 6 = .ok (.ifCond .ne 7, 3) := by decide +kernel
theorem dX9_energy_9 : decode cX9_energy 9 = .ok (.ldc2_w 100, 3) := by decide +kernel
theorem dX9_energy_12 : decode cX9_energy 12 = .ok (.lreturn, 1) := by decide +kernel
theorem dX9_energy_13 : decode cX9_energy 13 = .ok (.iload_n 1, 1) := by decide +kernel
theorem dX9_energy_14 : decode cX9_energy 14 = .ok (.iconst 4, 1) := by decide +kernel
theorem dX9_energy_15 : decode cX9_energy 15 = .ok (.if_icmp .ne 10, 3) := by decide +kernel
theorem dX9_energy_18 : decode cX9_energy 18 = .ok (.aload_n 0, 1) := by decide +kernel
theorem dX9_energy_19 : decode cX9_energy 19 = .ok (.invokevirtual 65, 3) := by decide +kernel
theorem dX9_energy_22 : decode cX9_energy 22 = .ok (.goto 9, 3) := by decide +kernel
theorem dX9_energy_25 : decode cX9_energy 25 = .ok (.aload_n 0, 1) := by decide +kernel
theorem dX9_energy_26 : decode cX9_energy 26 = .ok (.getfield 21, 3) := by decide +kernel
theorem dX9_energy_29 : decode cX9_energy 29 = .ok (.iload_n 1, 1) := by decide +kernel
theorem dX9_energy_30 : decode cX9_energy 30 = .ok (.laload, 1) := by decide +kernel
theorem dX9_energy_31 : decode cX9_energy 31 = .ok (.lreturn, 1) := by decide +kernel
theorem dX9_feed_0 : decode cX9_feed 0 = .ok (.iload_n 1, 1) := by decide +kernel
theorem dX9_feed_1 : decode cX9_feed 1 = .ok (.iconst 0, 1) := by decide +kernel
theorem dX9_feed_2 : decode cX9_feed 2 = .ok (.bipush 127, 2) := by decide +kernel
theorem dX9_feed_4 : decode cX9_feed 4 = .ok (.invokestatic 55, 3) := by decide +kernel
theorem dX9_feed_7 : decode cX9_feed 7 = .ok (.ifCond .ne 6, 3) := by decide +kernel
theorem dX9_feed_10 : decode cX9_feed 10 = .ok (.bipush (-2), 2) := by decide +kernel
theorem dX9_feed_12 : decode cX9_feed 12 = .ok (.ireturn, 1) := by decide +kernel
theorem dX9_feed_13 : decode cX9_feed 13 = .ok (.aload_n 0, 1) := by decide +kernel
theorem dX9_feed_14 : decode cX9_feed 14 = .ok (.getfield 108, 3) := by decide +kernel
theorem dX9_feed_17 : decode cX9_feed 17 = .ok (.bipush 100, 2) := by decide +kernel
theorem dX9_feed_19 : decode cX9_feed 19 = .ok (.if_icmp .ne 6, 3) := by decide +kernel
theorem dX9_feed_22 : decode cX9_feed 22 = .ok (.bipush (-4), 2) := by decide +kernel
theorem dX9_feed_24 : decode cX9_feed 24 = .ok (.ireturn, 1) := by decide +kernel
theorem dX9_feed_25 : decode cX9_feed 25 = .ok (.aload_n 0, 1) := by decide +kernel
theorem dX9_feed_26 : decode cX9_feed 26 = .ok (.getfield 34, 3) := by decide +kernel
theorem dX9_feed_29 : decode cX9_feed 29 = .ok (.aload_n 0, 1) := by decide +kernel
theorem dX9_feed_30 : decode cX9_feed 30 = .ok (.dup, 1) := by decide +kernel
theorem dX9_feed_31 : decode cX9_feed 31 = .ok (.getfield 108, 3) := by decide +kernel
theorem dX9_feed_34 : decode cX9_feed 34 = .ok (.dup_x1, 1) := by decide +kernel
theorem dX9_feed_35 : decode cX9_feed 35 = .ok (.iconst 1, 1) := by decide +kernel
theorem dX9_feed_36 : decode cX9_feed 36 = .ok (.iadd, 1) := by decide +kernel
theorem dX9_feed_37 : decode cX9_feed 37 = .ok (.putfield 108, 3) := by decide +kernel
theorem dX9_feed_40 : decode cX9_feed 40 = .ok (.iload_n 1, 1) := by decide +kernel
theorem dX9_feed_41 : decode cX9_feed 41 = .ok (.iastore, 1) := by decide +kernel
theorem dX9_feed_42 : decode cX9_feed 42 = .ok (.aload_n 0, 1) := by decide +kernel
theorem dX9_feed_43 : decode cX9_feed 43 = .ok (.getfield 108, 3) := by decide +kernel
theorem dX9_feed_46 : decode cX9_feed 46 = .ok (.ireturn, 1) := by decide +kernel
theorem dX9_isFrom_0 : decode cX9_isFrom 0 = .ok (.aload_n 0, 1) := by decide +kernel
theorem dX9_isFrom_1 : decode cX9_isFrom 1 = .ok (.getfield 111, 3) := by decide +kernel
theorem dX9_isFrom_4 : decode cX9_isFrom 4 = .ok (.aload_n 0, 1) := by decide +kernel
theorem dX9_isFrom_5 : decode cX9_isFrom 5 = .ok (.getfield 108, 3) := by decide +kernel
theorem dX9_isFrom_8 : decode cX9_isFrom 8 = .ok (.if_icmp .ge 24, 3) := by decide +kernel
theorem dX9_isFrom_11 : decode cX9_isFrom 11 = .ok (.aload_n 0, 1) := by decide +kernel
theorem dX9_isFrom_12 : decode cX9_isFrom 12 = .ok (.getfield 34, 3) := by decide +kernel
theorem dX9_isFrom_15 : decode cX9_isFrom 15 = .ok (.aload_n 0, 1) := by decide +kernel
theorem dX9_isFrom_16 : decode cX9_isFrom 16 = .ok (.getfield 111, 3) := by decide +kernel
theorem dX9_isFrom_19 : decode cX9_isFrom 19 = .ok (.iaload, 1) := by decide +kernel
theorem dX9_isFrom_20 : decode cX9_isFrom 20 = .ok (.iload_n 1, 1) := by decide +kernel
theorem dX9_isFrom_21 : decode cX9_isFrom 21 = .ok (.iload_n 2, 1) := by decide +kernel
theorem dX9_isFrom_22 : decode cX9_isFrom 22 = .ok (.invokestatic 55, 3) := by decide +kernel
theorem dX9_isFrom_25 : decode cX9_isFrom 25 = .ok (.ifCond .eq 7, 3) := by decide +kernel
theorem dX9_isFrom_28 : decode cX9_isFrom 28 = .ok (.iconst 1, 1) := by decide +kernel
theorem dX9_isFrom_29 : decode cX9_isFrom 29 = .ok (.goto 4, 3) := by decide +kernel
theorem dX9_isFrom_32 : decode cX9_isFrom 32 = .ok (.iconst 0, 1) := by decide +kernel
theorem dX9_isFrom_33 : decode cX9_isFrom 33 = .ok (.ireturn, 1) := by decide +kernel
theorem dX9_letter_0 : decode cX9_letter 0 = .ok (.iload_n 0, 1) := by decide +kernel
theorem dX9_letter_1 : decode cX9_letter 1 = .ok (.bipush 97, 2) := by decide +kernel
theorem dX9_letter_3 : decode cX9_letter 3 = .ok (.if_icmp .ne 7, 3) := by decide +kernel
theorem dX9_letter_6 : decode cX9_letter 6 = .ok (.iconst 0, 1) := by decide +kernel
theorem dX9_letter_7 : decode cX9_letter 7 = .ok (.goto 87, 3) := by decide +kernel
theorem dX9_letter_10 : decode cX9_letter 10 = .ok (.iload_n 0, 1) := by decide +kernel
theorem dX9_letter_11 : decode cX9_letter 11 = .ok (.bipush 118, 2) := by decide +kernel
theorem dX9_letter_13 : decode cX9_letter 13 = .ok (.if_icmp .ne 7, 3) := by decide +kernel
theorem dX9_letter_16 : decode cX9_letter 16 = .ok (.iconst 1, 1) := by decide +kernel
theorem dX9_letter_17 : decode cX9_letter 17 = .ok (.goto 77, 3) := by decide +kernel
theorem dX9_letter_20 : decode cX9_letter 20 = .ok (.iload_n 0, 1) := by decide +kernel
theorem dX9_letter_21 : decode cX9_letter 21 = .ok (.bipush 115, 2) := by decide +kernel
theorem dX9_letter_23 : decode cX9_letter 23 = .ok (.if_icmp .ne 7, 3) := by decide +kernel
theorem dX9_letter_26 : decode cX9_letter 26 = .ok (.iconst 2, 1) := by decide +kernel
theorem dX9_letter_27 : decode cX9_letter 27 = .ok (.goto 67, 3) := by decide +kernel
theorem dX9_letter_30 : decode cX9_letter 30 = .ok (.iload_n 0, 1) := by decide +kernel
theorem dX9_letter_31 : decode cX9_letter 31 = .ok (.bipush 103, 2) := by decide +kernel
theorem dX9_letter_33 : decode cX9_letter 33 = .ok (.if_icmp .ne 7, 3) := by decide +kernel
theorem dX9_letter_36 : decode cX9_letter 36 = .ok (.iconst 3, 1) := by decide +kernel
theorem dX9_letter_37 : decode cX9_letter 37 = .ok (.goto 57, 3) := by decide +kernel
theorem dX9_letter_40 : decode cX9_letter 40 = .ok (.iload_n 0, 1) := by decide +kernel
theorem dX9_letter_41 : decode cX9_letter 41 = .ok (.bipush 111, 2) := by decide +kernel
theorem dX9_letter_43 : decode cX9_letter 43 = .ok (.if_icmp .ne 7, 3) := by decide +kernel
theorem dX9_letter_46 : decode cX9_letter 46 = .ok (.iconst 4, 1) := by decide +kernel
theorem dX9_letter_47 : decode cX9_letter 47 = .ok (.goto 47, 3) := by decide +kernel
theorem dX9_letter_50 : decode cX9_letter 50 = .ok (.iload_n 0, 1) := by decide +kernel
theorem dX9_letter_51 : decode cX9_letter 51 = .ok (.bipush 102, 2) := by decide +kernel
theorem dX9_letter_53 : decode cX9_letter 53 = .ok (.if_icmp .ne 7, 3) := by decide +kernel
theorem dX9_letter_56 : decode cX9_letter 56 = .ok (.iconst 5, 1) := by decide +kernel
theorem dX9_letter_57 : decode cX9_letter 57 = .ok (.goto 37, 3) := by decide +kernel
theorem dX9_letter_60 : decode cX9_letter 60 = .ok (.iload_n 0, 1) := by decide +kernel
theorem dX9_letter_61 : decode cX9_letter 61 = .ok (.bipush 108, 2) := by decide +kernel
theorem dX9_letter_63 : decode cX9_letter 63 = .ok (.if_icmp .ne 8, 3) := by decide +kernel
theorem dX9_letter_66 : decode cX9_letter 66 = .ok (.bipush 6, 2) := by decide +kernel
theorem dX9_letter_68 : decode cX9_letter 68 = .ok (.goto 26, 3) := by decide +kernel
theorem dX9_letter_71 : decode cX9_letter 71 = .ok (.iload_n 0, 1) := by decide +kernel
theorem dX9_letter_72 : decode cX9_letter 72 = .ok (.bipush 119, 2) := by decide +kernel
theorem dX9_letter_74 : decode cX9_letter 74 = .ok (.if_icmp .ne 8, 3) := by decide +kernel
theorem dX9_letter_77 : decode cX9_letter 77 = .ok (.bipush 7, 2) := by decide +kernel
theorem dX9_letter_79 : decode cX9_letter 79 = .ok (.goto 15, 3) := by decide +kernel
theorem dX9_letter_82 : decode cX9_letter 82 = .ok (.iload_n 0, 1) := by decide +kernel
theorem dX9_letter_83 : decode cX9_letter 83 = .ok (.bipush 116, 2) := by decide +kernel
theorem dX9_letter_85 : decode cX9_letter 85 = .ok (.if_icmp .ne 8, 3) := by decide +kernel
theorem dX9_letter_88 : decode cX9_letter 88 = .ok (.bipush 8, 2) := by decide +kernel
theorem dX9_letter_90 : decode cX9_letter 90 = .ok (.goto 4, 3) := by decide +kernel
theorem dX9_letter_93 : decode cX9_letter 93 = .ok (.iconst (-1), 1) := by decide +kernel
theorem dX9_letter_94 : decode cX9_letter 94 = .ok (.ireturn, 1) := by decide +kernel
theorem dX9_reads_0 : decode cX9_reads 0 = .ok (.aload_n 0, 1) := by decide +kernel
theorem dX9_reads_1 : decode cX9_reads 1 = .ok (.getfield 111, 3) := by decide +kernel
theorem dX9_reads_4 : decode cX9_reads 4 = .ok (.aload_n 0, 1) := by decide +kernel
theorem dX9_reads_5 : decode cX9_reads 5 = .ok (.getfield 108, 3) := by decide +kernel
theorem dX9_reads_8 : decode cX9_reads 8 = .ok (.if_icmp .ge 18, 3) := by decide +kernel
theorem dX9_reads_11 : decode cX9_reads 11 = .ok (.aload_n 0, 1) := by decide +kernel
theorem dX9_reads_12 : decode cX9_reads 12 = .ok (.getfield 34, 3) := by decide +kernel
theorem dX9_reads_15 : decode cX9_reads 15 = .ok (.aload_n 0, 1) := by decide +kernel
theorem dX9_reads_16 : decode cX9_reads 16 = .ok (.getfield 111, 3) := by decide +kernel
theorem dX9_reads_19 : decode cX9_reads 19 = .ok (.iaload, 1) := by decide +kernel
theorem dX9_reads_20 : decode cX9_reads 20 = .ok (.invokestatic 114, 3) := by decide +kernel
theorem dX9_reads_23 : decode cX9_reads 23 = .ok (.goto 4, 3) := by decide +kernel
theorem dX9_reads_26 : decode cX9_reads 26 = .ok (.iconst (-1), 1) := by decide +kernel
theorem dX9_reads_27 : decode cX9_reads 27 = .ok (.istore_n 1, 1) := by decide +kernel
theorem dX9_reads_28 : decode cX9_reads 28 = .ok (.iload_n 1, 1) := by decide +kernel
theorem dX9_reads_29 : decode cX9_reads 29 = .ok (.iconst (-1), 1) := by decide +kernel
theorem dX9_reads_30 : decode cX9_reads 30 = .ok (.if_icmp .ne 12, 3) := by decide +kernel
theorem dX9_reads_33 : decode cX9_reads 33 = .ok (.aload_n 0, 1) := by decide +kernel
theorem dX9_reads_34 : decode cX9_reads 34 = .ok (.aload_n 0, 1) := by decide +kernel
theorem dX9_reads_35 : decode cX9_reads 35 = .ok (.getfield 111, 3) := by decide +kernel
theorem dX9_reads_38 : decode cX9_reads 38 = .ok (.putfield 118, 3) := by decide +kernel
theorem dX9_reads_41 : decode cX9_reads 41 = .ok (.return_, 1) := by decide +kernel
theorem dX9_reads_42 : decode cX9_reads 42 = .ok (.aload_n 0, 1) := by decide +kernel
theorem dX9_reads_43 : decode cX9_reads 43 = .ok (.dup, 1) := by decide +kernel
theorem dX9_reads_44 : decode cX9_reads 44 = .ok (.getfield 111, 3) := by decide +kernel
theorem dX9_reads_47 : decode cX9_reads 47 = .ok (.iconst 1, 1) := by decide +kernel
theorem dX9_reads_48 : decode cX9_reads 48 = .ok (.iadd, 1) := by decide +kernel
theorem dX9_reads_49 : decode cX9_reads 49 = .ok (.putfield 111, 3) := by decide +kernel
theorem dX9_reads_52 : decode cX9_reads 52 = .ok (.aload_n 0, 1) := by decide +kernel
theorem dX9_reads_53 : decode cX9_reads 53 = .ok (.bipush 45, 2) := by decide +kernel
theorem dX9_reads_55 : decode cX9_reads 55 = .ok (.bipush 45, 2) := by decide +kernel
theorem dX9_reads_57 : decode cX9_reads 57 = .ok (.invokevirtual 121, 3) := by decide +kernel
theorem dX9_reads_60 : decode cX9_reads 60 = .ok (.istore_n 2, 1) := by decide +kernel
theorem dX9_reads_61 : decode cX9_reads 61 = .ok (.iload_n 2, 1) := by decide +kernel
theorem dX9_reads_62 : decode cX9_reads 62 = .ok (.ifCond .eq 13, 3) := by decide +kernel
theorem dX9_reads_65 : decode cX9_reads 65 = .ok (.aload_n 0, 1) := by decide +kernel
theorem dX9_reads_66 : decode cX9_reads 66 = .ok (.dup, 1) := by decide +kernel
theorem dX9_reads_67 : decode cX9_reads 67 = .ok (.getfield 111, 3) := by decide +kernel
theorem dX9_reads_70 : decode cX9_reads 70 = .ok (.iconst 1, 1) := by decide +kernel
theorem dX9_reads_71 : decode cX9_reads 71 = .ok (.iadd, 1) := by decide +kernel
theorem dX9_reads_72 : decode cX9_reads 72 = .ok (.putfield 111, 3) := by decide +kernel
theorem dX9_reads_75 : decode cX9_reads 75 = .ok (.iconst 0, 1) := by decide +kernel
theorem dX9_reads_76 : decode cX9_reads 76 = .ok (.istore_n 3, 1) := by decide +kernel
theorem dX9_reads_77 : decode cX9_reads 77 = .ok (.iconst 0, 1) := by decide +kernel
theorem dX9_reads_78 : decode cX9_reads 78 = .ok (.istore 4, 2) := by decide +kernel
theorem dX9_reads_80 : decode cX9_reads 80 = .ok (.iload 4, 2) := by decide +kernel
theorem dX9_reads_82 : decode cX9_reads 82 = .ok (.iconst 3, 1) := by decide +kernel
theorem dX9_reads_83 : decode cX9_reads 83 = .ok (.if_icmp .ge 48, 3) := by decide +kernel
theorem dX9_reads_86 : decode cX9_reads 86 = .ok (.aload_n 0, 1) := by decide +kernel
theorem dX9_reads_87 : decode cX9_reads 87 = .ok (.bipush 48, 2) := by decide +kernel
theorem dX9_reads_89 : decode cX9_reads 89 = .ok (.bipush 57, 2) := by decide +kernel
theorem dX9_reads_91 : decode cX9_reads 91 = .ok (.invokevirtual 121, 3) := by decide +kernel
theorem dX9_reads_94 : decode cX9_reads 94 = .ok (.ifCond .eq 37, 3) := by decide +kernel
theorem dX9_reads_97 : decode cX9_reads 97 = .ok (.bipush 10, 2) := by decide +kernel
theorem dX9_reads_99 : decode cX9_reads 99 = .ok (.iload_n 3, 1) := by decide +kernel
theorem dX9_reads_100 : decode cX9_reads 100 = .ok (.imul, 1) := by decide +kernel
theorem dX9_reads_101 : decode cX9_reads 101 = .ok (.aload_n 0, 1) := by decide +kernel
theorem dX9_reads_102 : decode cX9_reads 102 = .ok (.getfield 34, 3) := by decide +kernel
theorem dX9_reads_105 : decode cX9_reads 105 = .ok (.aload_n 0, 1) := by decide +kernel
theorem dX9_reads_106 : decode cX9_reads 106 = .ok (.getfield 111, 3) := by decide +kernel
theorem dX9_reads_109 : decode cX9_reads 109 = .ok (.iaload, 1) := by decide +kernel
theorem dX9_reads_110 : decode cX9_reads 110 = .ok (.iadd, 1) := by decide +kernel
theorem dX9_reads_111 : decode cX9_reads 111 = .ok (.bipush 48, 2) := by decide +kernel
theorem dX9_reads_113 : decode cX9_reads 113 = .ok (.isub, 1) := by decide +kernel
theorem dX9_reads_114 : decode cX9_reads 114 = .ok (.istore_n 3, 1) := by decide +kernel
theorem dX9_reads_115 : decode cX9_reads 115 = .ok (.aload_n 0, 1) := by decide +kernel
theorem dX9_reads_116 : decode cX9_reads 116 = .ok (.dup, 1) := by decide +kernel
theorem dX9_reads_117 : decode cX9_reads 117 = .ok (.getfield 111, 3) := by decide +kernel
theorem dX9_reads_120 : decode cX9_reads 120 = .ok (.iconst 1, 1) := by decide +kernel
theorem dX9_reads_121 : decode cX9_reads 121 = .ok (.iadd, 1) := by decide +kernel
theorem dX9_reads_122 : decode cX9_reads 122 = .ok (.putfield 111, 3) := by decide +kernel
theorem dX9_reads_125 : decode cX9_reads 125 = .ok (.iinc 4 1, 3) := by decide +kernel
theorem dX9_reads_128 : decode cX9_reads 128 = .ok (.goto (-48), 3) := by decide +kernel
theorem dX9_reads_131 : decode cX9_reads 131 = .ok (.iload 4, 2) := by decide +kernel
theorem dX9_reads_133 : decode cX9_reads 133 = .ok (.ifCond .ne 12, 3) := by decide +kernel
theorem dX9_reads_136 : decode cX9_reads 136 = .ok (.aload_n 0, 1) := by decide +kernel
theorem dX9_reads_137 : decode cX9_reads 137 = .ok (.aload_n 0, 1) := by decide +kernel
theorem dX9_reads_138 : decode cX9_reads 138 = .ok (.getfield 111, 3) := by decide +kernel
theorem dX9_reads_141 : decode cX9_reads 141 = .ok (.putfield 118, 3) := by decide +kernel
theorem dX9_reads_144 : decode cX9_reads 144 = .ok (.return_, 1) := by decide +kernel
theorem dX9_reads_145 : decode cX9_reads 145 = .ok (.aload_n 0, 1) := by decide +kernel
theorem dX9_reads_146 : decode cX9_reads 146 = .ok (.getfield 37, 3) := by decide +kernel
theorem dX9_reads_149 : decode cX9_reads 149 = .ok (.aload_n 0, 1) := by decide +kernel
theorem dX9_reads_150 : decode cX9_reads 150 = .ok (.getfield 124, 3) := by decide +kernel
theorem dX9_reads_153 : decode cX9_reads 153 = .ok (.iload_n 1, 1) := by decide +kernel
theorem dX9_reads_154 : decode cX9_reads 154 = .ok (.iastore, 1) := by decide +kernel
theorem dX9_reads_155 : decode cX9_reads 155 = .ok (.aload_n 0, 1) := by decide +kernel
theorem dX9_reads_156 : decode cX9_reads 156 = .ok (.getfield 40, 3) := by decide +kernel
theorem dX9_reads_159 : decode cX9_reads 159 = .ok (.aload_n 0, 1) := by decide +kernel
theorem dX9_reads_160 : decode cX9_reads 160 = .ok (.getfield 124, 3) := by decide +kernel
theorem dX9_reads_163 : decode cX9_reads 163 = .ok (.iload_n 2, 1) := by decide +kernel
theorem dX9_reads_164 : decode cX9_reads 164 = .ok (.ifCond .eq 8, 3) := by decide +kernel
theorem dX9_reads_167 : decode cX9_reads 167 = .ok (.iload_n 3, 1) := by decide +kernel
theorem dX9_reads_168 : decode cX9_reads 168 = .ok (.ineg, 1) := by decide +kernel
theorem dX9_reads_169 : decode cX9_reads 169 = .ok (.goto 4, 3) := by decide +kernel
theorem dX9_reads_172 : decode cX9_reads 172 = .ok (.iload_n 3, 1) := by decide +kernel
theorem dX9_reads_173 : decode cX9_reads 173 = .ok (.iastore, 1) := by decide +kernel
theorem dX9_reads_174 : decode cX9_reads 174 = .ok (.aload_n 0, 1) := by decide +kernel
theorem dX9_reads_175 : decode cX9_reads 175 = .ok (.dup, 1) := by decide +kernel
theorem dX9_reads_176 : decode cX9_reads 176 = .ok (.getfield 124, 3) := by decide +kernel
theorem dX9_reads_179 : decode cX9_reads 179 = .ok (.iconst 1, 1) := by decide +kernel
theorem dX9_reads_180 : decode cX9_reads 180 = .ok (.iadd, 1) := by decide +kernel
theorem dX9_reads_181 : decode cX9_reads 181 = .ok (.putfield 124, 3) := by decide +kernel
theorem dX9_reads_184 : decode cX9_reads 184 = .ok (.return_, 1) := by decide +kernel
theorem dX9_does_0 : decode cX9_does 0 = .ok (.aload_n 0, 1) := by decide +kernel
theorem dX9_does_1 : decode cX9_does 1 = .ok (.getfield 40, 3) := by decide +kernel
theorem dX9_does_4 : decode cX9_does 4 = .ok (.iload_n 1, 1) := by decide +kernel
theorem dX9_does_5 : decode cX9_does 5 = .ok (.iaload, 1) := by decide +kernel
theorem dX9_does_6 : decode cX9_does 6 = .ok (.istore_n 2, 1) := by decide +kernel
theorem dX9_does_7 : decode cX9_does 7 = .ok (.aload_n 0, 1) := by decide +kernel
theorem dX9_does_8 : decode cX9_does 8 = .ok (.getfield 37, 3) := by decide +kernel
theorem dX9_does_11 : decode cX9_does 11 = .ok (.iload_n 1, 1) := by decide +kernel
theorem dX9_does_12 : decode cX9_does 12 = .ok (.iaload, 1) := by decide +kernel
theorem dX9_does_13 : decode cX9_does 13 = .ok (.bipush 7, 2) := by decide +kernel
theorem dX9_does_15 : decode cX9_does 15 = .ok (.if_icmp .ge 26, 3) := by decide +kernel
theorem dX9_does_18 : decode cX9_does 18 = .ok (.aload_n 0, 1) := by decide +kernel
theorem dX9_does_19 : decode cX9_does 19 = .ok (.aload_n 0, 1) := by decide +kernel
theorem dX9_does_20 : decode cX9_does 20 = .ok (.getfield 37, 3) := by decide +kernel
theorem dX9_does_23 : decode cX9_does 23 = .ok (.iload_n 1, 1) := by decide +kernel
theorem dX9_does_24 : decode cX9_does 24 = .ok (.iaload, 1) := by decide +kernel
theorem dX9_does_25 : decode cX9_does 25 = .ok (.iload_n 2, 1) := by decide +kernel
theorem dX9_does_26 : decode cX9_does 26 = .ok (.invokevirtual 127, 3) := by decide +kernel
theorem dX9_does_29 : decode cX9_does 29 = .ok (.sipush (-1000), 3) := by decide +kernel
theorem dX9_does_32 : decode cX9_does 32 = .ok (.if_icmp .le 7, 3) := by decide +kernel
theorem dX9_does_35 : decode cX9_does 35 = .ok (.iconst 1, 1) := by decide +kernel
theorem dX9_does_36 : decode cX9_does 36 = .ok (.goto 4, 3) := by decide +kernel
theorem dX9_does_39 : decode cX9_does 39 = .ok (.iconst 0, 1) := by decide +kernel
theorem dX9_does_40 : decode cX9_does 40 = .ok (.ireturn, 1) := by decide +kernel
theorem dX9_does_41 : decode cX9_does 41 = .ok (.aload_n 0, 1) := by decide +kernel
theorem dX9_does_42 : decode cX9_does 42 = .ok (.getfield 37, 3) := by decide +kernel
theorem dX9_does_45 : decode cX9_does 45 = .ok (.iload_n 1, 1) := by decide +kernel
theorem dX9_does_46 : decode cX9_does 46 = .ok (.iaload, 1) := by decide +kernel
theorem dX9_does_47 : decode cX9_does 47 = .ok (.bipush 7, 2) := by decide +kernel
theorem dX9_does_49 : decode cX9_does 49 = .ok (.if_icmp .ne 19, 3) := by decide +kernel
theorem dX9_does_52 : decode cX9_does 52 = .ok (.aload_n 0, 1) := by decide +kernel
theorem dX9_does_53 : decode cX9_does 53 = .ok (.iload_n 2, 1) := by decide +kernel
theorem dX9_does_54 : decode cX9_does 54 = .ok (.invokevirtual 130, 3) := by decide +kernel
theorem dX9_does_57 : decode cX9_does 57 = .ok (.ifCond .lt 7, 3) := by decide +kernel
theorem dX9_does_60 : decode cX9_does 60 = .ok (.iconst 1, 1) := by decide +kernel
theorem dX9_does_61 : decode cX9_does 61 = .ok (.goto 20, 3) := by decide +kernel
theorem dX9_does_64 : decode cX9_does 64 = .ok (.iconst 0, 1) := by decide +kernel
theorem dX9_does_65 : decode cX9_does 65 = .ok (.goto 16, 3) := by decide +kernel
theorem dX9_does_68 : decode cX9_does 68 = .ok (.aload_n 0, 1) := by decide +kernel
theorem dX9_does_69 : decode cX9_does 69 = .ok (.iload_n 2, 1) := by decide +kernel
theorem dX9_does_70 : decode cX9_does 70 = .ok (.invokevirtual 133, 3) := by decide +kernel
theorem dX9_does_73 : decode cX9_does 73 = .ok (.ifCond .lt 7, 3) := by decide +kernel
theorem dX9_does_76 : decode cX9_does 76 = .ok (.iconst 1, 1) := by decide +kernel
theorem dX9_does_77 : decode cX9_does 77 = .ok (.goto 4, 3) := by decide +kernel
theorem dX9_does_80 : decode cX9_does 80 = .ok (.iconst 0, 1) := by decide +kernel
theorem dX9_does_81 : decode cX9_does 81 = .ok (.ireturn, 1) := by decide +kernel
theorem dX9_read_0 : decode cX9_read 0 = .ok (.aload_n 0, 1) := by decide +kernel
theorem dX9_read_1 : decode cX9_read 1 = .ok (.iconst 0, 1) := by decide +kernel
theorem dX9_read_2 : decode cX9_read 2 = .ok (.putfield 111, 3) := by decide +kernel
theorem dX9_read_5 : decode cX9_read 5 = .ok (.aload_n 0, 1) := by decide +kernel
theorem dX9_read_6 : decode cX9_read 6 = .ok (.iconst (-1), 1) := by decide +kernel
theorem dX9_read_7 : decode cX9_read 7 = .ok (.putfield 118, 3) := by decide +kernel
theorem dX9_read_10 : decode cX9_read 10 = .ok (.aload_n 0, 1) := by decide +kernel
theorem dX9_read_11 : decode cX9_read 11 = .ok (.iconst 0, 1) := by decide +kernel
theorem dX9_read_12 : decode cX9_read 12 = .ok (.putfield 124, 3) := by decide +kernel
theorem dX9_read_15 : decode cX9_read 15 = .ok (.aload_n 0, 1) := by decide +kernel
theorem dX9_read_16 : decode cX9_read 16 = .ok (.invokevirtual 136, 3) := by decide +kernel
theorem dX9_read_19 : decode cX9_read 19 = .ok (.aload_n 0, 1) := by decide +kernel
theorem dX9_read_20 : decode cX9_read 20 = .ok (.getfield 118, 3) := by decide +kernel
theorem dX9_read_23 : decode cX9_read 23 = .ok (.ifCond .ge 69, 3) := by decide +kernel
theorem dX9_read_26 : decode cX9_read 26 = .ok (.aload_n 0, 1) := by decide +kernel
theorem dX9_read_27 : decode cX9_read 27 = .ok (.getfield 111, 3) := by decide +kernel
theorem dX9_read_30 : decode cX9_read 30 = .ok (.aload_n 0, 1) := by decide +kernel
theorem dX9_read_31 : decode cX9_read 31 = .ok (.getfield 108, 3) := by decide +kernel
theorem dX9_read_34 : decode cX9_read 34 = .ok (.if_icmp .ge 58, 3) := by decide +kernel
theorem dX9_read_37 : decode cX9_read 37 = .ok (.aload_n 0, 1) := by decide +kernel
theorem dX9_read_38 : decode cX9_read 38 = .ok (.getfield 34, 3) := by decide +kernel
theorem dX9_read_41 : decode cX9_read 41 = .ok (.aload_n 0, 1) := by decide +kernel
theorem dX9_read_42 : decode cX9_read 42 = .ok (.getfield 111, 3) := by decide +kernel
theorem dX9_read_45 : decode cX9_read 45 = .ok (.iaload, 1) := by decide +kernel
theorem dX9_read_46 : decode cX9_read 46 = .ok (.bipush 59, 2) := by decide +kernel
theorem dX9_read_48 : decode cX9_read 48 = .ok (.if_icmp .ne 12, 3) := by decide +kernel
theorem dX9_read_51 : decode cX9_read 51 = .ok (.aload_n 0, 1) := by decide +kernel
theorem dX9_read_52 : decode cX9_read 52 = .ok (.getfield 124, 3) := by decide +kernel
theorem dX9_read_55 : decode cX9_read 55 = .ok (.bipush 12, 2) := by decide +kernel
theorem dX9_read_57 : decode cX9_read 57 = .ok (.if_icmp .ne 11, 3) := by decide +kernel
theorem dX9_read_60 : decode cX9_read 60 = .ok (.aload_n 0, 1) := by decide +kernel
theorem dX9_read_61 : decode cX9_read 61 = .ok (.aload_n 0, 1) := by decide +kernel
theorem dX9_read_62 : decode cX9_read 62 = .ok (.getfield 111, 3) := by decide +kernel
theorem dX9_read_65 : decode cX9_read 65 = .ok (.putfield 118, 3) := by decide +kernel
theorem dX9_read_68 : decode cX9_read 68 = .ok (.aload_n 0, 1) := by decide +kernel
theorem dX9_read_69 : decode cX9_read 69 = .ok (.dup, 1) := by decide +kernel
theorem dX9_read_70 : decode cX9_read 70 = .ok (.getfield 111, 3) := by decide +kernel
theorem dX9_read_73 : decode cX9_read 73 = .ok (.iconst 1, 1) := by decide +kernel
theorem dX9_read_74 : decode cX9_read 74 = .ok (.iadd, 1) := by decide +kernel
theorem dX9_read_75 : decode cX9_read 75 = .ok (.putfield 111, 3) := by decide +kernel
theorem dX9_read_78 : decode cX9_read 78 = .ok (.aload_n 0, 1) := by decide +kernel
theorem dX9_read_79 : decode cX9_read 79 = .ok (.getfield 118, 3) := by decide +kernel
theorem dX9_read_82 : decode cX9_read 82 = .ok (.ifCond .ge (-63), 3) := by decide +kernel
theorem dX9_read_85 : decode cX9_read 85 = .ok (.aload_n 0, 1) := by decide +kernel
theorem dX9_read_86 : decode cX9_read 86 = .ok (.invokevirtual 136, 3) := by decide +kernel
theorem dX9_read_89 : decode cX9_read 89 = .ok (.goto (-70), 3) := by decide +kernel
theorem dX9_read_92 : decode cX9_read 92 = .ok (.aload_n 0, 1) := by decide +kernel
theorem dX9_read_93 : decode cX9_read 93 = .ok (.iconst 0, 1) := by decide +kernel
theorem dX9_read_94 : decode cX9_read 94 = .ok (.putfield 108, 3) := by decide +kernel
theorem dX9_read_97 : decode cX9_read 97 = .ok (.aload_n 0, 1) := by decide +kernel
theorem dX9_read_98 : decode cX9_read 98 = .ok (.getfield 118, 3) := by decide +kernel
theorem dX9_read_101 : decode cX9_read 101 = .ok (.ifCond .lt 11, 3) := by decide +kernel
theorem dX9_read_104 : decode cX9_read 104 = .ok (.bipush (-10), 2) := by decide +kernel
theorem dX9_read_106 : decode cX9_read 106 = .ok (.aload_n 0, 1) := by decide +kernel
theorem dX9_read_107 : decode cX9_read 107 = .ok (.getfield 118, 3) := by decide +kernel
theorem dX9_read_110 : decode cX9_read 110 = .ok (.isub, 1) := by decide +kernel
theorem dX9_read_111 : decode cX9_read 111 = .ok (.ireturn, 1) := by decide +kernel
theorem dX9_read_112 : decode cX9_read 112 = .ok (.iconst 0, 1) := by decide +kernel
theorem dX9_read_113 : decode cX9_read 113 = .ok (.istore_n 1, 1) := by decide +kernel
theorem dX9_read_114 : decode cX9_read 114 = .ok (.iconst 0, 1) := by decide +kernel
theorem dX9_read_115 : decode cX9_read 115 = .ok (.istore_n 2, 1) := by decide +kernel
theorem dX9_read_116 : decode cX9_read 116 = .ok (.iload_n 2, 1) := by decide +kernel
theorem dX9_read_117 : decode cX9_read 117 = .ok (.aload_n 0, 1) := by decide +kernel
theorem dX9_read_118 : decode cX9_read 118 = .ok (.getfield 124, 3) := by decide +kernel
theorem dX9_read_121 : decode cX9_read 121 = .ok (.if_icmp .ge 20, 3) := by decide +kernel
theorem dX9_read_124 : decode cX9_read 124 = .ok (.aload_n 0, 1) := by decide +kernel
theorem dX9_read_125 : decode cX9_read 125 = .ok (.iload_n 2, 1) := by decide +kernel
theorem dX9_read_126 : decode cX9_read 126 = .ok (.invokevirtual 139, 3) := by decide +kernel
theorem dX9_read_129 : decode cX9_read 129 = .ok (.ifCond .eq 6, 3) := by decide +kernel
theorem dX9_read_132 : decode cX9_read 132 = .ok (.iinc 1 1, 3) := by decide +kernel
theorem dX9_read_135 : decode cX9_read 135 = .ok (.iinc 2 1, 3) := by decide +kernel
theorem dX9_read_138 : decode cX9_read 138 = .ok (.goto (-22), 3) := by decide +kernel
theorem dX9_read_141 : decode cX9_read 141 = .ok (.iload_n 1, 1) := by decide +kernel
theorem dX9_read_142 : decode cX9_read 142 = .ok (.ireturn, 1) := by decide +kernel
theorem dX9_pours_0 : decode cX9_pours 0 = .ok (.iconst 0, 1) := by decide +kernel
theorem dX9_pours_1 : decode cX9_pours 1 = .ok (.istore_n 2, 1) := by decide +kernel
theorem dX9_pours_2 : decode cX9_pours 2 = .ok (.iload_n 2, 1) := by decide +kernel
theorem dX9_pours_3 : decode cX9_pours 3 = .ok (.bipush 69, 2) := by decide +kernel
theorem dX9_pours_5 : decode cX9_pours 5 = .ok (.if_icmp .ge 15, 3) := by decide +kernel
theorem dX9_pours_8 : decode cX9_pours 8 = .ok (.aload_n 1, 1) := by decide +kernel
theorem dX9_pours_9 : decode cX9_pours 9 = .ok (.iload_n 2, 1) := by decide +kernel
theorem dX9_pours_10 : decode cX9_pours 10 = .ok (.aload_n 0, 1) := by decide +kernel
theorem dX9_pours_11 : decode cX9_pours 11 = .ok (.iload_n 2, 1) := by decide +kernel
theorem dX9_pours_12 : decode cX9_pours 12 = .ok (.iaload, 1) := by decide +kernel
theorem dX9_pours_13 : decode cX9_pours 13 = .ok (.iastore, 1) := by decide +kernel
theorem dX9_pours_14 : decode cX9_pours 14 = .ok (.iinc 2 1, 3) := by decide +kernel
theorem dX9_pours_17 : decode cX9_pours 17 = .ok (.goto (-15), 3) := by decide +kernel
theorem dX9_pours_20 : decode cX9_pours 20 = .ok (.return_, 1) := by decide +kernel
theorem dX9_poursLongs_0 : decode cX9_poursLongs 0 = .ok (.iconst 0, 1) := by decide +kernel
theorem dX9_poursLongs_1 : decode cX9_poursLongs 1 = .ok (.istore_n 2, 1) := by decide +kernel
theorem dX9_poursLongs_2 : decode cX9_poursLongs 2 = .ok (.iload_n 2, 1) := by decide +kernel
theorem dX9_poursLongs_3 : decode cX9_poursLongs 3 = .ok (.iconst 4, 1) := by decide +kernel
theorem dX9_poursLongs_4 : decode cX9_poursLongs 4 = .ok (.if_icmp .ge 15, 3) := by decide +kernel
theorem dX9_poursLongs_7 : decode cX9_poursLongs 7 = .ok (.aload_n 1, 1) := by decide +kernel
theorem dX9_poursLongs_8 : decode cX9_poursLongs 8 = .ok (.iload_n 2, 1) := by decide +kernel
theorem dX9_poursLongs_9 : decode cX9_poursLongs 9 = .ok (.aload_n 0, 1) := by decide +kernel
theorem dX9_poursLongs_10 : decode cX9_poursLongs 10 = .ok (.iload_n 2, 1) := by decide +kernel
theorem dX9_poursLongs_11 : decode cX9_poursLongs 11 = .ok (.laload, 1) := by decide +kernel
theorem dX9_poursLongs_12 : decode cX9_poursLongs 12 = .ok (.lastore, 1) := by decide +kernel
theorem dX9_poursLongs_13 : decode cX9_poursLongs 13 = .ok (.iinc 2 1, 3) := by decide +kernel
theorem dX9_poursLongs_16 : decode cX9_poursLongs 16 = .ok (.goto (-14), 3) := by decide +kernel
theorem dX9_poursLongs_19 : decode cX9_poursLongs 19 = .ok (.return_, 1) := by decide +kernel
theorem dX9_lays_0 : decode cX9_lays 0 = .ok (.aload_n 0, 1) := by decide +kernel
theorem dX9_lays_1 : decode cX9_lays 1 = .ok (.getfield 9, 3) := by decide +kernel
theorem dX9_lays_4 : decode cX9_lays 4 = .ok (.aload_n 0, 1) := by decide +kernel
theorem dX9_lays_5 : decode cX9_lays 5 = .ok (.getfield 18, 3) := by decide +kernel
theorem dX9_lays_8 : decode cX9_lays 8 = .ok (.invokestatic 143, 3) := by decide +kernel
theorem dX9_lays_11 : decode cX9_lays 11 = .ok (.aload_n 0, 1) := by decide +kernel
theorem dX9_lays_12 : decode cX9_lays 12 = .ok (.getfield 21, 3) := by decide +kernel
theorem dX9_lays_15 : decode cX9_lays 15 = .ok (.aload_n 0, 1) := by decide +kernel
theorem dX9_lays_16 : decode cX9_lays 16 = .ok (.getfield 28, 3) := by decide +kernel
theorem dX9_lays_19 : decode cX9_lays 19 = .ok (.invokestatic 147, 3) := by decide +kernel
theorem dX9_lays_22 : decode cX9_lays 22 = .ok (.return_, 1) := by decide +kernel
theorem dX9_back_0 : decode cX9_back 0 = .ok (.aload_n 0, 1) := by decide +kernel
theorem dX9_back_1 : decode cX9_back 1 = .ok (.getfield 18, 3) := by decide +kernel
theorem dX9_back_4 : decode cX9_back 4 = .ok (.aload_n 0, 1) := by decide +kernel
theorem dX9_back_5 : decode cX9_back 5 = .ok (.getfield 9, 3) := by decide +kernel
theorem dX9_back_8 : decode cX9_back 8 = .ok (.invokestatic 143, 3) := by decide +kernel
theorem dX9_back_11 : decode cX9_back 11 = .ok (.aload_n 0, 1) := by decide +kernel
theorem dX9_back_12 : decode cX9_back 12 = .ok (.getfield 28, 3) := by decide +kernel
theorem dX9_back_15 : decode cX9_back 15 = .ok (.aload_n 0, 1) := by decide +kernel
theorem dX9_back_16 : decode cX9_back 16 = .ok (.getfield 21, 3) := by decide +kernel
theorem dX9_back_19 : decode cX9_back 19 = .ok (.invokestatic 147, 3) := by decide +kernel
theorem dX9_back_22 : decode cX9_back 22 = .ok (.return_, 1) := by decide +kernel
theorem dX9_ahead_0 : decode cX9_ahead 0 = .ok (.iload_n 1, 1) := by decide +kernel
theorem dX9_ahead_1 : decode cX9_ahead 1 = .ok (.iconst 0, 1) := by decide +kernel
theorem dX9_ahead_2 : decode cX9_ahead 2 = .ok (.sipush 400, 3) := by decide +kernel
theorem dX9_ahead_5 : decode cX9_ahead 5 = .ok (.invokestatic 55, 3) := by decide +kernel
theorem dX9_ahead_8 : decode cX9_ahead 8 = .ok (.ifCond .eq 12, 3) := by decide +kernel
theorem dX9_ahead_11 : decode cX9_ahead 11 = .ok (.iload_n 2, 1) := by decide +kernel
theorem dX9_ahead_12 : decode cX9_ahead 12 = .ok (.iconst 0, 1) := by decide +kernel
theorem dX9_ahead_13 : decode cX9_ahead 13 = .ok (.iconst 5, 1) := by decide +kernel
theorem dX9_ahead_14 : decode cX9_ahead 14 = .ok (.invokestatic 55, 3) := by decide +kernel
theorem dX9_ahead_17 : decode cX9_ahead 17 = .ok (.ifCond .ne 7, 3) := by decide +kernel
theorem dX9_ahead_20 : decode cX9_ahead 20 = .ok (.sipush (-1000), 3) := by decide +kernel
theorem dX9_ahead_23 : decode cX9_ahead 23 = .ok (.ireturn, 1) := by decide +kernel
theorem dX9_ahead_24 : decode cX9_ahead 24 = .ok (.aload_n 0, 1) := by decide +kernel
theorem dX9_ahead_25 : decode cX9_ahead 25 = .ok (.invokevirtual 151, 3) := by decide +kernel
theorem dX9_ahead_28 : decode cX9_ahead 28 = .ok (.aload_n 0, 1) := by decide +kernel
theorem dX9_ahead_29 : decode cX9_ahead 29 = .ok (.iload_n 1, 1) := by decide +kernel
theorem dX9_ahead_30 : decode cX9_ahead 30 = .ok (.invokevirtual 96, 3) := by decide +kernel
theorem dX9_ahead_33 : decode cX9_ahead 33 = .ok (.iload_n 2, 1) := by decide +kernel
theorem dX9_ahead_34 : decode cX9_ahead 34 = .ok (.iconst 2, 1) := by decide +kernel
theorem dX9_ahead_35 : decode cX9_ahead 35 = .ok (.if_icmp .ge 12, 3) := by decide +kernel
theorem dX9_ahead_38 : decode cX9_ahead 38 = .ok (.aload_n 0, 1) := by decide +kernel
theorem dX9_ahead_39 : decode cX9_ahead 39 = .ok (.getfield 9, 3) := by decide +kernel
theorem dX9_ahead_42 : decode cX9_ahead 42 = .ok (.iload_n 2, 1) := by decide +kernel
theorem dX9_ahead_43 : decode cX9_ahead 43 = .ok (.iaload, 1) := by decide +kernel
theorem dX9_ahead_44 : decode cX9_ahead 44 = .ok (.goto 54, 3) := by decide +kernel
theorem dX9_ahead_47 : decode cX9_ahead 47 = .ok (.iload_n 2, 1) := by decide +kernel
theorem dX9_ahead_48 : decode cX9_ahead 48 = .ok (.iconst 2, 1) := by decide +kernel
theorem dX9_ahead_49 : decode cX9_ahead 49 = .ok (.if_icmp .ne 12, 3) := by decide +kernel
theorem dX9_ahead_52 : decode cX9_ahead 52 = .ok (.aload_n 0, 1) := by decide +kernel
theorem dX9_ahead_53 : decode cX9_ahead 53 = .ok (.getfield 9, 3) := by decide +kernel
theorem dX9_ahead_56 : decode cX9_ahead 56 = .ok (.iconst 5, 1) := by decide +kernel
theorem dX9_ahead_57 : decode cX9_ahead 57 = .ok (.iaload, 1) := by decide +kernel
theorem dX9_ahead_58 : decode cX9_ahead 58 = .ok (.goto 40, 3) := by decide +kernel
theorem dX9_ahead_61 : decode cX9_ahead 61 = .ok (.iload_n 2, 1) := by decide +kernel
theorem dX9_ahead_62 : decode cX9_ahead 62 = .ok (.iconst 3, 1) := by decide +kernel
theorem dX9_ahead_63 : decode cX9_ahead 63 = .ok (.if_icmp .ne 13, 3) := by decide +kernel
theorem dX9_ahead_66 : decode cX9_ahead 66 = .ok (.aload_n 0, 1) := by decide +kernel
theorem dX9_ahead_67 : decode cX9_ahead 67 = .ok (.getfield 9, 3) := by decide +kernel
theorem dX9_ahead_70 : decode cX9_ahead 70 = .ok (.bipush 9, 2) := by decide +kernel
theorem dX9_ahead_72 : decode cX9_ahead 72 = .ok (.iaload, 1) := by decide +kernel
theorem dX9_ahead_73 : decode cX9_ahead 73 = .ok (.goto 25, 3) := by decide +kernel
theorem dX9_ahead_76 : decode cX9_ahead 76 = .ok (.iload_n 2, 1) := by decide +kernel
theorem dX9_ahead_77 : decode cX9_ahead 77 = .ok (.iconst 4, 1) := by decide +kernel
theorem dX9_ahead_78 : decode cX9_ahead 78 = .ok (.if_icmp .ne 13, 3) := by decide +kernel
theorem dX9_ahead_81 : decode cX9_ahead 81 = .ok (.aload_n 0, 1) := by decide +kernel
theorem dX9_ahead_82 : decode cX9_ahead 82 = .ok (.getfield 9, 3) := by decide +kernel
theorem dX9_ahead_85 : decode cX9_ahead 85 = .ok (.bipush 10, 2) := by decide +kernel
theorem dX9_ahead_87 : decode cX9_ahead 87 = .ok (.iaload, 1) := by decide +kernel
theorem dX9_ahead_88 : decode cX9_ahead 88 = .ok (.goto 10, 3) := by decide +kernel
theorem dX9_ahead_91 : decode cX9_ahead 91 = .ok (.aload_n 0, 1) := by decide +kernel
theorem dX9_ahead_92 : decode cX9_ahead 92 = .ok (.getfield 9, 3) := by decide +kernel
theorem dX9_ahead_95 : decode cX9_ahead 95 = .ok (.bipush 7, 2) := by decide +kernel
theorem dX9_ahead_97 : decode cX9_ahead 97 = .ok (.iaload, 1) := by decide +kernel
theorem dX9_ahead_98 : decode cX9_ahead 98 = .ok (.istore_n 3, 1) := by decide +kernel
theorem dX9_ahead_99 : decode cX9_ahead 99 = .ok (.aload_n 0, 1) := by decide +kernel
theorem dX9_ahead_100 : decode cX9_ahead 100 = .ok (.invokevirtual 154, 3) := by decide +kernel
theorem dX9_ahead_103 : decode cX9_ahead 103 = .ok (.iload_n 3, 1) := by decide +kernel
theorem dX9_ahead_104 : decode cX9_ahead 104 = .ok (.ireturn, 1) := by decide +kernel
theorem dX9_energyAt_0 : decode cX9_energyAt 0 = .ok (.iload_n 1, 1) := by decide +kernel
theorem dX9_energyAt_1 : decode cX9_energyAt 1 = .ok (.iconst 0, 1) := by decide +kernel
theorem dX9_energyAt_2 : decode cX9_energyAt 2 = .ok (.sipush 400, 3) := by decide +kernel
theorem dX9_energyAt_5 : decode cX9_energyAt 5 = .ok (.invokestatic 55, 3) := by decide +kernel
theorem dX9_energyAt_8 : decode cX9_energyAt 8 = .ok (.ifCond .ne 7, 3) := by decide +kernel
theorem dX9_energyAt_11 : decode cX9_energyAt 11 = .ok (.ldc2_w 100, 3) := by decide +kernel
theorem dX9_energyAt_14 : decode cX9_energyAt 14 = .ok (.lreturn, 1) := by decide +kernel
theorem dX9_energyAt_15 : decode cX9_energyAt 15 = .ok (.aload_n 0, 1) := by decide +kernel
theorem dX9_energyAt_16 : decode cX9_energyAt 16 = .ok (.invokevirtual 151, 3) := by decide +kernel
theorem dX9_energyAt_19 : decode cX9_energyAt 19 = .ok (.aload_n 0, 1) := by decide +kernel
theorem dX9_energyAt_20 : decode cX9_energyAt 20 = .ok (.iload_n 1, 1) := by decide +kernel
theorem dX9_energyAt_21 : decode cX9_energyAt 21 = .ok (.invokevirtual 96, 3) := by decide +kernel
theorem dX9_energyAt_24 : decode cX9_energyAt 24 = .ok (.aload_n 0, 1) := by decide +kernel
theorem dX9_energyAt_25 : decode cX9_energyAt 25 = .ok (.invokevirtual 65, 3) := by decide +kernel
theorem dX9_energyAt_28 : decode cX9_energyAt 28 = .ok (.lstore_n 2, 1) := by decide +kernel
theorem dX9_energyAt_29 : decode cX9_energyAt 29 = .ok (.aload_n 0, 1) := by decide +kernel
theorem dX9_energyAt_30 : decode cX9_energyAt 30 = .ok (.invokevirtual 154, 3) := by decide +kernel
theorem dX9_energyAt_33 : decode cX9_energyAt 33 = .ok (.lload_n 2, 1) := by decide +kernel
theorem dX9_energyAt_34 : decode cX9_energyAt 34 = .ok (.lreturn, 1) := by decide +kernel
theorem dX9_hears_0 : decode cX9_hears 0 = .ok (.aload_n 0, 1) := by decide +kernel
theorem dX9_hears_1 : decode cX9_hears 1 = .ok (.invokevirtual 151, 3) := by decide +kernel
theorem dX9_hears_4 : decode cX9_hears 4 = .ok (.aload_n 0, 1) := by decide +kernel
theorem dX9_hears_5 : decode cX9_hears 5 = .ok (.getfield 9, 3) := by decide +kernel
theorem dX9_hears_8 : decode cX9_hears 8 = .ok (.iload_n 1, 1) := by decide +kernel
theorem dX9_hears_9 : decode cX9_hears 9 = .ok (.iload_n 2, 1) := by decide +kernel
theorem dX9_hears_10 : decode cX9_hears 10 = .ok (.iastore, 1) := by decide +kernel
theorem dX9_hears_11 : decode cX9_hears 11 = .ok (.aload_n 0, 1) := by decide +kernel
theorem dX9_hears_12 : decode cX9_hears 12 = .ok (.sipush 400, 3) := by decide +kernel
theorem dX9_hears_15 : decode cX9_hears 15 = .ok (.invokevirtual 96, 3) := by decide +kernel
theorem dX9_hears_18 : decode cX9_hears 18 = .ok (.aload_n 0, 1) := by decide +kernel
theorem dX9_hears_19 : decode cX9_hears 19 = .ok (.invokevirtual 154, 3) := by decide +kernel
theorem dX9_hears_22 : decode cX9_hears 22 = .ok (.return_, 1) := by decide +kernel
theorem dX9_hears__0 : decode cX9_hears_ 0 = .ok (.aload_n 0, 1) := by decide +kernel
theorem dX9_hears__1 : decode cX9_hears_ 1 = .ok (.iconst 0, 1) := by decide +kernel
theorem dX9_hears__2 : decode cX9_hears_ 2 = .ok (.aload_n 0, 1) := by decide +kernel
theorem dX9_hears__3 : decode cX9_hears_ 3 = .ok (.getfield 9, 3) := by decide +kernel
theorem dX9_hears__6 : decode cX9_hears_ 6 = .ok (.iconst 0, 1) := by decide +kernel
theorem dX9_hears__7 : decode cX9_hears_ 7 = .ok (.iaload, 1) := by decide +kernel
theorem dX9_hears__8 : decode cX9_hears_ 8 = .ok (.invokevirtual 157, 3) := by decide +kernel
theorem dX9_hears__11 : decode cX9_hears_ 11 = .ok (.return_, 1) := by decide +kernel
theorem dX9_heard_0 : decode cX9_heard 0 = .ok (.iload_n 1, 1) := by decide +kernel
theorem dX9_heard_1 : decode cX9_heard 1 = .ok (.ifCond .ge 5, 3) := by decide +kernel
theorem dX9_heard_4 : decode cX9_heard 4 = .ok (.iconst (-1), 1) := by decide +kernel
theorem dX9_heard_5 : decode cX9_heard 5 = .ok (.ireturn, 1) := by decide +kernel
theorem dX9_heard_6 : decode cX9_heard 6 = .ok (.aload_n 0, 1) := by decide +kernel
theorem dX9_heard_7 : decode cX9_heard 7 = .ok (.invokevirtual 161, 3) := by decide +kernel
theorem dX9_heard_10 : decode cX9_heard 10 = .ok (.iload_n 1, 1) := by decide +kernel
theorem dX9_heard_11 : decode cX9_heard 11 = .ok (.aload_n 0, 1) := by decide +kernel
theorem dX9_heard_12 : decode cX9_heard 12 = .ok (.getfield 86, 3) := by decide +kernel
theorem dX9_heard_15 : decode cX9_heard 15 = .ok (.if_icmp .ge 12, 3) := by decide +kernel
theorem dX9_heard_18 : decode cX9_heard 18 = .ok (.aload_n 0, 1) := by decide +kernel
theorem dX9_heard_19 : decode cX9_heard 19 = .ok (.getfield 31, 3) := by decide +kernel
theorem dX9_heard_22 : decode cX9_heard 22 = .ok (.iload_n 1, 1) := by decide +kernel
theorem dX9_heard_23 : decode cX9_heard 23 = .ok (.iaload, 1) := by decide +kernel
theorem dX9_heard_24 : decode cX9_heard 24 = .ok (.goto 5, 3) := by decide +kernel
theorem dX9_heard_27 : decode cX9_heard 27 = .ok (.bipush (-5), 2) := by decide +kernel
theorem dX9_heard_29 : decode cX9_heard 29 = .ok (.ireturn, 1) := by decide +kernel
theorem dX9_gaps_0 : decode cX9_gaps 0 = .ok (.iconst 0, 1) := by decide +kernel
theorem dX9_gaps_1 : decode cX9_gaps 1 = .ok (.aload_n 0, 1) := by decide +kernel
theorem dX9_gaps_2 : decode cX9_gaps 2 = .ok (.getfield 86, 3) := by decide +kernel
theorem dX9_gaps_5 : decode cX9_gaps 5 = .ok (.iconst 1, 1) := by decide +kernel
theorem dX9_gaps_6 : decode cX9_gaps 6 = .ok (.isub, 1) := by decide +kernel
theorem dX9_gaps_7 : decode cX9_gaps 7 = .ok (.invokestatic 76, 3) := by decide +kernel
theorem dX9_gaps_10 : decode cX9_gaps 10 = .ok (.ireturn, 1) := by decide +kernel
theorem dX9_gapOf_0 : decode cX9_gapOf 0 = .ok (.aload_n 0, 1) := by decide +kernel
theorem dX9_gapOf_1 : decode cX9_gapOf 1 = .ok (.getfield 31, 3) := by decide +kernel
theorem dX9_gapOf_4 : decode cX9_gapOf 4 = .ok (.iload_n 1, 1) := by decide +kernel
theorem dX9_gapOf_5 : decode cX9_gapOf 5 = .ok (.iconst 1, 1) := by decide +kernel
theorem dX9_gapOf_6 : decode cX9_gapOf 6 = .ok (.iadd, 1) := by decide +kernel
theorem dX9_gapOf_7 : decode cX9_gapOf 7 = .ok (.iaload, 1) := by decide +kernel
theorem dX9_gapOf_8 : decode cX9_gapOf 8 = .ok (.aload_n 0, 1) := by decide +kernel
theorem dX9_gapOf_9 : decode cX9_gapOf 9 = .ok (.getfield 31, 3) := by decide +kernel
theorem dX9_gapOf_12 : decode cX9_gapOf 12 = .ok (.iload_n 1, 1) := by decide +kernel
theorem dX9_gapOf_13 : decode cX9_gapOf 13 = .ok (.iaload, 1) := by decide +kernel
theorem dX9_gapOf_14 : decode cX9_gapOf 14 = .ok (.isub, 1) := by decide +kernel
theorem dX9_gapOf_15 : decode cX9_gapOf 15 = .ok (.ireturn, 1) := by decide +kernel
theorem dX9_uneven_0 : decode cX9_uneven 0 = .ok (.iconst 0, 1) := by decide +kernel
theorem dX9_uneven_1 : decode cX9_uneven 1 = .ok (.istore_n 1, 1) := by decide +kernel
theorem dX9_uneven_2 : decode cX9_uneven 2 = .ok (.iconst 0, 1) := by decide +kernel
theorem dX9_uneven_3 : decode cX9_uneven 3 = .ok (.istore_n 2, 1) := by decide +kernel
theorem dX9_uneven_4 : decode cX9_uneven 4 = .ok (.iload_n 2, 1) := by decide +kernel
theorem dX9_uneven_5 : decode cX9_uneven 5 = .ok (.iconst 1, 1) := by decide +kernel
theorem dX9_uneven_6 : decode cX9_uneven 6 = .ok (.iadd, 1) := by decide +kernel
theorem dX9_uneven_7 : decode cX9_uneven 7 = .ok (.aload_n 0, 1) := by decide +kernel
theorem dX9_uneven_8 : decode cX9_uneven 8 = .ok (.invokevirtual 163, 3) := by decide +kernel
theorem dX9_uneven_11 : decode cX9_uneven 11 = .ok (.if_icmp .ge 25, 3) := by decide +kernel
theorem dX9_uneven_14 : decode cX9_uneven 14 = .ok (.iload_n 1, 1) := by decide +kernel
theorem dX9_uneven_15 : decode cX9_uneven 15 = .ok (.aload_n 0, 1) := by decide +kernel
theorem dX9_uneven_16 : decode cX9_uneven 16 = .ok (.iload_n 2, 1) := by decide +kernel
theorem dX9_uneven_17 : decode cX9_uneven 17 = .ok (.invokevirtual 167, 3) := by decide +kernel
theorem dX9_uneven_20 : decode cX9_uneven 20 = .ok (.aload_n 0, 1) := by decide +kernel
theorem dX9_uneven_21 : decode cX9_uneven 21 = .ok (.iload_n 2, 1) := by decide +kernel
theorem dX9_uneven_22 : decode cX9_uneven 22 = .ok (.iconst 1, 1) := by decide +kernel
theorem dX9_uneven_23 : decode cX9_uneven 23 = .ok (.iadd, 1) := by decide +kernel
theorem dX9_uneven_24 : decode cX9_uneven 24 = .ok (.invokevirtual 167, 3) := by decide +kernel
theorem dX9_uneven_27 : decode cX9_uneven 27 = .ok (.isub, 1) := by decide +kernel
theorem dX9_uneven_28 : decode cX9_uneven 28 = .ok (.iadd, 1) := by decide +kernel
theorem dX9_uneven_29 : decode cX9_uneven 29 = .ok (.istore_n 1, 1) := by decide +kernel
theorem dX9_uneven_30 : decode cX9_uneven 30 = .ok (.iinc 2 2, 3) := by decide +kernel
theorem dX9_uneven_33 : decode cX9_uneven 33 = .ok (.goto (-29), 3) := by decide +kernel
theorem dX9_uneven_36 : decode cX9_uneven 36 = .ok (.iload_n 1, 1) := by decide +kernel
theorem dX9_uneven_37 : decode cX9_uneven 37 = .ok (.ireturn, 1) := by decide +kernel
theorem dX9_evenest_0 : decode cX9_evenest 0 = .ok (.iconst 0, 1) := by decide +kernel
theorem dX9_evenest_1 : decode cX9_evenest 1 = .ok (.istore_n 1, 1) := by decide +kernel
theorem dX9_evenest_2 : decode cX9_evenest 2 = .ok (.iconst (-1), 1) := by decide +kernel
theorem dX9_evenest_3 : decode cX9_evenest 3 = .ok (.istore_n 2, 1) := by decide +kernel
theorem dX9_evenest_4 : decode cX9_evenest 4 = .ok (.iconst 0, 1) := by decide +kernel
theorem dX9_evenest_5 : decode cX9_evenest 5 = .ok (.istore_n 3, 1) := by decide +kernel
theorem dX9_evenest_6 : decode cX9_evenest 6 = .ok (.aload_n 0, 1) := by decide +kernel
theorem dX9_evenest_7 : decode cX9_evenest 7 = .ok (.getfield 9, 3) := by decide +kernel
theorem dX9_evenest_10 : decode cX9_evenest 10 = .ok (.iconst 4, 1) := by decide +kernel
theorem dX9_evenest_11 : decode cX9_evenest 11 = .ok (.iaload, 1) := by decide +kernel
theorem dX9_evenest_12 : decode cX9_evenest 12 = .ok (.istore 4, 2) := by decide +kernel
theorem dX9_evenest_14 : decode cX9_evenest 14 = .ok (.bipush (-20), 2) := by decide +kernel
theorem dX9_evenest_16 : decode cX9_evenest 16 = .ok (.istore 5, 2) := by decide +kernel
theorem dX9_evenest_18 : decode cX9_evenest 18 = .ok (.iload 5, 2) := by decide +kernel
theorem dX9_evenest_20 : decode cX9_evenest 20 = .ok (.bipush 20, 2) := by decide +kernel
theorem dX9_evenest_22 : decode cX9_evenest 22 = .ok (.if_icmp .gt 100, 3) := by decide +kernel
theorem dX9_evenest_25 : decode cX9_evenest 25 = .ok (.aload_n 0, 1) := by decide +kernel
theorem dX9_evenest_26 : decode cX9_evenest 26 = .ok (.iconst 4, 1) := by decide +kernel
theorem dX9_evenest_27 : decode cX9_evenest 27 = .ok (.iload 5, 2) := by decide +kernel
theorem dX9_evenest_29 : decode cX9_evenest 29 = .ok (.invokevirtual 157, 3) := by decide +kernel
theorem dX9_evenest_32 : decode cX9_evenest 32 = .ok (.aload_n 0, 1) := by decide +kernel
theorem dX9_evenest_33 : decode cX9_evenest 33 = .ok (.invokevirtual 170, 3) := by decide +kernel
theorem dX9_evenest_36 : decode cX9_evenest 36 = .ok (.invokestatic 173, 3) := by decide +kernel
theorem dX9_evenest_39 : decode cX9_evenest 39 = .ok (.istore 6, 2) := by decide +kernel
theorem dX9_evenest_41 : decode cX9_evenest 41 = .ok (.iload_n 2, 1) := by decide +kernel
theorem dX9_evenest_42 : decode cX9_evenest 42 = .ok (.ifCond .ge 7, 3) := by decide +kernel
theorem dX9_evenest_45 : decode cX9_evenest 45 = .ok (.iconst 1, 1) := by decide +kernel
theorem dX9_evenest_46 : decode cX9_evenest 46 = .ok (.goto 49, 3) := by decide +kernel
theorem dX9_evenest_49 : decode cX9_evenest 49 = .ok (.aload_n 0, 1) := by decide +kernel
theorem dX9_evenest_50 : decode cX9_evenest 50 = .ok (.getfield 86, 3) := by decide +kernel
theorem dX9_evenest_53 : decode cX9_evenest 53 = .ok (.iload_n 2, 1) := by decide +kernel
theorem dX9_evenest_54 : decode cX9_evenest 54 = .ok (.if_icmp .eq 12, 3) := by decide +kernel
theorem dX9_evenest_57 : decode cX9_evenest 57 = .ok (.aload_n 0, 1) := by decide +kernel
theorem dX9_evenest_58 : decode cX9_evenest 58 = .ok (.getfield 86, 3) := by decide +kernel
theorem dX9_evenest_61 : decode cX9_evenest 61 = .ok (.iload_n 2, 1) := by decide +kernel
theorem dX9_evenest_62 : decode cX9_evenest 62 = .ok (.isub, 1) := by decide +kernel
theorem dX9_evenest_63 : decode cX9_evenest 63 = .ok (.goto 32, 3) := by decide +kernel
theorem dX9_evenest_66 : decode cX9_evenest 66 = .ok (.iload 6, 2) := by decide +kernel
theorem dX9_evenest_68 : decode cX9_evenest 68 = .ok (.iload_n 3, 1) := by decide +kernel
theorem dX9_evenest_69 : decode cX9_evenest 69 = .ok (.if_icmp .eq 10, 3) := by decide +kernel
theorem dX9_evenest_72 : decode cX9_evenest 72 = .ok (.iload_n 3, 1) := by decide +kernel
theorem dX9_evenest_73 : decode cX9_evenest 73 = .ok (.iload 6, 2) := by decide +kernel
theorem dX9_evenest_75 : decode cX9_evenest 75 = .ok (.isub, 1) := by decide +kernel
theorem dX9_evenest_76 : decode cX9_evenest 76 = .ok (.goto 19, 3) := by decide +kernel
theorem dX9_evenest_79 : decode cX9_evenest 79 = .ok (.iload_n 1, 1) := by decide +kernel
theorem dX9_evenest_80 : decode cX9_evenest 80 = .ok (.iload 4, 2) := by decide +kernel
theorem dX9_evenest_82 : decode cX9_evenest 82 = .ok (.isub, 1) := by decide +kernel
theorem dX9_evenest_83 : decode cX9_evenest 83 = .ok (.invokestatic 173, 3) := by decide +kernel
theorem dX9_evenest_86 : decode cX9_evenest 86 = .ok (.iload 5, 2) := by decide +kernel
theorem dX9_evenest_88 : decode cX9_evenest 88 = .ok (.iload 4, 2) := by decide +kernel
theorem dX9_evenest_90 : decode cX9_evenest 90 = .ok (.isub, 1) := by decide +kernel
theorem dX9_evenest_91 : decode cX9_evenest 91 = .ok (.invokestatic 173, 3) := by decide +kernel
theorem dX9_evenest_94 : decode cX9_evenest 94 = .ok (.isub, 1) := by decide +kernel
theorem dX9_evenest_95 : decode cX9_evenest 95 = .ok (.istore 7, 2) := by decide +kernel
theorem dX9_evenest_97 : decode cX9_evenest 97 = .ok (.iload 7, 2) := by decide +kernel
theorem dX9_evenest_99 : decode cX9_evenest 99 = .ok (.ifCond .gt 6, 3) := by decide +kernel
theorem dX9_evenest_102 : decode cX9_evenest 102 = .ok (.goto 14, 3) := by decide +kernel
theorem dX9_evenest_105 : decode cX9_evenest 105 = .ok (.iload 5, 2) := by decide +kernel
theorem dX9_evenest_107 : decode cX9_evenest 107 = .ok (.istore_n 1, 1) := by decide +kernel
theorem dX9_evenest_108 : decode cX9_evenest 108 = .ok (.aload_n 0, 1) := by decide +kernel
theorem dX9_evenest_109 : decode cX9_evenest 109 = .ok (.getfield 86, 3) := by decide +kernel
theorem dX9_evenest_112 : decode cX9_evenest 112 = .ok (.istore_n 2, 1) := by decide +kernel
theorem dX9_evenest_113 : decode cX9_evenest 113 = .ok (.iload 6, 2) := by decide +kernel
theorem dX9_evenest_115 : decode cX9_evenest 115 = .ok (.istore_n 3, 1) := by decide +kernel
theorem dX9_evenest_116 : decode cX9_evenest 116 = .ok (.iinc 5 1, 3) := by decide +kernel
theorem dX9_evenest_119 : decode cX9_evenest 119 = .ok (.goto (-101), 3) := by decide +kernel
theorem dX9_evenest_122 : decode cX9_evenest 122 = .ok (.iload_n 1, 1) := by decide +kernel
theorem dX9_evenest_123 : decode cX9_evenest 123 = .ok (.ireturn, 1) := by decide +kernel
theorem dX9_beat_0 : decode cX9_beat 0 = .ok (.iload_n 1, 1) := by decide +kernel
theorem dX9_beat_1 : decode cX9_beat 1 = .ok (.iconst 0, 1) := by decide +kernel
theorem dX9_beat_2 : decode cX9_beat 2 = .ok (.iconst 4, 1) := by decide +kernel
theorem dX9_beat_3 : decode cX9_beat 3 = .ok (.invokestatic 55, 3) := by decide +kernel
theorem dX9_beat_6 : decode cX9_beat 6 = .ok (.ifCond .ne 7, 3) := by decide +kernel
theorem dX9_beat_9 : decode cX9_beat 9 = .ok (.sipush (-1000), 3) := by decide +kernel
theorem dX9_beat_12 : decode cX9_beat 12 = .ok (.ireturn, 1) := by decide +kernel
theorem dX9_beat_13 : decode cX9_beat 13 = .ok (.iload_n 1, 1) := by decide +kernel
theorem dX9_beat_14 : decode cX9_beat 14 = .ok (.iconst 3, 1) := by decide +kernel
theorem dX9_beat_15 : decode cX9_beat 15 = .ok (.if_icmp .ne 8, 3) := by decide +kernel
theorem dX9_beat_18 : decode cX9_beat 18 = .ok (.aload_n 0, 1) := by decide +kernel
theorem dX9_beat_19 : decode cX9_beat 19 = .ok (.invokevirtual 176, 3) := by decide +kernel
theorem dX9_beat_22 : decode cX9_beat 22 = .ok (.ireturn, 1) := by decide +kernel
theorem dX9_beat_23 : decode cX9_beat 23 = .ok (.aload_n 0, 1) := by decide +kernel
theorem dX9_beat_24 : decode cX9_beat 24 = .ok (.invokevirtual 161, 3) := by decide +kernel
theorem dX9_beat_27 : decode cX9_beat 27 = .ok (.iload_n 1, 1) := by decide +kernel
theorem dX9_beat_28 : decode cX9_beat 28 = .ok (.ifCond .ne 10, 3) := by decide +kernel
theorem dX9_beat_31 : decode cX9_beat 31 = .ok (.aload_n 0, 1) := by decide +kernel
theorem dX9_beat_32 : decode cX9_beat 32 = .ok (.getfield 86, 3) := by decide +kernel
theorem dX9_beat_35 : decode cX9_beat 35 = .ok (.goto 51, 3) := by decide +kernel
theorem dX9_beat_38 : decode cX9_beat 38 = .ok (.iload_n 1, 1) := by decide +kernel
theorem dX9_beat_39 : decode cX9_beat 39 = .ok (.iconst 1, 1) := by decide +kernel
theorem dX9_beat_40 : decode cX9_beat 40 = .ok (.if_icmp .ne 10, 3) := by decide +kernel
theorem dX9_beat_43 : decode cX9_beat 43 = .ok (.aload_n 0, 1) := by decide +kernel
theorem dX9_beat_44 : decode cX9_beat 44 = .ok (.invokevirtual 163, 3) := by decide +kernel
theorem dX9_beat_47 : decode cX9_beat 47 = .ok (.goto 39, 3) := by decide +kernel
theorem dX9_beat_50 : decode cX9_beat 50 = .ok (.iload_n 1, 1) := by decide +kernel
theorem dX9_beat_51 : decode cX9_beat 51 = .ok (.iconst 2, 1) := by decide +kernel
theorem dX9_beat_52 : decode cX9_beat 52 = .ok (.if_icmp .ne 10, 3) := by decide +kernel
theorem dX9_beat_55 : decode cX9_beat 55 = .ok (.aload_n 0, 1) := by decide +kernel
theorem dX9_beat_56 : decode cX9_beat 56 = .ok (.invokevirtual 170, 3) := by decide +kernel
theorem dX9_beat_59 : decode cX9_beat 59 = .ok (.goto 27, 3) := by decide +kernel
theorem dX9_beat_62 : decode cX9_beat 62 = .ok (.aload_n 0, 1) := by decide +kernel
theorem dX9_beat_63 : decode cX9_beat 63 = .ok (.getfield 86, 3) := by decide +kernel
theorem dX9_beat_66 : decode cX9_beat 66 = .ok (.ifCond .ne 9, 3) := by decide +kernel
theorem dX9_beat_69 : decode cX9_beat 69 = .ok (.sipush (-500), 3) := by decide +kernel
theorem dX9_beat_72 : decode cX9_beat 72 = .ok (.goto 14, 3) := by decide +kernel
theorem dX9_beat_75 : decode cX9_beat 75 = .ok (.aload_n 0, 1) := by decide +kernel
theorem dX9_beat_76 : decode cX9_beat 76 = .ok (.getfield 31, 3) := by decide +kernel
theorem dX9_beat_79 : decode cX9_beat 79 = .ok (.aload_n 0, 1) := by decide +kernel
theorem dX9_beat_80 : decode cX9_beat 80 = .ok (.getfield 86, 3) := by decide +kernel
theorem dX9_beat_83 : decode cX9_beat 83 = .ok (.iconst 1, 1) := by decide +kernel
theorem dX9_beat_84 : decode cX9_beat 84 = .ok (.isub, 1) := by decide +kernel
theorem dX9_beat_85 : decode cX9_beat 85 = .ok (.iaload, 1) := by decide +kernel
theorem dX9_beat_86 : decode cX9_beat 86 = .ok (.ireturn, 1) := by decide +kernel
theorem dX9_gap_0 : decode cX9_gap 0 = .ok (.iload_n 1, 1) := by decide +kernel
theorem dX9_gap_1 : decode cX9_gap 1 = .ok (.ifCond .ge 5, 3) := by decide +kernel
theorem dX9_gap_4 : decode cX9_gap 4 = .ok (.iconst (-1), 1) := by decide +kernel
theorem dX9_gap_5 : decode cX9_gap 5 = .ok (.ireturn, 1) := by decide +kernel
theorem dX9_gap_6 : decode cX9_gap 6 = .ok (.aload_n 0, 1) := by decide +kernel
theorem dX9_gap_7 : decode cX9_gap 7 = .ok (.invokevirtual 161, 3) := by decide +kernel
theorem dX9_gap_10 : decode cX9_gap 10 = .ok (.iload_n 1, 1) := by decide +kernel
theorem dX9_gap_11 : decode cX9_gap 11 = .ok (.aload_n 0, 1) := by decide +kernel
theorem dX9_gap_12 : decode cX9_gap 12 = .ok (.invokevirtual 163, 3) := by decide +kernel
theorem dX9_gap_15 : decode cX9_gap 15 = .ok (.if_icmp .ge 11, 3) := by decide +kernel
theorem dX9_gap_18 : decode cX9_gap 18 = .ok (.aload_n 0, 1) := by decide +kernel
theorem dX9_gap_19 : decode cX9_gap 19 = .ok (.iload_n 1, 1) := by decide +kernel
theorem dX9_gap_20 : decode cX9_gap 20 = .ok (.invokevirtual 167, 3) := by decide +kernel
theorem dX9_gap_23 : decode cX9_gap 23 = .ok (.goto 5, 3) := by decide +kernel
theorem dX9_gap_26 : decode cX9_gap 26 = .ok (.bipush (-5), 2) := by decide +kernel
theorem dX9_gap_28 : decode cX9_gap 28 = .ok (.ireturn, 1) := by decide +kernel
theorem dX9_longest_0 : decode cX9_longest 0 = .ok (.iload_n 1, 1) := by decide +kernel
theorem dX9_longest_1 : decode cX9_longest 1 = .ok (.ifCond .lt 12, 3) := by decide +kernel
theorem dX9_longest_4 : decode cX9_longest 4 = .ok (.iload_n 2, 1) := by decide +kernel
theorem dX9_longest_5 : decode cX9_longest 5 = .ok (.iconst 0, 1) := by decide +kernel
theorem dX9_longest_6 : decode cX9_longest 6 = .ok (.iconst 1, 1) := by decide +kernel
theorem dX9_longest_7 : decode cX9_longest 7 = .ok (.invokestatic 55, 3) := by decide +kernel
theorem dX9_longest_10 : decode cX9_longest 10 = .ok (.ifCond .ne 5, 3) := by decide +kernel
theorem dX9_longest_13 : decode cX9_longest 13 = .ok (.iconst (-1), 1) := by decide +kernel
theorem dX9_longest_14 : decode cX9_longest 14 = .ok (.ireturn, 1) := by decide +kernel
theorem dX9_longest_15 : decode cX9_longest 15 = .ok (.aload_n 0, 1) := by decide +kernel
theorem dX9_longest_16 : decode cX9_longest 16 = .ok (.invokevirtual 161, 3) := by decide +kernel
theorem dX9_longest_19 : decode cX9_longest 19 = .ok (.iconst 0, 1) := by decide +kernel
theorem dX9_longest_20 : decode cX9_longest 20 = .ok (.istore_n 3, 1) := by decide +kernel
theorem dX9_longest_21 : decode cX9_longest 21 = .ok (.iload_n 3, 1) := by decide +kernel
theorem dX9_longest_22 : decode cX9_longest 22 = .ok (.aload_n 0, 1) := by decide +kernel
theorem dX9_longest_23 : decode cX9_longest 23 = .ok (.invokevirtual 163, 3) := by decide +kernel
theorem dX9_longest_26 : decode cX9_longest 26 = .ok (.if_icmp .ge 87, 3) := by decide +kernel
theorem dX9_longest_29 : decode cX9_longest 29 = .ok (.iconst 0, 1) := by decide +kernel
theorem dX9_longest_30 : decode cX9_longest 30 = .ok (.istore 4, 2) := by decide +kernel
theorem dX9_longest_32 : decode cX9_longest 32 = .ok (.iconst 0, 1) := by decide +kernel
theorem dX9_longest_33 : decode cX9_longest 33 = .ok (.istore 5, 2) := by decide +kernel
theorem dX9_longest_35 : decode cX9_longest 35 = .ok (.iload 5, 2) := by decide +kernel
theorem dX9_longest_37 : decode cX9_longest 37 = .ok (.aload_n 0, 1) := by decide +kernel
theorem dX9_longest_38 : decode cX9_longest 38 = .ok (.invokevirtual 163, 3) := by decide +kernel
theorem dX9_longest_41 : decode cX9_longest 41 = .ok (.if_icmp .ge 46, 3) := by decide +kernel
theorem dX9_longest_44 : decode cX9_longest 44 = .ok (.aload_n 0, 1) := by decide +kernel
theorem dX9_longest_45 : decode cX9_longest 45 = .ok (.iload 5, 2) := by decide +kernel
theorem dX9_longest_47 : decode cX9_longest 47 = .ok (.invokevirtual 167, 3) := by decide +kernel
theorem dX9_longest_50 : decode cX9_longest 50 = .ok (.aload_n 0, 1) := by decide +kernel
theorem dX9_longest_51 : decode cX9_longest 51 = .ok (.iload_n 3, 1) := by decide +kernel
theorem dX9_longest_52 : decode cX9_longest 52 = .ok (.invokevirtual 167, 3) := by decide +kernel
theorem dX9_longest_55 : decode cX9_longest 55 = .ok (.if_icmp .gt 23, 3) := by decide +kernel
theorem dX9_longest_58 : decode cX9_longest 58 = .ok (.aload_n 0, 1) := by decide +kernel
theorem dX9_longest_59 : decode cX9_longest 59 = .ok (.iload 5, 2) := by decide +kernel
theorem dX9_longest_61 : decode cX9_longest 61 = .ok (.invokevirtual 167, 3) := by decide +kernel
theorem dX9_longest_64 : decode cX9_longest 64 = .ok (.aload_n 0, 1) := by decide +kernel
theorem dX9_longest_65 : decode cX9_longest 65 = .ok (.iload_n 3, 1) := by decide +kernel
theorem dX9_longest_66 : decode cX9_longest 66 = .ok (.invokevirtual 167, 3) := by decide +kernel
theorem dX9_longest_69 : decode cX9_longest 69 = .ok (.if_icmp .ne 12, 3) := by decide +kernel
theorem dX9_longest_72 : decode cX9_longest 72 = .ok (.iload 5, 2) := by decide +kernel
theorem dX9_longest_74 : decode cX9_longest 74 = .ok (.iload_n 3, 1) := by decide +kernel
theorem dX9_longest_75 : decode cX9_longest 75 = .ok (.if_icmp .ge 6, 3) := by decide +kernel
theorem dX9_longest_78 : decode cX9_longest 78 = .ok (.iinc 4 1, 3) := by decide +kernel
theorem dX9_longest_81 : decode cX9_longest 81 = .ok (.iinc 5 1, 3) := by decide +kernel
theorem dX9_longest_84 : decode cX9_longest 84 = .ok (.goto (-49), 3) := by decide +kernel
theorem dX9_longest_87 : decode cX9_longest 87 = .ok (.iload 4, 2) := by decide +kernel
theorem dX9_longest_89 : decode cX9_longest 89 = .ok (.iload_n 1, 1) := by decide +kernel
theorem dX9_longest_90 : decode cX9_longest 90 = .ok (.if_icmp .ne 17, 3) := by decide +kernel
theorem dX9_longest_93 : decode cX9_longest 93 = .ok (.iload_n 2, 1) := by decide +kernel
theorem dX9_longest_94 : decode cX9_longest 94 = .ok (.ifCond .ne 11, 3) := by decide +kernel
theorem dX9_longest_97 : decode cX9_longest 97 = .ok (.aload_n 0, 1) := by decide +kernel
theorem dX9_longest_98 : decode cX9_longest 98 = .ok (.iload_n 3, 1) := by decide +kernel
theorem dX9_longest_99 : decode cX9_longest 99 = .ok (.invokevirtual 167, 3) := by decide +kernel
theorem dX9_longest_102 : decode cX9_longest 102 = .ok (.goto 4, 3) := by decide +kernel
theorem dX9_longest_105 : decode cX9_longest 105 = .ok (.iload_n 3, 1) := by decide +kernel
theorem dX9_longest_106 : decode cX9_longest 106 = .ok (.ireturn, 1) := by decide +kernel
theorem dX9_longest_107 : decode cX9_longest 107 = .ok (.iinc 3 1, 3) := by decide +kernel
theorem dX9_longest_110 : decode cX9_longest 110 = .ok (.goto (-89), 3) := by decide +kernel
theorem dX9_longest_113 : decode cX9_longest 113 = .ok (.bipush (-5), 2) := by decide +kernel
theorem dX9_longest_115 : decode cX9_longest 115 = .ok (.ireturn, 1) := by decide +kernel
theorem dX9_see_0 : decode cX9_see 0 = .ok (.iload_n 1, 1) := by decide +kernel
theorem dX9_see_1 : decode cX9_see 1 = .ok (.iconst (-1), 1) := by decide +kernel
theorem dX9_see_2 : decode cX9_see 2 = .ok (.if_icmp .ne 13, 3) := by decide +kernel
theorem dX9_see_5 : decode cX9_see 5 = .ok (.aload_n 0, 1) := by decide +kernel
theorem dX9_see_6 : decode cX9_see 6 = .ok (.getfield 9, 3) := by decide +kernel
theorem dX9_see_9 : decode cX9_see 9 = .ok (.bipush 13, 2) := by decide +kernel
theorem dX9_see_11 : decode cX9_see 11 = .ok (.iconst 0, 1) := by decide +kernel
theorem dX9_see_12 : decode cX9_see 12 = .ok (.iastore, 1) := by decide +kernel
theorem dX9_see_13 : decode cX9_see 13 = .ok (.iconst 0, 1) := by decide +kernel
theorem dX9_see_14 : decode cX9_see 14 = .ok (.ireturn, 1) := by decide +kernel
theorem dX9_see_15 : decode cX9_see 15 = .ok (.iload_n 1, 1) := by decide +kernel
theorem dX9_see_16 : decode cX9_see 16 = .ok (.iconst 0, 1) := by decide +kernel
theorem dX9_see_17 : decode cX9_see 17 = .ok (.sipush 400, 3) := by decide +kernel
theorem dX9_see_20 : decode cX9_see 20 = .ok (.invokestatic 55, 3) := by decide +kernel
theorem dX9_see_23 : decode cX9_see 23 = .ok (.ifCond .eq 16, 3) := by decide +kernel
theorem dX9_see_26 : decode cX9_see 26 = .ok (.iload_n 2, 1) := by decide +kernel
theorem dX9_see_27 : decode cX9_see 27 = .ok (.sipush (-300), 3) := by decide +kernel
theorem dX9_see_30 : decode cX9_see 30 = .ok (.sipush 300, 3) := by decide +kernel
theorem dX9_see_33 : decode cX9_see 33 = .ok (.invokestatic 55, 3) := by decide +kernel
theorem dX9_see_36 : decode cX9_see 36 = .ok (.ifCond .ne 6, 3) := by decide +kernel
theorem dX9_see_39 : decode cX9_see 39 = .ok (.bipush (-2), 2) := by decide +kernel
theorem dX9_see_41 : decode cX9_see 41 = .ok (.ireturn, 1) := by decide +kernel
theorem dX9_see_42 : decode cX9_see 42 = .ok (.aload_n 0, 1) := by decide +kernel
theorem dX9_see_43 : decode cX9_see 43 = .ok (.getfield 9, 3) := by decide +kernel
theorem dX9_see_46 : decode cX9_see 46 = .ok (.bipush 13, 2) := by decide +kernel
theorem dX9_see_48 : decode cX9_see 48 = .ok (.iaload, 1) := by decide +kernel
theorem dX9_see_49 : decode cX9_see 49 = .ok (.iconst 5, 1) := by decide +kernel
theorem dX9_see_50 : decode cX9_see 50 = .ok (.if_icmp .ne 6, 3) := by decide +kernel
theorem dX9_see_53 : decode cX9_see 53 = .ok (.bipush (-4), 2) := by decide +kernel
theorem dX9_see_55 : decode cX9_see 55 = .ok (.ireturn, 1) := by decide +kernel
theorem dX9_see_56 : decode cX9_see 56 = .ok (.aload_n 0, 1) := by decide +kernel
theorem dX9_see_57 : decode cX9_see 57 = .ok (.getfield 9, 3) := by decide +kernel
theorem dX9_see_60 : decode cX9_see 60 = .ok (.bipush 43, 2) := by decide +kernel
theorem dX9_see_62 : decode cX9_see 62 = .ok (.iconst 2, 1) := by decide +kernel
theorem dX9_see_63 : decode cX9_see 63 = .ok (.aload_n 0, 1) := by decide +kernel
theorem dX9_see_64 : decode cX9_see 64 = .ok (.getfield 9, 3) := by decide +kernel
theorem dX9_see_67 : decode cX9_see 67 = .ok (.bipush 13, 2) := by decide +kernel
theorem dX9_see_69 : decode cX9_see 69 = .ok (.iaload, 1) := by decide +kernel
theorem dX9_see_70 : decode cX9_see 70 = .ok (.imul, 1) := by decide +kernel
theorem dX9_see_71 : decode cX9_see 71 = .ok (.iadd, 1) := by decide +kernel
theorem dX9_see_72 : decode cX9_see 72 = .ok (.iload_n 1, 1) := by decide +kernel
theorem dX9_see_73 : decode cX9_see 73 = .ok (.iastore, 1) := by decide +kernel
theorem dX9_see_74 : decode cX9_see 74 = .ok (.aload_n 0, 1) := by decide +kernel
theorem dX9_see_75 : decode cX9_see 75 = .ok (.getfield 9, 3) := by decide +kernel
theorem dX9_see_78 : decode cX9_see 78 = .ok (.bipush 43, 2) := by decide +kernel
theorem dX9_see_80 : decode cX9_see 80 = .ok (.iconst 2, 1) := by decide +kernel
theorem dX9_see_81 : decode cX9_see 81 = .ok (.aload_n 0, 1) := by decide +kernel
theorem dX9_see_82 : decode cX9_see 82 = .ok (.getfield 9, 3) := by decide +kernel
theorem dX9_see_85 : decode cX9_see 85 = .ok (.bipush 13, 2) := by decide +kernel
theorem dX9_see_87 : decode cX9_see 87 = .ok (.iaload, 1) := by decide +kernel
theorem dX9_see_88 : decode cX9_see 88 = .ok (.imul, 1) := by decide +kernel
theorem dX9_see_89 : decode cX9_see 89 = .ok (.iadd, 1) := by decide +kernel
theorem dX9_see_90 : decode cX9_see 90 = .ok (.iconst 1, 1) := by decide +kernel
theorem dX9_see_91 : decode cX9_see 91 = .ok (.iadd, 1) := by decide +kernel
theorem dX9_see_92 : decode cX9_see 92 = .ok (.iload_n 2, 1) := by decide +kernel
theorem dX9_see_93 : decode cX9_see 93 = .ok (.iastore, 1) := by decide +kernel
theorem dX9_see_94 : decode cX9_see 94 = .ok (.aload_n 0, 1) := by decide +kernel
theorem dX9_see_95 : decode cX9_see 95 = .ok (.getfield 9, 3) := by decide +kernel
theorem dX9_see_98 : decode cX9_see 98 = .ok (.bipush 13, 2) := by decide +kernel
theorem dX9_see_100 : decode cX9_see 100 = .ok (.dup2, 1) := by decide +kernel
theorem dX9_see_101 : decode cX9_see 101 = .ok (.iaload, 1) := by decide +kernel
theorem dX9_see_102 : decode cX9_see 102 = .ok (.iconst 1, 1) := by decide +kernel
theorem dX9_see_103 : decode cX9_see 103 = .ok (.iadd, 1) := by decide +kernel
theorem dX9_see_104 : decode cX9_see 104 = .ok (.dup_x2, 1) := by decide +kernel
theorem dX9_see_105 : decode cX9_see 105 = .ok (.iastore, 1) := by decide +kernel
theorem dX9_see_106 : decode cX9_see 106 = .ok (.ireturn, 1) := by decide +kernel
theorem dX9_isSeen_0 : decode cX9_isSeen 0 = .ok (.iconst 1, 1) := by decide +kernel
theorem dX9_isSeen_1 : decode cX9_isSeen 1 = .ok (.istore_n 1, 1) := by decide +kernel
theorem dX9_isSeen_2 : decode cX9_isSeen 2 = .ok (.iconst 0, 1) := by decide +kernel
theorem dX9_isSeen_3 : decode cX9_isSeen 3 = .ok (.istore_n 2, 1) := by decide +kernel
theorem dX9_isSeen_4 : decode cX9_isSeen 4 = .ok (.iload_n 2, 1) := by decide +kernel
theorem dX9_isSeen_5 : decode cX9_isSeen 5 = .ok (.sipush 400, 3) := by decide +kernel
theorem dX9_isSeen_8 : decode cX9_isSeen 8 = .ok (.if_icmp .gt 75, 3) := by decide +kernel
theorem dX9_isSeen_11 : decode cX9_isSeen 11 = .ok (.iload_n 1, 1) := by decide +kernel
theorem dX9_isSeen_12 : decode cX9_isSeen 12 = .ok (.ifCond .eq 71, 3) := by decide +kernel
theorem dX9_isSeen_15 : decode cX9_isSeen 15 = .ok (.iconst 0, 1) := by decide +kernel
theorem dX9_isSeen_16 : decode cX9_isSeen 16 = .ok (.istore_n 3, 1) := by decide +kernel
theorem dX9_isSeen_17 : decode cX9_isSeen 17 = .ok (.iload_n 3, 1) := by decide +kernel
theorem dX9_isSeen_18 : decode cX9_isSeen 18 = .ok (.aload_n 0, 1) := by decide +kernel
theorem dX9_isSeen_19 : decode cX9_isSeen 19 = .ok (.getfield 9, 3) := by decide +kernel
theorem dX9_isSeen_22 : decode cX9_isSeen 22 = .ok (.bipush 13, 2) := by decide +kernel
theorem dX9_isSeen_24 : decode cX9_isSeen 24 = .ok (.iaload, 1) := by decide +kernel
theorem dX9_isSeen_25 : decode cX9_isSeen 25 = .ok (.if_icmp .ge 48, 3) := by decide +kernel
theorem dX9_isSeen_28 : decode cX9_isSeen 28 = .ok (.aload_n 0, 1) := by decide +kernel
theorem dX9_isSeen_29 : decode cX9_isSeen 29 = .ok (.getfield 9, 3) := by decide +kernel
theorem dX9_isSeen_32 : decode cX9_isSeen 32 = .ok (.bipush 43, 2) := by decide +kernel
theorem dX9_isSeen_34 : decode cX9_isSeen 34 = .ok (.iconst 2, 1) := by decide +kernel
theorem dX9_isSeen_35 : decode cX9_isSeen 35 = .ok (.iload_n 3, 1) := by decide +kernel
theorem dX9_isSeen_36 : decode cX9_isSeen 36 = .ok (.imul, 1) := by decide +kernel
theorem dX9_isSeen_37 : decode cX9_isSeen 37 = .ok (.iadd, 1) := by decide +kernel
theorem dX9_isSeen_38 : decode cX9_isSeen 38 = .ok (.iaload, 1) := by decide +kernel
theorem dX9_isSeen_39 : decode cX9_isSeen 39 = .ok (.iload_n 2, 1) := by decide +kernel
theorem dX9_isSeen_40 : decode cX9_isSeen 40 = .ok (.if_icmp .ne 27, 3) := by decide +kernel
theorem dX9_isSeen_43 : decode cX9_isSeen 43 = .ok (.aload_n 0, 1) := by decide +kernel
theorem dX9_isSeen_44 : decode cX9_isSeen 44 = .ok (.getfield 9, 3) := by decide +kernel
theorem dX9_isSeen_47 : decode cX9_isSeen 47 = .ok (.bipush 43, 2) := by decide +kernel
theorem dX9_isSeen_49 : decode cX9_isSeen 49 = .ok (.iconst 2, 1) := by decide +kernel
theorem dX9_isSeen_50 : decode cX9_isSeen 50 = .ok (.iload_n 3, 1) := by decide +kernel
theorem dX9_isSeen_51 : decode cX9_isSeen 51 = .ok (.imul, 1) := by decide +kernel
theorem dX9_isSeen_52 : decode cX9_isSeen 52 = .ok (.iadd, 1) := by decide +kernel
theorem dX9_isSeen_53 : decode cX9_isSeen 53 = .ok (.iconst 1, 1) := by decide +kernel
theorem dX9_isSeen_54 : decode cX9_isSeen 54 = .ok (.iadd, 1) := by decide +kernel
theorem dX9_isSeen_55 : decode cX9_isSeen 55 = .ok (.iaload, 1) := by decide +kernel
theorem dX9_isSeen_56 : decode cX9_isSeen 56 = .ok (.aload_n 0, 1) := by decide +kernel
theorem dX9_isSeen_57 : decode cX9_isSeen 57 = .ok (.getfield 9, 3) := by decide +kernel
theorem dX9_isSeen_60 : decode cX9_isSeen 60 = .ok (.iconst 0, 1) := by decide +kernel
theorem dX9_isSeen_61 : decode cX9_isSeen 61 = .ok (.iaload, 1) := by decide +kernel
theorem dX9_isSeen_62 : decode cX9_isSeen 62 = .ok (.if_icmp .eq 5, 3) := by decide +kernel
theorem dX9_isSeen_65 : decode cX9_isSeen 65 = .ok (.iconst 0, 1) := by decide +kernel
theorem dX9_isSeen_66 : decode cX9_isSeen 66 = .ok (.istore_n 1, 1) := by decide +kernel
theorem dX9_isSeen_67 : decode cX9_isSeen 67 = .ok (.iinc 3 1, 3) := by decide +kernel
theorem dX9_isSeen_70 : decode cX9_isSeen 70 = .ok (.goto (-53), 3) := by decide +kernel
theorem dX9_isSeen_73 : decode cX9_isSeen 73 = .ok (.aload_n 0, 1) := by decide +kernel
theorem dX9_isSeen_74 : decode cX9_isSeen 74 = .ok (.invokevirtual 93, 3) := by decide +kernel
theorem dX9_isSeen_77 : decode cX9_isSeen 77 = .ok (.iinc 2 1, 3) := by decide +kernel
theorem dX9_isSeen_80 : decode cX9_isSeen 80 = .ok (.goto (-76), 3) := by decide +kernel
theorem dX9_isSeen_83 : decode cX9_isSeen 83 = .ok (.iload_n 1, 1) := by decide +kernel
theorem dX9_isSeen_84 : decode cX9_isSeen 84 = .ok (.ireturn, 1) := by decide +kernel
theorem dX9_fits_0 : decode cX9_fits 0 = .ok (.iload_n 1, 1) := by decide +kernel
theorem dX9_fits_1 : decode cX9_fits 1 = .ok (.iconst 0, 1) := by decide +kernel
theorem dX9_fits_2 : decode cX9_fits 2 = .ok (.iconst 1, 1) := by decide +kernel
theorem dX9_fits_3 : decode cX9_fits 3 = .ok (.invokestatic 55, 3) := by decide +kernel
theorem dX9_fits_6 : decode cX9_fits 6 = .ok (.ifCond .ne 5, 3) := by decide +kernel
theorem dX9_fits_9 : decode cX9_fits 9 = .ok (.iconst (-1), 1) := by decide +kernel
theorem dX9_fits_10 : decode cX9_fits 10 = .ok (.ireturn, 1) := by decide +kernel
theorem dX9_fits_11 : decode cX9_fits 11 = .ok (.iconst 0, 1) := by decide +kernel
theorem dX9_fits_12 : decode cX9_fits 12 = .ok (.istore_n 2, 1) := by decide +kernel
theorem dX9_fits_13 : decode cX9_fits 13 = .ok (.bipush (-5), 2) := by decide +kernel
theorem dX9_fits_15 : decode cX9_fits 15 = .ok (.istore_n 3, 1) := by decide +kernel
theorem dX9_fits_16 : decode cX9_fits 16 = .ok (.bipush 32, 2) := by decide +kernel
theorem dX9_fits_18 : decode cX9_fits 18 = .ok (.istore 4, 2) := by decide +kernel
theorem dX9_fits_20 : decode cX9_fits 20 = .ok (.iload 4, 2) := by decide +kernel
theorem dX9_fits_22 : decode cX9_fits 22 = .ok (.ifCond .le 45, 3) := by decide +kernel
theorem dX9_fits_25 : decode cX9_fits 25 = .ok (.aload_n 0, 1) := by decide +kernel
theorem dX9_fits_26 : decode cX9_fits 26 = .ok (.invokevirtual 151, 3) := by decide +kernel
theorem dX9_fits_29 : decode cX9_fits 29 = .ok (.aload_n 0, 1) := by decide +kernel
theorem dX9_fits_30 : decode cX9_fits 30 = .ok (.getfield 9, 3) := by decide +kernel
theorem dX9_fits_33 : decode cX9_fits 33 = .ok (.iconst 2, 1) := by decide +kernel
theorem dX9_fits_34 : decode cX9_fits 34 = .ok (.iload 4, 2) := by decide +kernel
theorem dX9_fits_36 : decode cX9_fits 36 = .ok (.iastore, 1) := by decide +kernel
theorem dX9_fits_37 : decode cX9_fits 37 = .ok (.aload_n 0, 1) := by decide +kernel
theorem dX9_fits_38 : decode cX9_fits 38 = .ok (.invokevirtual 179, 3) := by decide +kernel
theorem dX9_fits_41 : decode cX9_fits 41 = .ok (.istore 5, 2) := by decide +kernel
theorem dX9_fits_43 : decode cX9_fits 43 = .ok (.aload_n 0, 1) := by decide +kernel
theorem dX9_fits_44 : decode cX9_fits 44 = .ok (.invokevirtual 154, 3) := by decide +kernel
theorem dX9_fits_47 : decode cX9_fits 47 = .ok (.iload 5, 2) := by decide +kernel
theorem dX9_fits_49 : decode cX9_fits 49 = .ok (.ifCond .ne 6, 3) := by decide +kernel
theorem dX9_fits_52 : decode cX9_fits 52 = .ok (.goto 9, 3) := by decide +kernel
theorem dX9_fits_55 : decode cX9_fits 55 = .ok (.iinc 2 1, 3) := by decide +kernel
theorem dX9_fits_58 : decode cX9_fits 58 = .ok (.iload 4, 2) := by decide +kernel
theorem dX9_fits_60 : decode cX9_fits 60 = .ok (.istore_n 3, 1) := by decide +kernel
theorem dX9_fits_61 : decode cX9_fits 61 = .ok (.iinc 4 (-1), 3) := by decide +kernel
theorem dX9_fits_64 : decode cX9_fits 64 = .ok (.goto (-44), 3) := by decide +kernel
theorem dX9_fits_67 : decode cX9_fits 67 = .ok (.iload_n 1, 1) := by decide +kernel
theorem dX9_fits_68 : decode cX9_fits 68 = .ok (.ifCond .ne 7, 3) := by decide +kernel
theorem dX9_fits_71 : decode cX9_fits 71 = .ok (.iload_n 2, 1) := by decide +kernel
theorem dX9_fits_72 : decode cX9_fits 72 = .ok (.goto 4, 3) := by decide +kernel
theorem dX9_fits_75 : decode cX9_fits 75 = .ok (.iload_n 3, 1) := by decide +kernel
theorem dX9_fits_76 : decode cX9_fits 76 = .ok (.ireturn, 1) := by decide +kernel
theorem dX9_odds_0 : decode cX9_odds 0 = .ok (.iload_n 1, 1) := by decide +kernel
theorem dX9_odds_1 : decode cX9_odds 1 = .ok (.iconst 0, 1) := by decide +kernel
theorem dX9_odds_2 : decode cX9_odds 2 = .ok (.bipush 99, 2) := by decide +kernel
theorem dX9_odds_4 : decode cX9_odds 4 = .ok (.invokestatic 55, 3) := by decide +kernel
theorem dX9_odds_7 : decode cX9_odds 7 = .ok (.ifCond .eq 12, 3) := by decide +kernel
theorem dX9_odds_10 : decode cX9_odds 10 = .ok (.iload_n 2, 1) := by decide +kernel
theorem dX9_odds_11 : decode cX9_odds 11 = .ok (.iconst 0, 1) := by decide +kernel
theorem dX9_odds_12 : decode cX9_odds 12 = .ok (.iconst 1, 1) := by decide +kernel
theorem dX9_odds_13 : decode cX9_odds 13 = .ok (.invokestatic 55, 3) := by decide +kernel
theorem dX9_odds_16 : decode cX9_odds 16 = .ok (.ifCond .ne 7, 3) := by decide +kernel
theorem dX9_odds_19 : decode cX9_odds 19 = .ok (.ldc2_w 100, 3) := by decide +kernel
theorem dX9_odds_22 : decode cX9_odds 22 = .ok (.lreturn, 1) := by decide +kernel
theorem dX9_odds_23 : decode cX9_odds 23 = .ok (.iconst 0, 1) := by decide +kernel
theorem dX9_odds_24 : decode cX9_odds 24 = .ok (.istore_n 3, 1) := by decide +kernel
theorem dX9_odds_25 : decode cX9_odds 25 = .ok (.bipush (-20), 2) := by decide +kernel
theorem dX9_odds_27 : decode cX9_odds 27 = .ok (.istore 4, 2) := by decide +kernel
theorem dX9_odds_29 : decode cX9_odds 29 = .ok (.iload 4, 2) := by decide +kernel
theorem dX9_odds_31 : decode cX9_odds 31 = .ok (.bipush 20, 2) := by decide +kernel
theorem dX9_odds_33 : decode cX9_odds 33 = .ok (.if_icmp .gt 27, 3) := by decide +kernel
theorem dX9_odds_36 : decode cX9_odds 36 = .ok (.aload_n 0, 1) := by decide +kernel
theorem dX9_odds_37 : decode cX9_odds 37 = .ok (.iconst 1, 1) := by decide +kernel
theorem dX9_odds_38 : decode cX9_odds 38 = .ok (.iload 4, 2) := by decide +kernel
theorem dX9_odds_40 : decode cX9_odds 40 = .ok (.invokevirtual 157, 3) := by decide +kernel
theorem dX9_odds_43 : decode cX9_odds 43 = .ok (.aload_n 0, 1) := by decide +kernel
theorem dX9_odds_44 : decode cX9_odds 44 = .ok (.getfield 86, 3) := by decide +kernel
theorem dX9_odds_47 : decode cX9_odds 47 = .ok (.iload_n 1, 1) := by decide +kernel
theorem dX9_odds_48 : decode cX9_odds 48 = .ok (.if_icmp .lt 6, 3) := by decide +kernel
theorem dX9_odds_51 : decode cX9_odds 51 = .ok (.iinc 3 1, 3) := by decide +kernel
theorem dX9_odds_54 : decode cX9_odds 54 = .ok (.iinc 4 4, 3) := by decide +kernel
theorem dX9_odds_57 : decode cX9_odds 57 = .ok (.goto (-28), 3) := by decide +kernel
theorem dX9_odds_60 : decode cX9_odds 60 = .ok (.iload_n 3, 1) := by decide +kernel
theorem dX9_odds_61 : decode cX9_odds 61 = .ok (.i2l, 1) := by decide +kernel
theorem dX9_odds_62 : decode cX9_odds 62 = .ok (.ldc2_w 183, 3) := by decide +kernel
theorem dX9_odds_65 : decode cX9_odds 65 = .ok (.iload_n 2, 1) := by decide +kernel
theorem dX9_odds_66 : decode cX9_odds 66 = .ok (.invokestatic 104, 3) := by decide +kernel
theorem dX9_odds_69 : decode cX9_odds 69 = .ok (.lreturn, 1) := by decide +kernel
theorem dX9_mean_0 : decode cX9_mean 0 = .ok (.iload_n 1, 1) := by decide +kernel
theorem dX9_mean_1 : decode cX9_mean 1 = .ok (.iconst 0, 1) := by decide +kernel
theorem dX9_mean_2 : decode cX9_mean 2 = .ok (.iconst 1, 1) := by decide +kernel
theorem dX9_mean_3 : decode cX9_mean 3 = .ok (.invokestatic 55, 3) := by decide +kernel
theorem dX9_mean_6 : decode cX9_mean 6 = .ok (.ifCond .ne 7, 3) := by decide +kernel
theorem dX9_mean_9 : decode cX9_mean 9 = .ok (.ldc2_w 100, 3) := by decide +kernel
theorem dX9_mean_12 : decode cX9_mean 12 = .ok (.lreturn, 1) := by decide +kernel
theorem dX9_mean_13 : decode cX9_mean 13 = .ok (.aload_n 0, 1) := by decide +kernel
theorem dX9_mean_14 : decode cX9_mean 14 = .ok (.invokevirtual 161, 3) := by decide +kernel
theorem dX9_mean_17 : decode cX9_mean 17 = .ok (.aload_n 0, 1) := by decide +kernel
theorem dX9_mean_18 : decode cX9_mean 18 = .ok (.invokevirtual 163, 3) := by decide +kernel
theorem dX9_mean_21 : decode cX9_mean 21 = .ok (.ifCond .ne 9, 3) := by decide +kernel
theorem dX9_mean_24 : decode cX9_mean 24 = .ok (.ldc2_w 100, 3) := by decide +kernel
theorem dX9_mean_27 : decode cX9_mean 27 = .ok (.goto 31, 3) := by decide +kernel
theorem dX9_mean_30 : decode cX9_mean 30 = .ok (.aload_n 0, 1) := by decide +kernel
theorem dX9_mean_31 : decode cX9_mean 31 = .ok (.getfield 31, 3) := by decide +kernel
theorem dX9_mean_34 : decode cX9_mean 34 = .ok (.aload_n 0, 1) := by decide +kernel
theorem dX9_mean_35 : decode cX9_mean 35 = .ok (.getfield 86, 3) := by decide +kernel
theorem dX9_mean_38 : decode cX9_mean 38 = .ok (.iconst 1, 1) := by decide +kernel
theorem dX9_mean_39 : decode cX9_mean 39 = .ok (.isub, 1) := by decide +kernel
theorem dX9_mean_40 : decode cX9_mean 40 = .ok (.iaload, 1) := by decide +kernel
theorem dX9_mean_41 : decode cX9_mean 41 = .ok (.aload_n 0, 1) := by decide +kernel
theorem dX9_mean_42 : decode cX9_mean 42 = .ok (.getfield 31, 3) := by decide +kernel
theorem dX9_mean_45 : decode cX9_mean 45 = .ok (.iconst 0, 1) := by decide +kernel
theorem dX9_mean_46 : decode cX9_mean 46 = .ok (.iaload, 1) := by decide +kernel
theorem dX9_mean_47 : decode cX9_mean 47 = .ok (.isub, 1) := by decide +kernel
theorem dX9_mean_48 : decode cX9_mean 48 = .ok (.i2l, 1) := by decide +kernel
theorem dX9_mean_49 : decode cX9_mean 49 = .ok (.aload_n 0, 1) := by decide +kernel
theorem dX9_mean_50 : decode cX9_mean 50 = .ok (.invokevirtual 163, 3) := by decide +kernel
theorem dX9_mean_53 : decode cX9_mean 53 = .ok (.i2l, 1) := by decide +kernel
theorem dX9_mean_54 : decode cX9_mean 54 = .ok (.iload_n 1, 1) := by decide +kernel
theorem dX9_mean_55 : decode cX9_mean 55 = .ok (.invokestatic 104, 3) := by decide +kernel
theorem dX9_mean_58 : decode cX9_mean 58 = .ok (.lreturn, 1) := by decide +kernel
theorem dX9_book_0 : decode cX9_book 0 = .ok (.iload_n 1, 1) := by decide +kernel
theorem dX9_book_1 : decode cX9_book 1 = .ok (.iconst (-1), 1) := by decide +kernel
theorem dX9_book_2 : decode cX9_book 2 = .ok (.if_icmp .ne 13, 3) := by decide +kernel
theorem dX9_book_5 : decode cX9_book 5 = .ok (.aload_n 0, 1) := by decide +kernel
theorem dX9_book_6 : decode cX9_book 6 = .ok (.getfield 9, 3) := by decide +kernel
theorem dX9_book_9 : decode cX9_book 9 = .ok (.bipush 14, 2) := by decide +kernel
theorem dX9_book_11 : decode cX9_book 11 = .ok (.iconst 0, 1) := by decide +kernel
theorem dX9_book_12 : decode cX9_book 12 = .ok (.iastore, 1) := by decide +kernel
theorem dX9_book_13 : decode cX9_book 13 = .ok (.iconst 0, 1) := by decide +kernel
theorem dX9_book_14 : decode cX9_book 14 = .ok (.ireturn, 1) := by decide +kernel
theorem dX9_book_15 : decode cX9_book 15 = .ok (.iload_n 1, 1) := by decide +kernel
theorem dX9_book_16 : decode cX9_book 16 = .ok (.iconst 0, 1) := by decide +kernel
theorem dX9_book_17 : decode cX9_book 17 = .ok (.bipush 99, 2) := by decide +kernel
theorem dX9_book_19 : decode cX9_book 19 = .ok (.invokestatic 55, 3) := by decide +kernel
theorem dX9_book_22 : decode cX9_book 22 = .ok (.ifCond .eq 14, 3) := by decide +kernel
theorem dX9_book_25 : decode cX9_book 25 = .ok (.iload_n 2, 1) := by decide +kernel
theorem dX9_book_26 : decode cX9_book 26 = .ok (.iconst 0, 1) := by decide +kernel
theorem dX9_book_27 : decode cX9_book 27 = .ok (.sipush 400, 3) := by decide +kernel
theorem dX9_book_30 : decode cX9_book 30 = .ok (.invokestatic 55, 3) := by decide +kernel
theorem dX9_book_33 : decode cX9_book 33 = .ok (.ifCond .ne 6, 3) := by decide +kernel
theorem dX9_book_36 : decode cX9_book 36 = .ok (.bipush (-2), 2) := by decide +kernel
theorem dX9_book_38 : decode cX9_book 38 = .ok (.ireturn, 1) := by decide +kernel
theorem dX9_book_39 : decode cX9_book 39 = .ok (.aload_n 0, 1) := by decide +kernel
theorem dX9_book_40 : decode cX9_book 40 = .ok (.getfield 9, 3) := by decide +kernel
theorem dX9_book_43 : decode cX9_book 43 = .ok (.bipush 14, 2) := by decide +kernel
theorem dX9_book_45 : decode cX9_book 45 = .ok (.iaload, 1) := by decide +kernel
theorem dX9_book_46 : decode cX9_book 46 = .ok (.bipush 8, 2) := by decide +kernel
theorem dX9_book_48 : decode cX9_book 48 = .ok (.if_icmp .ne 6, 3) := by decide +kernel
theorem dX9_book_51 : decode cX9_book 51 = .ok (.bipush (-4), 2) := by decide +kernel
theorem dX9_book_53 : decode cX9_book 53 = .ok (.ireturn, 1) := by decide +kernel
theorem dX9_book_54 : decode cX9_book 54 = .ok (.aload_n 0, 1) := by decide +kernel
theorem dX9_book_55 : decode cX9_book 55 = .ok (.getfield 9, 3) := by decide +kernel
theorem dX9_book_58 : decode cX9_book 58 = .ok (.bipush 53, 2) := by decide +kernel
theorem dX9_book_60 : decode cX9_book 60 = .ok (.iconst 2, 1) := by decide +kernel
theorem dX9_book_61 : decode cX9_book 61 = .ok (.aload_n 0, 1) := by decide +kernel
theorem dX9_book_62 : decode cX9_book 62 = .ok (.getfield 9, 3) := by decide +kernel
theorem dX9_book_65 : decode cX9_book 65 = .ok (.bipush 14, 2) := by decide +kernel
theorem dX9_book_67 : decode cX9_book 67 = .ok (.iaload, 1) := by decide +kernel
theorem dX9_book_68 : decode cX9_book 68 = .ok (.imul, 1) := by decide +kernel
theorem dX9_book_69 : decode cX9_book 69 = .ok (.iadd, 1) := by decide +kernel
theorem dX9_book_70 : decode cX9_book 70 = .ok (.iload_n 1, 1) := by decide +kernel
theorem dX9_book_71 : decode cX9_book 71 = .ok (.iastore, 1) := by decide +kernel
theorem dX9_book_72 : decode cX9_book 72 = .ok (.aload_n 0, 1) := by decide +kernel
theorem dX9_book_73 : decode cX9_book 73 = .ok (.getfield 9, 3) := by decide +kernel
theorem dX9_book_76 : decode cX9_book 76 = .ok (.bipush 53, 2) := by decide +kernel
theorem dX9_book_78 : decode cX9_book 78 = .ok (.iconst 2, 1) := by decide +kernel
theorem dX9_book_79 : decode cX9_book 79 = .ok (.aload_n 0, 1) := by decide +kernel
theorem dX9_book_80 : decode cX9_book 80 = .ok (.getfield 9, 3) := by decide +kernel
theorem dX9_book_83 : decode cX9_book 83 = .ok (.bipush 14, 2) := by decide +kernel
theorem dX9_book_85 : decode cX9_book 85 = .ok (.iaload, 1) := by decide +kernel
theorem dX9_book_86 : decode cX9_book 86 = .ok (.imul, 1) := by decide +kernel
theorem dX9_book_87 : decode cX9_book 87 = .ok (.iadd, 1) := by decide +kernel
theorem dX9_book_88 : decode cX9_book 88 = .ok (.iconst 1, 1) := by decide +kernel
theorem dX9_book_89 : decode cX9_book 89 = .ok (.iadd, 1) := by decide +kernel
theorem dX9_book_90 : decode cX9_book 90 = .ok (.iload_n 2, 1) := by decide +kernel
theorem dX9_book_91 : decode cX9_book 91 = .ok (.iastore, 1) := by decide +kernel
theorem dX9_book_92 : decode cX9_book 92 = .ok (.aload_n 0, 1) := by decide +kernel
theorem dX9_book_93 : decode cX9_book 93 = .ok (.getfield 9, 3) := by decide +kernel
theorem dX9_book_96 : decode cX9_book 96 = .ok (.bipush 14, 2) := by decide +kernel
theorem dX9_book_98 : decode cX9_book 98 = .ok (.dup2, 1) := by decide +kernel
theorem dX9_book_99 : decode cX9_book 99 = .ok (.iaload, 1) := by decide +kernel
theorem dX9_book_100 : decode cX9_book 100 = .ok (.iconst 1, 1) := by decide +kernel
theorem dX9_book_101 : decode cX9_book 101 = .ok (.iadd, 1) := by decide +kernel
theorem dX9_book_102 : decode cX9_book 102 = .ok (.dup_x2, 1) := by decide +kernel
theorem dX9_book_103 : decode cX9_book 103 = .ok (.iastore, 1) := by decide +kernel
theorem dX9_book_104 : decode cX9_book 104 = .ok (.ireturn, 1) := by decide +kernel
theorem dX9_looked_0 : decode cX9_looked 0 = .ok (.aload_n 0, 1) := by decide +kernel
theorem dX9_looked_1 : decode cX9_looked 1 = .ok (.invokevirtual 161, 3) := by decide +kernel
theorem dX9_looked_4 : decode cX9_looked 4 = .ok (.iconst 0, 1) := by decide +kernel
theorem dX9_looked_5 : decode cX9_looked 5 = .ok (.istore_n 1, 1) := by decide +kernel
theorem dX9_looked_6 : decode cX9_looked 6 = .ok (.iload_n 1, 1) := by decide +kernel
theorem dX9_looked_7 : decode cX9_looked 7 = .ok (.aload_n 0, 1) := by decide +kernel
theorem dX9_looked_8 : decode cX9_looked 8 = .ok (.getfield 9, 3) := by decide +kernel
theorem dX9_looked_11 : decode cX9_looked 11 = .ok (.bipush 14, 2) := by decide +kernel
theorem dX9_looked_13 : decode cX9_looked 13 = .ok (.iaload, 1) := by decide +kernel
theorem dX9_looked_14 : decode cX9_looked 14 = .ok (.if_icmp .ge 53, 3) := by decide +kernel
theorem dX9_looked_17 : decode cX9_looked 17 = .ok (.aload_n 0, 1) := by decide +kernel
theorem dX9_looked_18 : decode cX9_looked 18 = .ok (.getfield 9, 3) := by decide +kernel
theorem dX9_looked_21 : decode cX9_looked 21 = .ok (.bipush 53, 2) := by decide +kernel
theorem dX9_looked_23 : decode cX9_looked 23 = .ok (.iconst 2, 1) := by decide +kernel
theorem dX9_looked_24 : decode cX9_looked 24 = .ok (.iload_n 1, 1) := by decide +kernel
theorem dX9_looked_25 : decode cX9_looked 25 = .ok (.imul, 1) := by decide +kernel
theorem dX9_looked_26 : decode cX9_looked 26 = .ok (.iadd, 1) := by decide +kernel
theorem dX9_looked_27 : decode cX9_looked 27 = .ok (.iaload, 1) := by decide +kernel
theorem dX9_looked_28 : decode cX9_looked 28 = .ok (.istore_n 2, 1) := by decide +kernel
theorem dX9_looked_29 : decode cX9_looked 29 = .ok (.iload_n 2, 1) := by decide +kernel
theorem dX9_looked_30 : decode cX9_looked 30 = .ok (.aload_n 0, 1) := by decide +kernel
theorem dX9_looked_31 : decode cX9_looked 31 = .ok (.getfield 86, 3) := by decide +kernel
theorem dX9_looked_34 : decode cX9_looked 34 = .ok (.if_icmp .ge 25, 3) := by decide +kernel
theorem dX9_looked_37 : decode cX9_looked 37 = .ok (.aload_n 0, 1) := by decide +kernel
theorem dX9_looked_38 : decode cX9_looked 38 = .ok (.getfield 31, 3) := by decide +kernel
theorem dX9_looked_41 : decode cX9_looked 41 = .ok (.iload_n 2, 1) := by decide +kernel
theorem dX9_looked_42 : decode cX9_looked 42 = .ok (.iaload, 1) := by decide +kernel
theorem dX9_looked_43 : decode cX9_looked 43 = .ok (.aload_n 0, 1) := by decide +kernel
theorem dX9_looked_44 : decode cX9_looked 44 = .ok (.getfield 9, 3) := by decide +kernel
theorem dX9_looked_47 : decode cX9_looked 47 = .ok (.bipush 53, 2) := by decide +kernel
theorem dX9_looked_49 : decode cX9_looked 49 = .ok (.iconst 2, 1) := by decide +kernel
theorem dX9_looked_50 : decode cX9_looked 50 = .ok (.iload_n 1, 1) := by decide +kernel
theorem dX9_looked_51 : decode cX9_looked 51 = .ok (.imul, 1) := by decide +kernel
theorem dX9_looked_52 : decode cX9_looked 52 = .ok (.iadd, 1) := by decide +kernel
theorem dX9_looked_53 : decode cX9_looked 53 = .ok (.iconst 1, 1) := by decide +kernel
theorem dX9_looked_54 : decode cX9_looked 54 = .ok (.iadd, 1) := by decide +kernel
theorem dX9_looked_55 : decode cX9_looked 55 = .ok (.iaload, 1) := by decide +kernel
theorem dX9_looked_56 : decode cX9_looked 56 = .ok (.if_icmp .eq 5, 3) := by decide +kernel
theorem dX9_looked_59 : decode cX9_looked 59 = .ok (.iload_n 1, 1) := by decide +kernel
theorem dX9_looked_60 : decode cX9_looked 60 = .ok (.ireturn, 1) := by decide +kernel
theorem dX9_looked_61 : decode cX9_looked 61 = .ok (.iinc 1 1, 3) := by decide +kernel
theorem dX9_looked_64 : decode cX9_looked 64 = .ok (.goto (-58), 3) := by decide +kernel
theorem dX9_looked_67 : decode cX9_looked 67 = .ok (.bipush (-5), 2) := by decide +kernel
theorem dX9_looked_69 : decode cX9_looked 69 = .ok (.ireturn, 1) := by decide +kernel
theorem dX9_isTape_0 : decode cX9_isTape 0 = .ok (.iload_n 0, 1) := by decide +kernel
theorem dX9_isTape_1 : decode cX9_isTape 1 = .ok (.iconst 0, 1) := by decide +kernel
theorem dX9_isTape_2 : decode cX9_isTape 2 = .ok (.iconst 5, 1) := by decide +kernel
theorem dX9_isTape_3 : decode cX9_isTape 3 = .ok (.invokestatic 55, 3) := by decide +kernel
theorem dX9_isTape_6 : decode cX9_isTape 6 = .ok (.ireturn, 1) := by decide +kernel
theorem dX9_judge_0 : decode cX9_judge 0 = .ok (.iload_n 1, 1) := by decide +kernel
theorem dX9_judge_1 : decode cX9_judge 1 = .ok (.invokestatic 185, 3) := by decide +kernel
theorem dX9_judge_4 : decode cX9_judge 4 = .ok (.ifCond .ne 5, 3) := by decide +kernel
theorem dX9_judge_7 : decode cX9_judge 7 = .ok (.iconst (-1), 1) := by decide +kernel
theorem dX9_judge_8 : decode cX9_judge 8 = .ok (.ireturn, 1) := by decide +kernel
theorem dX9_judge_9 : decode cX9_judge 9 = .ok (.aload_n 0, 1) := by decide +kernel
theorem dX9_judge_10 : decode cX9_judge 10 = .ok (.getfield 43, 3) := by decide +kernel
theorem dX9_judge_13 : decode cX9_judge 13 = .ok (.iload_n 1, 1) := by decide +kernel
theorem dX9_judge_14 : decode cX9_judge 14 = .ok (.iaload, 1) := by decide +kernel
theorem dX9_judge_15 : decode cX9_judge 15 = .ok (.ifCond .eq 16, 3) := by decide +kernel
theorem dX9_judge_18 : decode cX9_judge 18 = .ok (.aload_n 0, 1) := by decide +kernel
theorem dX9_judge_19 : decode cX9_judge 19 = .ok (.getfield 43, 3) := by decide +kernel
theorem dX9_judge_22 : decode cX9_judge 22 = .ok (.iload_n 1, 1) := by decide +kernel
theorem dX9_judge_23 : decode cX9_judge 23 = .ok (.iaload, 1) := by decide +kernel
theorem dX9_judge_24 : decode cX9_judge 24 = .ok (.iconst 2, 1) := by decide +kernel
theorem dX9_judge_25 : decode cX9_judge 25 = .ok (.if_icmp .eq 6, 3) := by decide +kernel
theorem dX9_judge_28 : decode cX9_judge 28 = .ok (.bipush (-12), 2) := by decide +kernel
theorem dX9_judge_30 : decode cX9_judge 30 = .ok (.ireturn, 1) := by decide +kernel
theorem dX9_judge_31 : decode cX9_judge 31 = .ok (.aload_n 0, 1) := by decide +kernel
theorem dX9_judge_32 : decode cX9_judge 32 = .ok (.invokevirtual 161, 3) := by decide +kernel
theorem dX9_judge_35 : decode cX9_judge 35 = .ok (.iconst 0, 1) := by decide +kernel
theorem dX9_judge_36 : decode cX9_judge 36 = .ok (.istore_n 3, 1) := by decide +kernel
theorem dX9_judge_37 : decode cX9_judge 37 = .ok (.iload_n 3, 1) := by decide +kernel
theorem dX9_judge_38 : decode cX9_judge 38 = .ok (.aload_n 0, 1) := by decide +kernel
theorem dX9_judge_39 : decode cX9_judge 39 = .ok (.getfield 86, 3) := by decide +kernel
theorem dX9_judge_42 : decode cX9_judge 42 = .ok (.if_icmp .ge 60, 3) := by decide +kernel
theorem dX9_judge_45 : decode cX9_judge 45 = .ok (.iload_n 2, 1) := by decide +kernel
theorem dX9_judge_46 : decode cX9_judge 46 = .ok (.ifCond .lt 19, 3) := by decide +kernel
theorem dX9_judge_49 : decode cX9_judge 49 = .ok (.iload_n 2, 1) := by decide +kernel
theorem dX9_judge_50 : decode cX9_judge 50 = .ok (.i2l, 1) := by decide +kernel
theorem dX9_judge_51 : decode cX9_judge 51 = .ok (.iload_n 3, 1) := by decide +kernel
theorem dX9_judge_52 : decode cX9_judge 52 = .ok (.i2l, 1) := by decide +kernel
theorem dX9_judge_53 : decode cX9_judge 53 = .ok (.ladd, 1) := by decide +kernel
theorem dX9_judge_54 : decode cX9_judge 54 = .ok (.aload_n 0, 1) := by decide +kernel
theorem dX9_judge_55 : decode cX9_judge 55 = .ok (.getfield 46, 3) := by decide +kernel
theorem dX9_judge_58 : decode cX9_judge 58 = .ok (.iload_n 1, 1) := by decide +kernel
theorem dX9_judge_59 : decode cX9_judge 59 = .ok (.iaload, 1) := by decide +kernel
theorem dX9_judge_60 : decode cX9_judge 60 = .ok (.i2l, 1) := by decide +kernel
theorem dX9_judge_61 : decode cX9_judge 61 = .ok (.lcmp, 1) := by decide +kernel
theorem dX9_judge_62 : decode cX9_judge 62 = .ok (.ifCond .lt 8, 3) := by decide +kernel
theorem dX9_judge_65 : decode cX9_judge 65 = .ok (.bipush 100, 2) := by decide +kernel
theorem dX9_judge_67 : decode cX9_judge 67 = .ok (.iload_n 3, 1) := by decide +kernel
theorem dX9_judge_68 : decode cX9_judge 68 = .ok (.iadd, 1) := by decide +kernel
theorem dX9_judge_69 : decode cX9_judge 69 = .ok (.ireturn, 1) := by decide +kernel
theorem dX9_judge_70 : decode cX9_judge 70 = .ok (.aload_n 0, 1) := by decide +kernel
theorem dX9_judge_71 : decode cX9_judge 71 = .ok (.getfield 49, 3) := by decide +kernel
theorem dX9_judge_74 : decode cX9_judge 74 = .ok (.bipush 60, 2) := by decide +kernel
theorem dX9_judge_76 : decode cX9_judge 76 = .ok (.iload_n 1, 1) := by decide +kernel
theorem dX9_judge_77 : decode cX9_judge 77 = .ok (.imul, 1) := by decide +kernel
theorem dX9_judge_78 : decode cX9_judge 78 = .ok (.iload_n 2, 1) := by decide +kernel
theorem dX9_judge_79 : decode cX9_judge 79 = .ok (.iadd, 1) := by decide +kernel
theorem dX9_judge_80 : decode cX9_judge 80 = .ok (.iload_n 3, 1) := by decide +kernel
theorem dX9_judge_81 : decode cX9_judge 81 = .ok (.iadd, 1) := by decide +kernel
theorem dX9_judge_82 : decode cX9_judge 82 = .ok (.laload, 1) := by decide +kernel
theorem dX9_judge_83 : decode cX9_judge 83 = .ok (.aload_n 0, 1) := by decide +kernel
theorem dX9_judge_84 : decode cX9_judge 84 = .ok (.getfield 31, 3) := by decide +kernel
theorem dX9_judge_87 : decode cX9_judge 87 = .ok (.iload_n 3, 1) := by decide +kernel
theorem dX9_judge_88 : decode cX9_judge 88 = .ok (.iaload, 1) := by decide +kernel
theorem dX9_judge_89 : decode cX9_judge 89 = .ok (.i2l, 1) := by decide +kernel
theorem dX9_judge_90 : decode cX9_judge 90 = .ok (.lcmp, 1) := by decide +kernel
theorem dX9_judge_91 : decode cX9_judge 91 = .ok (.ifCond .eq 5, 3) := by decide +kernel
theorem dX9_judge_94 : decode cX9_judge 94 = .ok (.iload_n 3, 1) := by decide +kernel
theorem dX9_judge_95 : decode cX9_judge 95 = .ok (.ireturn, 1) := by decide +kernel
theorem dX9_judge_96 : decode cX9_judge 96 = .ok (.iinc 3 1, 3) := by decide +kernel
theorem dX9_judge_99 : decode cX9_judge 99 = .ok (.goto (-62), 3) := by decide +kernel
theorem dX9_judge_102 : decode cX9_judge 102 = .ok (.bipush (-5), 2) := by decide +kernel
theorem dX9_judge_104 : decode cX9_judge 104 = .ok (.ireturn, 1) := by decide +kernel
theorem dX9_image_0 : decode cX9_image 0 = .ok (.aload_n 0, 1) := by decide +kernel
theorem dX9_image_1 : decode cX9_image 1 = .ok (.iconst 1, 1) := by decide +kernel
theorem dX9_image_2 : decode cX9_image 2 = .ok (.putfield 188, 3) := by decide +kernel
theorem dX9_image_5 : decode cX9_image 5 = .ok (.aload_n 0, 1) := by decide +kernel
theorem dX9_image_6 : decode cX9_image 6 = .ok (.getfield 9, 3) := by decide +kernel
theorem dX9_image_9 : decode cX9_image 9 = .ok (.aload_n 0, 1) := by decide +kernel
theorem dX9_image_10 : decode cX9_image 10 = .ok (.getfield 15, 3) := by decide +kernel
theorem dX9_image_13 : decode cX9_image 13 = .ok (.invokestatic 143, 3) := by decide +kernel
theorem dX9_image_16 : decode cX9_image 16 = .ok (.aload_n 0, 1) := by decide +kernel
theorem dX9_image_17 : decode cX9_image 17 = .ok (.getfield 21, 3) := by decide +kernel
theorem dX9_image_20 : decode cX9_image 20 = .ok (.aload_n 0, 1) := by decide +kernel
theorem dX9_image_21 : decode cX9_image 21 = .ok (.getfield 25, 3) := by decide +kernel
theorem dX9_image_24 : decode cX9_image 24 = .ok (.invokestatic 147, 3) := by decide +kernel
theorem dX9_image_27 : decode cX9_image 27 = .ok (.aload_n 0, 1) := by decide +kernel
theorem dX9_image_28 : decode cX9_image 28 = .ok (.getfield 9, 3) := by decide +kernel
theorem dX9_image_31 : decode cX9_image 31 = .ok (.bipush 9, 2) := by decide +kernel
theorem dX9_image_33 : decode cX9_image 33 = .ok (.iaload, 1) := by decide +kernel
theorem dX9_image_34 : decode cX9_image 34 = .ok (.ireturn, 1) := by decide +kernel
theorem dX9_undo_0 : decode cX9_undo 0 = .ok (.aload_n 0, 1) := by decide +kernel
theorem dX9_undo_1 : decode cX9_undo 1 = .ok (.getfield 188, 3) := by decide +kernel
theorem dX9_undo_4 : decode cX9_undo 4 = .ok (.ifCond .ne 6, 3) := by decide +kernel
theorem dX9_undo_7 : decode cX9_undo 7 = .ok (.bipush (-3), 2) := by decide +kernel
theorem dX9_undo_9 : decode cX9_undo 9 = .ok (.ireturn, 1) := by decide +kernel
theorem dX9_undo_10 : decode cX9_undo 10 = .ok (.aload_n 0, 1) := by decide +kernel
theorem dX9_undo_11 : decode cX9_undo 11 = .ok (.getfield 15, 3) := by decide +kernel
theorem dX9_undo_14 : decode cX9_undo 14 = .ok (.aload_n 0, 1) := by decide +kernel
theorem dX9_undo_15 : decode cX9_undo 15 = .ok (.getfield 9, 3) := by decide +kernel
theorem dX9_undo_18 : decode cX9_undo 18 = .ok (.invokestatic 143, 3) := by decide +kernel
theorem dX9_undo_21 : decode cX9_undo 21 = .ok (.aload_n 0, 1) := by decide +kernel
theorem dX9_undo_22 : decode cX9_undo 22 = .ok (.getfield 25, 3) := by decide +kernel
theorem dX9_undo_25 : decode cX9_undo 25 = .ok (.aload_n 0, 1) := by decide +kernel
theorem dX9_undo_26 : decode cX9_undo 26 = .ok (.getfield 21, 3) := by decide +kernel
theorem dX9_undo_29 : decode cX9_undo 29 = .ok (.invokestatic 147, 3) := by decide +kernel
theorem dX9_undo_32 : decode cX9_undo 32 = .ok (.aload_n 0, 1) := by decide +kernel
theorem dX9_undo_33 : decode cX9_undo 33 = .ok (.getfield 9, 3) := by decide +kernel
theorem dX9_undo_36 : decode cX9_undo 36 = .ok (.bipush 9, 2) := by decide +kernel
theorem dX9_undo_38 : decode cX9_undo 38 = .ok (.iaload, 1) := by decide +kernel
theorem dX9_undo_39 : decode cX9_undo 39 = .ok (.ireturn, 1) := by decide +kernel
theorem dX9_count_0 : decode cX9_count 0 = .ok (.iload_n 1, 1) := by decide +kernel
theorem dX9_count_1 : decode cX9_count 1 = .ok (.ifCond .ne 13, 3) := by decide +kernel
theorem dX9_count_4 : decode cX9_count 4 = .ok (.aload_n 0, 1) := by decide +kernel
theorem dX9_count_5 : decode cX9_count 5 = .ok (.getfield 9, 3) := by decide +kernel
theorem dX9_count_8 : decode cX9_count 8 = .ok (.bipush 13, 2) := by decide +kernel
theorem dX9_count_10 : decode cX9_count 10 = .ok (.iaload, 1) := by decide +kernel
theorem dX9_count_11 : decode cX9_count 11 = .ok (.goto 32, 3) := by decide +kernel
theorem dX9_count_14 : decode cX9_count 14 = .ok (.iload_n 1, 1) := by decide +kernel
theorem dX9_count_15 : decode cX9_count 15 = .ok (.iconst 1, 1) := by decide +kernel
theorem dX9_count_16 : decode cX9_count 16 = .ok (.if_icmp .ne 13, 3) := by decide +kernel
theorem dX9_count_19 : decode cX9_count 19 = .ok (.aload_n 0, 1) := by decide +kernel
theorem dX9_count_20 : decode cX9_count 20 = .ok (.getfield 9, 3) := by decide +kernel
theorem dX9_count_23 : decode cX9_count 23 = .ok (.bipush 14, 2) := by decide +kernel
theorem dX9_count_25 : decode cX9_count 25 = .ok (.iaload, 1) := by decide +kernel
theorem dX9_count_26 : decode cX9_count 26 = .ok (.goto 17, 3) := by decide +kernel
theorem dX9_count_29 : decode cX9_count 29 = .ok (.iload_n 1, 1) := by decide +kernel
theorem dX9_count_30 : decode cX9_count 30 = .ok (.iconst 2, 1) := by decide +kernel
theorem dX9_count_31 : decode cX9_count 31 = .ok (.if_icmp .ne 10, 3) := by decide +kernel
theorem dX9_count_34 : decode cX9_count 34 = .ok (.aload_n 0, 1) := by decide +kernel
theorem dX9_count_35 : decode cX9_count 35 = .ok (.getfield 108, 3) := by decide +kernel
theorem dX9_count_38 : decode cX9_count 38 = .ok (.goto 5, 3) := by decide +kernel
theorem dX9_count_41 : decode cX9_count 41 = .ok (.bipush (-2), 2) := by decide +kernel
theorem dX9_count_43 : decode cX9_count 43 = .ok (.ireturn, 1) := by decide +kernel
theorem dX9_tape_0 : decode cX9_tape 0 = .ok (.iload_n 1, 1) := by decide +kernel
theorem dX9_tape_1 : decode cX9_tape 1 = .ok (.invokestatic 185, 3) := by decide +kernel
theorem dX9_tape_4 : decode cX9_tape 4 = .ok (.ifCond .ne 5, 3) := by decide +kernel
theorem dX9_tape_7 : decode cX9_tape 7 = .ok (.iconst (-1), 1) := by decide +kernel
theorem dX9_tape_8 : decode cX9_tape 8 = .ok (.ireturn, 1) := by decide +kernel
theorem dX9_tape_9 : decode cX9_tape 9 = .ok (.iload_n 2, 1) := by decide +kernel
theorem dX9_tape_10 : decode cX9_tape 10 = .ok (.iconst (-1), 1) := by decide +kernel
theorem dX9_tape_11 : decode cX9_tape 11 = .ok (.iconst 4, 1) := by decide +kernel
theorem dX9_tape_12 : decode cX9_tape 12 = .ok (.invokestatic 55, 3) := by decide +kernel
theorem dX9_tape_15 : decode cX9_tape 15 = .ok (.ifCond .eq 13, 3) := by decide +kernel
theorem dX9_tape_18 : decode cX9_tape 18 = .ok (.iload_n 2, 1) := by decide +kernel
theorem dX9_tape_19 : decode cX9_tape 19 = .ok (.ifCond .lt 12, 3) := by decide +kernel
theorem dX9_tape_22 : decode cX9_tape 22 = .ok (.iload_n 3, 1) := by decide +kernel
theorem dX9_tape_23 : decode cX9_tape 23 = .ok (.bipush 60, 2) := by decide +kernel
theorem dX9_tape_25 : decode cX9_tape 25 = .ok (.if_icmp .le 6, 3) := by decide +kernel
theorem dX9_tape_28 : decode cX9_tape 28 = .ok (.bipush (-2), 2) := by decide +kernel
theorem dX9_tape_30 : decode cX9_tape 30 = .ok (.ireturn, 1) := by decide +kernel
theorem dX9_tape_31 : decode cX9_tape 31 = .ok (.iload_n 2, 1) := by decide +kernel
theorem dX9_tape_32 : decode cX9_tape 32 = .ok (.ifCond .lt 10, 3) := by decide +kernel
theorem dX9_tape_35 : decode cX9_tape 35 = .ok (.iload_n 3, 1) := by decide +kernel
theorem dX9_tape_36 : decode cX9_tape 36 = .ok (.ifCond .ge 6, 3) := by decide +kernel
theorem dX9_tape_39 : decode cX9_tape 39 = .ok (.bipush (-14), 2) := by decide +kernel
theorem dX9_tape_41 : decode cX9_tape 41 = .ok (.ireturn, 1) := by decide +kernel
theorem dX9_tape_42 : decode cX9_tape 42 = .ok (.aload_n 0, 1) := by decide +kernel
theorem dX9_tape_43 : decode cX9_tape 43 = .ok (.getfield 43, 3) := by decide +kernel
theorem dX9_tape_46 : decode cX9_tape 46 = .ok (.iload_n 1, 1) := by decide +kernel
theorem dX9_tape_47 : decode cX9_tape 47 = .ok (.iload_n 2, 1) := by decide +kernel
theorem dX9_tape_48 : decode cX9_tape 48 = .ok (.iconst 1, 1) := by decide +kernel
theorem dX9_tape_49 : decode cX9_tape 49 = .ok (.iadd, 1) := by decide +kernel
theorem dX9_tape_50 : decode cX9_tape 50 = .ok (.iastore, 1) := by decide +kernel
theorem dX9_tape_51 : decode cX9_tape 51 = .ok (.aload_n 0, 1) := by decide +kernel
theorem dX9_tape_52 : decode cX9_tape 52 = .ok (.getfield 46, 3) := by decide +kernel
theorem dX9_tape_55 : decode cX9_tape 55 = .ok (.iload_n 1, 1) := by decide +kernel
theorem dX9_tape_56 : decode cX9_tape 56 = .ok (.iload_n 2, 1) := by decide +kernel
theorem dX9_tape_57 : decode cX9_tape 57 = .ok (.ifCond .ge 7, 3) := by decide +kernel
theorem dX9_tape_60 : decode cX9_tape 60 = .ok (.iconst 0, 1) := by decide +kernel
theorem dX9_tape_61 : decode cX9_tape 61 = .ok (.goto 4, 3) := by decide +kernel
theorem dX9_tape_64 : decode cX9_tape 64 = .ok (.iload_n 3, 1) := by decide +kernel
theorem dX9_tape_65 : decode cX9_tape 65 = .ok (.iastore, 1) := by decide +kernel
theorem dX9_tape_66 : decode cX9_tape 66 = .ok (.iconst 0, 1) := by decide +kernel
theorem dX9_tape_67 : decode cX9_tape 67 = .ok (.istore 4, 2) := by decide +kernel
theorem dX9_tape_69 : decode cX9_tape 69 = .ok (.iload 4, 2) := by decide +kernel
theorem dX9_tape_71 : decode cX9_tape 71 = .ok (.bipush 60, 2) := by decide +kernel
theorem dX9_tape_73 : decode cX9_tape 73 = .ok (.if_icmp .ge 22, 3) := by decide +kernel
theorem dX9_tape_76 : decode cX9_tape 76 = .ok (.aload_n 0, 1) := by decide +kernel
theorem dX9_tape_77 : decode cX9_tape 77 = .ok (.getfield 49, 3) := by decide +kernel
theorem dX9_tape_80 : decode cX9_tape 80 = .ok (.bipush 60, 2) := by decide +kernel
theorem dX9_tape_82 : decode cX9_tape 82 = .ok (.iload_n 1, 1) := by decide +kernel
theorem dX9_tape_83 : decode cX9_tape 83 = .ok (.imul, 1) := by decide +kernel
theorem dX9_tape_84 : decode cX9_tape 84 = .ok (.iload 4, 2) := by decide +kernel
theorem dX9_tape_86 : decode cX9_tape 86 = .ok (.iadd, 1) := by decide +kernel
theorem dX9_tape_87 : decode cX9_tape 87 = .ok (.lconst 0, 1) := by decide +kernel
theorem dX9_tape_88 : decode cX9_tape 88 = .ok (.lastore, 1) := by decide +kernel
theorem dX9_tape_89 : decode cX9_tape 89 = .ok (.iinc 4 1, 3) := by decide +kernel
theorem dX9_tape_92 : decode cX9_tape 92 = .ok (.goto (-23), 3) := by decide +kernel
theorem dX9_tape_95 : decode cX9_tape 95 = .ok (.iconst 1, 1) := by decide +kernel
theorem dX9_tape_96 : decode cX9_tape 96 = .ok (.ireturn, 1) := by decide +kernel
theorem dX9_item_0 : decode cX9_item 0 = .ok (.iload_n 1, 1) := by decide +kernel
theorem dX9_item_1 : decode cX9_item 1 = .ok (.invokestatic 185, 3) := by decide +kernel
theorem dX9_item_4 : decode cX9_item 4 = .ok (.ifCond .ne 5, 3) := by decide +kernel
theorem dX9_item_7 : decode cX9_item 7 = .ok (.iconst (-1), 1) := by decide +kernel
theorem dX9_item_8 : decode cX9_item 8 = .ok (.ireturn, 1) := by decide +kernel
theorem dX9_item_9 : decode cX9_item 9 = .ok (.aload_n 0, 1) := by decide +kernel
theorem dX9_item_10 : decode cX9_item 10 = .ok (.getfield 43, 3) := by decide +kernel
theorem dX9_item_13 : decode cX9_item 13 = .ok (.iload_n 1, 1) := by decide +kernel
theorem dX9_item_14 : decode cX9_item 14 = .ok (.iaload, 1) := by decide +kernel
theorem dX9_item_15 : decode cX9_item 15 = .ok (.ifCond .ne 6, 3) := by decide +kernel
theorem dX9_item_18 : decode cX9_item 18 = .ok (.bipush (-11), 2) := by decide +kernel
theorem dX9_item_20 : decode cX9_item 20 = .ok (.ireturn, 1) := by decide +kernel
theorem dX9_item_21 : decode cX9_item 21 = .ok (.iload_n 2, 1) := by decide +kernel
theorem dX9_item_22 : decode cX9_item 22 = .ok (.iconst 0, 1) := by decide +kernel
theorem dX9_item_23 : decode cX9_item 23 = .ok (.aload_n 0, 1) := by decide +kernel
theorem dX9_item_24 : decode cX9_item 24 = .ok (.getfield 46, 3) := by decide +kernel
theorem dX9_item_27 : decode cX9_item 27 = .ok (.iload_n 1, 1) := by decide +kernel
theorem dX9_item_28 : decode cX9_item 28 = .ok (.iaload, 1) := by decide +kernel
theorem dX9_item_29 : decode cX9_item 29 = .ok (.iconst 1, 1) := by decide +kernel
theorem dX9_item_30 : decode cX9_item 30 = .ok (.isub, 1) := by decide +kernel
theorem dX9_item_31 : decode cX9_item 31 = .ok (.invokestatic 55, 3) := by decide +kernel
theorem dX9_item_34 : decode cX9_item 34 = .ok (.ifCond .ne 6, 3) := by decide +kernel
theorem dX9_item_37 : decode cX9_item 37 = .ok (.bipush (-13), 2) := by decide +kernel
theorem dX9_item_39 : decode cX9_item 39 = .ok (.ireturn, 1) := by decide +kernel
theorem dX9_item_40 : decode cX9_item 40 = .ok (.aload_n 0, 1) := by decide +kernel
theorem dX9_item_41 : decode cX9_item 41 = .ok (.getfield 43, 3) := by decide +kernel
theorem dX9_item_44 : decode cX9_item 44 = .ok (.iload_n 1, 1) := by decide +kernel
theorem dX9_item_45 : decode cX9_item 45 = .ok (.iaload, 1) := by decide +kernel
theorem dX9_item_46 : decode cX9_item 46 = .ok (.istore 5, 2) := by decide +kernel
theorem dX9_item_48 : decode cX9_item 48 = .ok (.aload_n 0, 1) := by decide +kernel
theorem dX9_item_49 : decode cX9_item 49 = .ok (.getfield 49, 3) := by decide +kernel
theorem dX9_item_52 : decode cX9_item 52 = .ok (.bipush 60, 2) := by decide +kernel
theorem dX9_item_54 : decode cX9_item 54 = .ok (.iload_n 1, 1) := by decide +kernel
theorem dX9_item_55 : decode cX9_item 55 = .ok (.imul, 1) := by decide +kernel
theorem dX9_item_56 : decode cX9_item 56 = .ok (.iload_n 2, 1) := by decide +kernel
theorem dX9_item_57 : decode cX9_item 57 = .ok (.iadd, 1) := by decide +kernel
theorem dX9_item_58 : decode cX9_item 58 = .ok (.iload 5, 2) := by decide +kernel
theorem dX9_item_60 : decode cX9_item 60 = .ok (.iconst 1, 1) := by decide +kernel
theorem dX9_item_61 : decode cX9_item 61 = .ok (.if_icmp .ne 10, 3) := by decide +kernel
theorem dX9_item_64 : decode cX9_item 64 = .ok (.lload_n 3, 1) := by decide +kernel
theorem dX9_item_65 : decode cX9_item 65 = .ok (.l2i, 1) := by decide +kernel
theorem dX9_item_66 : decode cX9_item 66 = .ok (.i2b, 1) := by decide +kernel
theorem dX9_item_67 : decode cX9_item 67 = .ok (.i2l, 1) := by decide +kernel
theorem dX9_item_68 : decode cX9_item 68 = .ok (.goto 49, 3) := by decide +kernel
theorem dX9_item_71 : decode cX9_item 71 = .ok (.iload 5, 2) := by decide +kernel
theorem dX9_item_73 : decode cX9_item 73 = .ok (.iconst 2, 1) := by decide +kernel
theorem dX9_item_74 : decode cX9_item 74 = .ok (.if_icmp .ne 10, 3) := by decide +kernel
theorem dX9_item_77 : decode cX9_item 77 = .ok (.lload_n 3, 1) := by decide +kernel
theorem dX9_item_78 : decode cX9_item 78 = .ok (.l2i, 1) := by decide +kernel
theorem dX9_item_79 : decode cX9_item 79 = .ok (.i2s, 1) := by decide +kernel
theorem dX9_item_80 : decode cX9_item 80 = .ok (.i2l, 1) := by decide +kernel
theorem dX9_item_81 : decode cX9_item 81 = .ok (.goto 36, 3) := by decide +kernel
theorem dX9_item_84 : decode cX9_item 84 = .ok (.iload 5, 2) := by decide +kernel
theorem dX9_item_86 : decode cX9_item 86 = .ok (.iconst 3, 1) := by decide +kernel
theorem dX9_item_87 : decode cX9_item 87 = .ok (.if_icmp .ne 9, 3) := by decide +kernel
theorem dX9_item_90 : decode cX9_item 90 = .ok (.lload_n 3, 1) := by decide +kernel
theorem dX9_item_91 : decode cX9_item 91 = .ok (.l2i, 1) := by decide +kernel
theorem dX9_item_92 : decode cX9_item 92 = .ok (.i2l, 1) := by decide +kernel
theorem dX9_item_93 : decode cX9_item 93 = .ok (.goto 24, 3) := by decide +kernel
theorem dX9_item_96 : decode cX9_item 96 = .ok (.iload 5, 2) := by decide +kernel
theorem dX9_item_98 : decode cX9_item 98 = .ok (.iconst 4, 1) := by decide +kernel
theorem dX9_item_99 : decode cX9_item 99 = .ok (.if_icmp .ne 7, 3) := by decide +kernel
theorem dX9_item_102 : decode cX9_item 102 = .ok (.lload_n 3, 1) := by decide +kernel
theorem dX9_item_103 : decode cX9_item 103 = .ok (.goto 14, 3) := by decide +kernel
theorem dX9_item_106 : decode cX9_item 106 = .ok (.lload_n 3, 1) := by decide +kernel
theorem dX9_item_107 : decode cX9_item 107 = .ok (.lconst 0, 1) := by decide +kernel
theorem dX9_item_108 : decode cX9_item 108 = .ok (.lcmp, 1) := by decide +kernel
theorem dX9_item_109 : decode cX9_item 109 = .ok (.ifCond .eq 7, 3) := by decide +kernel
theorem dX9_item_112 : decode cX9_item 112 = .ok (.lconst 1, 1) := by decide +kernel
theorem dX9_item_113 : decode cX9_item 113 = .ok (.goto 4, 3) := by decide +kernel
theorem dX9_item_116 : decode cX9_item 116 = .ok (.lconst 0, 1) := by decide +kernel
theorem dX9_item_117 : decode cX9_item 117 = .ok (.lastore, 1) := by decide +kernel
theorem dX9_item_118 : decode cX9_item 118 = .ok (.iconst 1, 1) := by decide +kernel
theorem dX9_item_119 : decode cX9_item 119 = .ok (.ireturn, 1) := by decide +kernel
theorem dX9_peek_0 : decode cX9_peek 0 = .ok (.iload_n 1, 1) := by decide +kernel
theorem dX9_peek_1 : decode cX9_peek 1 = .ok (.invokestatic 185, 3) := by decide +kernel
theorem dX9_peek_4 : decode cX9_peek 4 = .ok (.ifCond .eq 33, 3) := by decide +kernel
theorem dX9_peek_7 : decode cX9_peek 7 = .ok (.iload_n 2, 1) := by decide +kernel
theorem dX9_peek_8 : decode cX9_peek 8 = .ok (.iconst 0, 1) := by decide +kernel
theorem dX9_peek_9 : decode cX9_peek 9 = .ok (.aload_n 0, 1) := by decide +kernel
theorem dX9_peek_10 : decode cX9_peek 10 = .ok (.getfield 46, 3) := by decide +kernel
theorem dX9_peek_13 : decode cX9_peek 13 = .ok (.iload_n 1, 1) := by decide +kernel
theorem dX9_peek_14 : decode cX9_peek 14 = .ok (.iaload, 1) := by decide +kernel
theorem dX9_peek_15 : decode cX9_peek 15 = .ok (.iconst 1, 1) := by decide +kernel
theorem dX9_peek_16 : decode cX9_peek 16 = .ok (.isub, 1) := by decide +kernel
theorem dX9_peek_17 : decode cX9_peek 17 = .ok (.invokestatic 55, 3) := by decide +kernel
theorem dX9_peek_20 : decode cX9_peek 20 = .ok (.ifCond .eq 17, 3) := by decide +kernel
theorem dX9_peek_23 : decode cX9_peek 23 = .ok (.aload_n 0, 1) := by decide +kernel
theorem dX9_peek_24 : decode cX9_peek 24 = .ok (.getfield 49, 3) := by decide +kernel
theorem dX9_peek_27 : decode cX9_peek 27 = .ok (.bipush 60, 2) := by decide +kernel
theorem dX9_peek_29 : decode cX9_peek 29 = .ok (.iload_n 1, 1) := by decide +kernel
theorem dX9_peek_30 : decode cX9_peek 30 = .ok (.imul, 1) := by decide +kernel
theorem dX9_peek_31 : decode cX9_peek 31 = .ok (.iload_n 2, 1) := by decide +kernel
theorem dX9_peek_32 : decode cX9_peek 32 = .ok (.iadd, 1) := by decide +kernel
theorem dX9_peek_33 : decode cX9_peek 33 = .ok (.laload, 1) := by decide +kernel
theorem dX9_peek_34 : decode cX9_peek 34 = .ok (.goto 6, 3) := by decide +kernel
theorem dX9_peek_37 : decode cX9_peek 37 = .ok (.ldc2_w 100, 3) := by decide +kernel
theorem dX9_peek_40 : decode cX9_peek 40 = .ok (.lreturn, 1) := by decide +kernel
theorem dX9_shift_0 : decode cX9_shift 0 = .ok (.iload_n 1, 1) := by decide +kernel
theorem dX9_shift_1 : decode cX9_shift 1 = .ok (.invokestatic 185, 3) := by decide +kernel
theorem dX9_shift_4 : decode cX9_shift 4 = .ok (.ifCond .eq 10, 3) := by decide +kernel
theorem dX9_shift_7 : decode cX9_shift 7 = .ok (.iload_n 3, 1) := by decide +kernel
theorem dX9_shift_8 : decode cX9_shift 8 = .ok (.invokestatic 185, 3) := by decide +kernel
theorem dX9_shift_11 : decode cX9_shift 11 = .ok (.ifCond .ne 5, 3) := by decide +kernel
theorem dX9_shift_14 : decode cX9_shift 14 = .ok (.iconst (-1), 1) := by decide +kernel
theorem dX9_shift_15 : decode cX9_shift 15 = .ok (.ireturn, 1) := by decide +kernel
theorem dX9_shift_16 : decode cX9_shift 16 = .ok (.aload_n 0, 1) := by decide +kernel
theorem dX9_shift_17 : decode cX9_shift 17 = .ok (.getfield 43, 3) := by decide +kernel
theorem dX9_shift_20 : decode cX9_shift 20 = .ok (.iload_n 1, 1) := by decide +kernel
theorem dX9_shift_21 : decode cX9_shift 21 = .ok (.iaload, 1) := by decide +kernel
theorem dX9_shift_22 : decode cX9_shift 22 = .ok (.ifCond .eq 12, 3) := by decide +kernel
theorem dX9_shift_25 : decode cX9_shift 25 = .ok (.aload_n 0, 1) := by decide +kernel
theorem dX9_shift_26 : decode cX9_shift 26 = .ok (.getfield 43, 3) := by decide +kernel
theorem dX9_shift_29 : decode cX9_shift 29 = .ok (.iload_n 3, 1) := by decide +kernel
theorem dX9_shift_30 : decode cX9_shift 30 = .ok (.iaload, 1) := by decide +kernel
theorem dX9_shift_31 : decode cX9_shift 31 = .ok (.ifCond .ne 6, 3) := by decide +kernel
theorem dX9_shift_34 : decode cX9_shift 34 = .ok (.bipush (-11), 2) := by decide +kernel
theorem dX9_shift_36 : decode cX9_shift 36 = .ok (.ireturn, 1) := by decide +kernel
theorem dX9_shift_37 : decode cX9_shift 37 = .ok (.aload_n 0, 1) := by decide +kernel
theorem dX9_shift_38 : decode cX9_shift 38 = .ok (.getfield 43, 3) := by decide +kernel
theorem dX9_shift_41 : decode cX9_shift 41 = .ok (.iload_n 1, 1) := by decide +kernel
theorem dX9_shift_42 : decode cX9_shift 42 = .ok (.iaload, 1) := by decide +kernel
theorem dX9_shift_43 : decode cX9_shift 43 = .ok (.aload_n 0, 1) := by decide +kernel
theorem dX9_shift_44 : decode cX9_shift 44 = .ok (.getfield 43, 3) := by decide +kernel
theorem dX9_shift_47 : decode cX9_shift 47 = .ok (.iload_n 3, 1) := by decide +kernel
theorem dX9_shift_48 : decode cX9_shift 48 = .ok (.iaload, 1) := by decide +kernel
theorem dX9_shift_49 : decode cX9_shift 49 = .ok (.if_icmp .eq 6, 3) := by decide +kernel
theorem dX9_shift_52 : decode cX9_shift 52 = .ok (.bipush (-12), 2) := by decide +kernel
theorem dX9_shift_54 : decode cX9_shift 54 = .ok (.ireturn, 1) := by decide +kernel
theorem dX9_shift_55 : decode cX9_shift 55 = .ok (.iload 5, 2) := by decide +kernel
theorem dX9_shift_57 : decode cX9_shift 57 = .ok (.ifCond .lt 47, 3) := by decide +kernel
theorem dX9_shift_60 : decode cX9_shift 60 = .ok (.iload_n 2, 1) := by decide +kernel
theorem dX9_shift_61 : decode cX9_shift 61 = .ok (.ifCond .lt 43, 3) := by decide +kernel
theorem dX9_shift_64 : decode cX9_shift 64 = .ok (.iload 4, 2) := by decide +kernel
theorem dX9_shift_66 : decode cX9_shift 66 = .ok (.ifCond .lt 38, 3) := by decide +kernel
theorem dX9_shift_69 : decode cX9_shift 69 = .ok (.iload_n 2, 1) := by decide +kernel
theorem dX9_shift_70 : decode cX9_shift 70 = .ok (.i2l, 1) := by decide +kernel
theorem dX9_shift_71 : decode cX9_shift 71 = .ok (.iload 5, 2) := by decide +kernel
theorem dX9_shift_73 : decode cX9_shift 73 = .ok (.i2l, 1) := by decide +kernel
theorem dX9_shift_74 : decode cX9_shift 74 = .ok (.ladd, 1) := by decide +kernel
theorem dX9_shift_75 : decode cX9_shift 75 = .ok (.aload_n 0, 1) := by decide +kernel
theorem dX9_shift_76 : decode cX9_shift 76 = .ok (.getfield 46, 3) := by decide +kernel
theorem dX9_shift_79 : decode cX9_shift 79 = .ok (.iload_n 1, 1) := by decide +kernel
theorem dX9_shift_80 : decode cX9_shift 80 = .ok (.iaload, 1) := by decide +kernel
theorem dX9_shift_81 : decode cX9_shift 81 = .ok (.i2l, 1) := by decide +kernel
theorem dX9_shift_82 : decode cX9_shift 82 = .ok (.lcmp, 1) := by decide +kernel
theorem dX9_shift_83 : decode cX9_shift 83 = .ok (.ifCond .gt 21, 3) := by decide +kernel
theorem dX9_shift_86 : decode cX9_shift 86 = .ok (.iload 4, 2) := by decide +kernel
theorem dX9_shift_88 : decode cX9_shift 88 = .ok (.i2l, 1) := by decide +kernel
theorem dX9_shift_89 : decode cX9_shift 89 = .ok (.iload 5, 2) := by decide +kernel
theorem dX9_shift_91 : decode cX9_shift 91 = .ok (.i2l, 1) := by decide +kernel
theorem dX9_shift_92 : decode cX9_shift 92 = .ok (.ladd, 1) := by decide +kernel
theorem dX9_shift_93 : decode cX9_shift 93 = .ok (.aload_n 0, 1) := by decide +kernel
theorem dX9_shift_94 : decode cX9_shift 94 = .ok (.getfield 46, 3) := by decide +kernel
theorem dX9_shift_97 : decode cX9_shift 97 = .ok (.iload_n 3, 1) := by decide +kernel
theorem dX9_shift_98 : decode cX9_shift 98 = .ok (.iaload, 1) := by decide +kernel
theorem dX9_shift_99 : decode cX9_shift 99 = .ok (.i2l, 1) := by decide +kernel
theorem dX9_shift_100 : decode cX9_shift 100 = .ok (.lcmp, 1) := by decide +kernel
theorem dX9_shift_101 : decode cX9_shift 101 = .ok (.ifCond .le 6, 3) := by decide +kernel
theorem dX9_shift_104 : decode cX9_shift 104 = .ok (.bipush (-13), 2) := by decide +kernel
theorem dX9_shift_106 : decode cX9_shift 106 = .ok (.ireturn, 1) := by decide +kernel
theorem dX9_shift_107 : decode cX9_shift 107 = .ok (.iconst 0, 1) := by decide +kernel
theorem dX9_shift_108 : decode cX9_shift 108 = .ok (.istore 6, 2) := by decide +kernel
theorem dX9_shift_110 : decode cX9_shift 110 = .ok (.iload 6, 2) := by decide +kernel
theorem dX9_shift_112 : decode cX9_shift 112 = .ok (.iload 5, 2) := by decide +kernel
theorem dX9_shift_114 : decode cX9_shift 114 = .ok (.if_icmp .ge 30, 3) := by decide +kernel
theorem dX9_shift_117 : decode cX9_shift 117 = .ok (.aload_n 0, 1) := by decide +kernel
theorem dX9_shift_118 : decode cX9_shift 118 = .ok (.getfield 52, 3) := by decide +kernel
theorem dX9_shift_121 : decode cX9_shift 121 = .ok (.iload 6, 2) := by decide +kernel
theorem dX9_shift_123 : decode cX9_shift 123 = .ok (.aload_n 0, 1) := by decide +kernel
theorem dX9_shift_124 : decode cX9_shift 124 = .ok (.getfield 49, 3) := by decide +kernel
theorem dX9_shift_127 : decode cX9_shift 127 = .ok (.bipush 60, 2) := by decide +kernel
theorem dX9_shift_129 : decode cX9_shift 129 = .ok (.iload_n 1, 1) := by decide +kernel
theorem dX9_shift_130 : decode cX9_shift 130 = .ok (.imul, 1) := by decide +kernel
theorem dX9_shift_131 : decode cX9_shift 131 = .ok (.iload_n 2, 1) := by decide +kernel
theorem dX9_shift_132 : decode cX9_shift 132 = .ok (.iadd, 1) := by decide +kernel
theorem dX9_shift_133 : decode cX9_shift 133 = .ok (.iload 6, 2) := by decide +kernel
theorem dX9_shift_135 : decode cX9_shift 135 = .ok (.iadd, 1) := by decide +kernel
theorem dX9_shift_136 : decode cX9_shift 136 = .ok (.laload, 1) := by decide +kernel
theorem dX9_shift_137 : decode cX9_shift 137 = .ok (.lastore, 1) := by decide +kernel
theorem dX9_shift_138 : decode cX9_shift 138 = .ok (.iinc 6 1, 3) := by decide +kernel
theorem dX9_shift_141 : decode cX9_shift 141 = .ok (.goto (-31), 3) := by decide +kernel
theorem dX9_shift_144 : decode cX9_shift 144 = .ok (.iconst 0, 1) := by decide +kernel
theorem dX9_shift_145 : decode cX9_shift 145 = .ok (.istore 6, 2) := by decide +kernel
theorem dX9_shift_147 : decode cX9_shift 147 = .ok (.iload 6, 2) := by decide +kernel
theorem dX9_shift_149 : decode cX9_shift 149 = .ok (.iload 5, 2) := by decide +kernel
theorem dX9_shift_151 : decode cX9_shift 151 = .ok (.if_icmp .ge 31, 3) := by decide +kernel
theorem dX9_shift_154 : decode cX9_shift 154 = .ok (.aload_n 0, 1) := by decide +kernel
theorem dX9_shift_155 : decode cX9_shift 155 = .ok (.getfield 49, 3) := by decide +kernel
theorem dX9_shift_158 : decode cX9_shift 158 = .ok (.bipush 60, 2) := by decide +kernel
theorem dX9_shift_160 : decode cX9_shift 160 = .ok (.iload_n 3, 1) := by decide +kernel
theorem dX9_shift_161 : decode cX9_shift 161 = .ok (.imul, 1) := by decide +kernel
theorem dX9_shift_162 : decode cX9_shift 162 = .ok (.iload 4, 2) := by decide +kernel
theorem dX9_shift_164 : decode cX9_shift 164 = .ok (.iadd, 1) := by decide +kernel
theorem dX9_shift_165 : decode cX9_shift 165 = .ok (.iload 6, 2) := by decide +kernel
theorem dX9_shift_167 : decode cX9_shift 167 = .ok (.iadd, 1) := by decide +kernel
theorem dX9_shift_168 : decode cX9_shift 168 = .ok (.aload_n 0, 1) := by decide +kernel
theorem dX9_shift_169 : decode cX9_shift 169 = .ok (.getfield 52, 3) := by decide +kernel
theorem dX9_shift_172 : decode cX9_shift 172 = .ok (.iload 6, 2) := by decide +kernel
theorem dX9_shift_174 : decode cX9_shift 174 = .ok (.laload, 1) := by decide +kernel
theorem dX9_shift_175 : decode cX9_shift 175 = .ok (.lastore, 1) := by decide +kernel
theorem dX9_shift_176 : decode cX9_shift 176 = .ok (.iinc 6 1, 3) := by decide +kernel
theorem dX9_shift_179 : decode cX9_shift 179 = .ok (.goto (-32), 3) := by decide +kernel
theorem dX9_shift_182 : decode cX9_shift 182 = .ok (.iload 5, 2) := by decide +kernel
theorem dX9_shift_184 : decode cX9_shift 184 = .ok (.ireturn, 1) := by decide +kernel
end
section
theorem dL_law_0 : decode cL_law 0 = .ok (.new 7, 3) := by decide +kernel
theorem dL_law_3 : decode cL_law 3 = .ok (.dup, 1) := by decide +kernel
theorem dL_law_4 : decode cL_law 4 = .ok (.invokespecial 9, 3) := by decide +kernel
theorem dL_law_7 : decode cL_law 7 = .ok (.astore_n 1, 1) := by decide +kernel
theorem dL_law_8 : decode cL_law 8 = .ok (.new 10, 3) := by decide +kernel
theorem dL_law_11 : decode cL_law 11 = .ok (.dup, 1) := by decide +kernel
theorem dL_law_12 : decode cL_law 12 = .ok (.invokespecial 12, 3) := by decide +kernel
theorem dL_law_15 : decode cL_law 15 = .ok (.astore_n 2, 1) := by decide +kernel
theorem dL_law_16 : decode cL_law 16 = .ok (.iconst 0, 1) := by decide +kernel
theorem dL_law_17 : decode cL_law 17 = .ok (.istore_n 3, 1) := by decide +kernel
theorem dL_law_18 : decode cL_law 18 = .ok (.iload_n 3, 1) := by decide +kernel
theorem dL_law_19 : decode cL_law 19 = .ok (.aload_n 0, 1) := by decide +kernel
theorem dL_law_20 : decode cL_law 20 = .ok (.arraylength, 1) := by decide +kernel
theorem dL_law_21 : decode cL_law 21 = .ok (.bipush 6, 2) := by decide +kernel
theorem dL_law_23 : decode cL_law 23 = .ok (.isub, 1) := by decide +kernel
theorem dL_law_24 : decode cL_law 24 = .ok (.if_icmp .gt 1036, 3) := by decide +kernel
theorem dL_law_27 : decode cL_law 27 = .ok (.aload_n 0, 1) := by decide +kernel
theorem dL_law_28 : decode cL_law 28 = .ok (.iload_n 3, 1) := by decide +kernel
theorem dL_law_29 : decode cL_law 29 = .ok (.iaload, 1) := by decide +kernel
theorem dL_law_30 : decode cL_law 30 = .ok (.bipush 31, 2) := by decide +kernel
theorem dL_law_32 : decode cL_law 32 = .ok (.iand, 1) := by decide +kernel
theorem dL_law_33 : decode cL_law 33 = .ok (.tableswitch 1021 0 29 #[135, 168, 191, 234, 267, 290, 313, 347, 371, 394, 407, 440, 464, 487, 510, 533, 566, 599, 622, 656, 680, 713, 726, 759, 772, 785, 808, 851, 924, 958], 135) := by decide +kernel
theorem dL_law_168 : decode cL_law 168 = .ok (.aload_n 1, 1) := by decide +kernel
theorem dL_law_169 : decode cL_law 169 = .ok (.aload_n 0, 1) := by decide +kernel
theorem dL_law_170 : decode cL_law 170 = .ok (.iload_n 3, 1) := by decide +kernel
theorem dL_law_171 : decode cL_law 171 = .ok (.iconst 1, 1) := by decide +kernel
theorem dL_law_172 : decode cL_law 172 = .ok (.iadd, 1) := by decide +kernel
theorem dL_law_173 : decode cL_law 173 = .ok (.iaload, 1) := by decide +kernel
theorem dL_law_174 : decode cL_law 174 = .ok (.aload_n 0, 1) := by decide +kernel
theorem dL_law_175 : decode cL_law 175 = .ok (.iload_n 3, 1) := by decide +kernel
theorem dL_law_176 : decode cL_law 176 = .ok (.iconst 2, 1) := by decide +kernel
theorem dL_law_177 : decode cL_law 177 = .ok (.iadd, 1) := by decide +kernel
theorem dL_law_178 : decode cL_law 178 = .ok (.iaload, 1) := by decide +kernel
theorem dL_law_179 : decode cL_law 179 = .ok (.invokevirtual 13, 3) := by decide +kernel
theorem dL_law_182 : decode cL_law 182 = .ok (.aload_n 2, 1) := by decide +kernel
theorem dL_law_183 : decode cL_law 183 = .ok (.aload_n 0, 1) := by decide +kernel
theorem dL_law_184 : decode cL_law 184 = .ok (.iload_n 3, 1) := by decide +kernel
theorem dL_law_185 : decode cL_law 185 = .ok (.iconst 1, 1) := by decide +kernel
theorem dL_law_186 : decode cL_law 186 = .ok (.iadd, 1) := by decide +kernel
theorem dL_law_187 : decode cL_law 187 = .ok (.iaload, 1) := by decide +kernel
theorem dL_law_188 : decode cL_law 188 = .ok (.aload_n 0, 1) := by decide +kernel
theorem dL_law_189 : decode cL_law 189 = .ok (.iload_n 3, 1) := by decide +kernel
theorem dL_law_190 : decode cL_law 190 = .ok (.iconst 2, 1) := by decide +kernel
theorem dL_law_191 : decode cL_law 191 = .ok (.iadd, 1) := by decide +kernel
theorem dL_law_192 : decode cL_law 192 = .ok (.iaload, 1) := by decide +kernel
theorem dL_law_193 : decode cL_law 193 = .ok (.invokevirtual 17, 3) := by decide +kernel
theorem dL_law_196 : decode cL_law 196 = .ok (.if_icmp .eq 858, 3) := by decide +kernel
theorem dL_law_199 : decode cL_law 199 = .ok (.iconst 0, 1) := by decide +kernel
theorem dL_law_200 : decode cL_law 200 = .ok (.ireturn, 1) := by decide +kernel
theorem dL_law_201 : decode cL_law 201 = .ok (.aload_n 1, 1) := by decide +kernel
theorem dL_law_202 : decode cL_law 202 = .ok (.aload_n 0, 1) := by decide +kernel
theorem dL_law_203 : decode cL_law 203 = .ok (.iload_n 3, 1) := by decide +kernel
theorem dL_law_204 : decode cL_law 204 = .ok (.iconst 1, 1) := by decide +kernel
theorem dL_law_205 : decode cL_law 205 = .ok (.iadd, 1) := by decide +kernel
theorem dL_law_206 : decode cL_law 206 = .ok (.iaload, 1) := by decide +kernel
theorem dL_law_207 : decode cL_law 207 = .ok (.invokevirtual 18, 3) := by decide +kernel
theorem dL_law_210 : decode cL_law 210 = .ok (.aload_n 2, 1) := by decide +kernel
theorem dL_law_211 : decode cL_law 211 = .ok (.aload_n 0, 1) := by decide +kernel
theorem dL_law_212 : decode cL_law 212 = .ok (.iload_n 3, 1) := by decide +kernel
theorem dL_law_213 : decode cL_law 213 = .ok (.iconst 1, 1) := by decide +kernel
theorem dL_law_214 : decode cL_law 214 = .ok (.iadd, 1) := by decide +kernel
theorem dL_law_215 : decode cL_law 215 = .ok (.iaload, 1) := by decide +kernel
theorem dL_law_216 : decode cL_law 216 = .ok (.invokevirtual 22, 3) := by decide +kernel
theorem dL_law_219 : decode cL_law 219 = .ok (.if_icmp .eq 835, 3) := by decide +kernel
theorem dL_law_222 : decode cL_law 222 = .ok (.iconst 0, 1) := by decide +kernel
theorem dL_law_223 : decode cL_law 223 = .ok (.ireturn, 1) := by decide +kernel
theorem dL_law_224 : decode cL_law 224 = .ok (.aload_n 1, 1) := by decide +kernel
theorem dL_law_225 : decode cL_law 225 = .ok (.aload_n 0, 1) := by decide +kernel
theorem dL_law_226 : decode cL_law 226 = .ok (.iload_n 3, 1) := by decide +kernel
theorem dL_law_227 : decode cL_law 227 = .ok (.iconst 1, 1) := by decide +kernel
theorem dL_law_228 : decode cL_law 228 = .ok (.iadd, 1) := by decide +kernel
theorem dL_law_229 : decode cL_law 229 = .ok (.iaload, 1) := by decide +kernel
theorem dL_law_230 : decode cL_law 230 = .ok (.aload_n 0, 1) := by decide +kernel
theorem dL_law_231 : decode cL_law 231 = .ok (.iload_n 3, 1) := by decide +kernel
theorem dL_law_232 : decode cL_law 232 = .ok (.iconst 2, 1) := by decide +kernel
theorem dL_law_233 : decode cL_law 233 = .ok (.iadd, 1) := by decide +kernel
theorem dL_law_234 : decode cL_law 234 = .ok (.iaload, 1) := by decide +kernel
theorem dL_law_235 : decode cL_law 235 = .ok (.aload_n 0, 1) := by decide +kernel
theorem dL_law_236 : decode cL_law 236 = .ok (.iload_n 3, 1) := by decide +kernel
theorem dL_law_237 : decode cL_law 237 = .ok (.iconst 3, 1) := by decide +kernel
theorem dL_law_238 : decode cL_law 238 = .ok (.iadd, 1) := by decide +kernel
theorem dL_law_239 : decode cL_law 239 = .ok (.iaload, 1) := by decide +kernel
theorem dL_law_240 : decode cL_law 240 = .ok (.invokevirtual 23, 3) := by decide +kernel
theorem dL_law_243 : decode cL_law 243 = .ok (.aload_n 2, 1) := by decide +kernel
theorem dL_law_244 : decode cL_law 244 = .ok (.aload_n 0, 1) := by decide +kernel
theorem dL_law_245 : decode cL_law 245 = .ok (.iload_n 3, 1) := by decide +kernel
theorem dL_law_246 : decode cL_law 246 = .ok (.iconst 1, 1) := by decide +kernel
theorem dL_law_247 : decode cL_law 247 = .ok (.iadd, 1) := by decide +kernel
theorem dL_law_248 : decode cL_law 248 = .ok (.iaload, 1) := by decide +kernel
theorem dL_law_249 : decode cL_law 249 = .ok (.aload_n 0, 1) := by decide +kernel
theorem dL_law_250 : decode cL_law 250 = .ok (.iload_n 3, 1) := by decide +kernel
theorem dL_law_251 : decode cL_law 251 = .ok (.iconst 2, 1) := by decide +kernel
theorem dL_law_252 : decode cL_law 252 = .ok (.iadd, 1) := by decide +kernel
theorem dL_law_253 : decode cL_law 253 = .ok (.iaload, 1) := by decide +kernel
theorem dL_law_254 : decode cL_law 254 = .ok (.aload_n 0, 1) := by decide +kernel
theorem dL_law_255 : decode cL_law 255 = .ok (.iload_n 3, 1) := by decide +kernel
theorem dL_law_256 : decode cL_law 256 = .ok (.iconst 3, 1) := by decide +kernel
theorem dL_law_257 : decode cL_law 257 = .ok (.iadd, 1) := by decide +kernel
theorem dL_law_258 : decode cL_law 258 = .ok (.iaload, 1) := by decide +kernel
theorem dL_law_259 : decode cL_law 259 = .ok (.invokevirtual 27, 3) := by decide +kernel
theorem dL_law_262 : decode cL_law 262 = .ok (.if_icmp .eq 792, 3) := by decide +kernel
theorem dL_law_265 : decode cL_law 265 = .ok (.iconst 0, 1) := by decide +kernel
theorem dL_law_266 : decode cL_law 266 = .ok (.ireturn, 1) := by decide +kernel
theorem dL_law_267 : decode cL_law 267 = .ok (.aload_n 1, 1) := by decide +kernel
theorem dL_law_268 : decode cL_law 268 = .ok (.aload_n 0, 1) := by decide +kernel
theorem dL_law_269 : decode cL_law 269 = .ok (.iload_n 3, 1) := by decide +kernel
theorem dL_law_270 : decode cL_law 270 = .ok (.iconst 1, 1) := by decide +kernel
theorem dL_law_271 : decode cL_law 271 = .ok (.iadd, 1) := by decide +kernel
theorem dL_law_272 : decode cL_law 272 = .ok (.iaload, 1) := by decide +kernel
theorem dL_law_273 : decode cL_law 273 = .ok (.aload_n 0, 1) := by decide +kernel
theorem dL_law_274 : decode cL_law 274 = .ok (.iload_n 3, 1) := by decide +kernel
theorem dL_law_275 : decode cL_law 275 = .ok (.iconst 2, 1) := by decide +kernel
theorem dL_law_276 : decode cL_law 276 = .ok (.iadd, 1) := by decide +kernel
theorem dL_law_277 : decode cL_law 277 = .ok (.iaload, 1) := by decide +kernel
theorem dL_law_278 : decode cL_law 278 = .ok (.invokevirtual 28, 3) := by decide +kernel
theorem dL_law_281 : decode cL_law 281 = .ok (.aload_n 2, 1) := by decide +kernel
theorem dL_law_282 : decode cL_law 282 = .ok (.aload_n 0, 1) := by decide +kernel
theorem dL_law_283 : decode cL_law 283 = .ok (.iload_n 3, 1) := by decide +kernel
theorem dL_law_284 : decode cL_law 284 = .ok (.iconst 1, 1) := by decide +kernel
theorem dL_law_285 : decode cL_law 285 = .ok (.iadd, 1) := by decide +kernel
theorem dL_law_286 : decode cL_law 286 = .ok (.iaload, 1) := by decide +kernel
theorem dL_law_287 : decode cL_law 287 = .ok (.aload_n 0, 1) := by decide +kernel
theorem dL_law_288 : decode cL_law 288 = .ok (.iload_n 3, 1) := by decide +kernel
theorem dL_law_289 : decode cL_law 289 = .ok (.iconst 2, 1) := by decide +kernel
theorem dL_law_290 : decode cL_law 290 = .ok (.iadd, 1) := by decide +kernel
theorem dL_law_291 : decode cL_law 291 = .ok (.iaload, 1) := by decide +kernel
theorem dL_law_292 : decode cL_law 292 = .ok (.invokevirtual 31, 3) := by decide +kernel
theorem dL_law_295 : decode cL_law 295 = .ok (.if_icmp .eq 759, 3) := by decide +kernel
theorem dL_law_298 : decode cL_law 298 = .ok (.iconst 0, 1) := by decide +kernel
theorem dL_law_299 : decode cL_law 299 = .ok (.ireturn, 1) := by decide +kernel
theorem dL_law_300 : decode cL_law 300 = .ok (.aload_n 1, 1) := by decide +kernel
theorem dL_law_301 : decode cL_law 301 = .ok (.aload_n 0, 1) := by decide +kernel
theorem dL_law_302 : decode cL_law 302 = .ok (.iload_n 3, 1) := by decide +kernel
theorem dL_law_303 : decode cL_law 303 = .ok (.iconst 1, 1) := by decide +kernel
theorem dL_law_304 : decode cL_law 304 = .ok (.iadd, 1) := by decide +kernel
theorem dL_law_305 : decode cL_law 305 = .ok (.iaload, 1) := by decide +kernel
theorem dL_law_306 : decode cL_law 306 = .ok (.invokevirtual 32, 3) := by decide +kernel
theorem dL_law_309 : decode cL_law 309 = .ok (.aload_n 2, 1) := by decide +kernel
theorem dL_law_310 : decode cL_law 310 = .ok (.aload_n 0, 1) := by decide +kernel
theorem dL_law_311 : decode cL_law 311 = .ok (.iload_n 3, 1) := by decide +kernel
theorem dL_law_312 : decode cL_law 312 = .ok (.iconst 1, 1) := by decide +kernel
theorem dL_law_313 : decode cL_law 313 = .ok (.iadd, 1) := by decide +kernel
theorem dL_law_314 : decode cL_law 314 = .ok (.iaload, 1) := by decide +kernel
theorem dL_law_315 : decode cL_law 315 = .ok (.invokevirtual 35, 3) := by decide +kernel
theorem dL_law_318 : decode cL_law 318 = .ok (.if_icmp .eq 736, 3) := by decide +kernel
theorem dL_law_321 : decode cL_law 321 = .ok (.iconst 0, 1) := by decide +kernel
theorem dL_law_322 : decode cL_law 322 = .ok (.ireturn, 1) := by decide +kernel
theorem dL_law_323 : decode cL_law 323 = .ok (.aload_n 1, 1) := by decide +kernel
theorem dL_law_324 : decode cL_law 324 = .ok (.aload_n 0, 1) := by decide +kernel
theorem dL_law_325 : decode cL_law 325 = .ok (.iload_n 3, 1) := by decide +kernel
theorem dL_law_326 : decode cL_law 326 = .ok (.iconst 1, 1) := by decide +kernel
theorem dL_law_327 : decode cL_law 327 = .ok (.iadd, 1) := by decide +kernel
theorem dL_law_328 : decode cL_law 328 = .ok (.iaload, 1) := by decide +kernel
theorem dL_law_329 : decode cL_law 329 = .ok (.invokevirtual 36, 3) := by decide +kernel
theorem dL_law_332 : decode cL_law 332 = .ok (.aload_n 2, 1) := by decide +kernel
theorem dL_law_333 : decode cL_law 333 = .ok (.aload_n 0, 1) := by decide +kernel
theorem dL_law_334 : decode cL_law 334 = .ok (.iload_n 3, 1) := by decide +kernel
theorem dL_law_335 : decode cL_law 335 = .ok (.iconst 1, 1) := by decide +kernel
theorem dL_law_336 : decode cL_law 336 = .ok (.iadd, 1) := by decide +kernel
theorem dL_law_337 : decode cL_law 337 = .ok (.iaload, 1) := by decide +kernel
theorem dL_law_338 : decode cL_law 338 = .ok (.invokevirtual 39, 3) := by decide +kernel
theorem dL_law_341 : decode cL_law 341 = .ok (.if_icmp .eq 713, 3) := by decide +kernel
theorem dL_law_344 : decode cL_law 344 = .ok (.iconst 0, 1) := by decide +kernel
theorem dL_law_345 : decode cL_law 345 = .ok (.ireturn, 1) := by decide +kernel
theorem dL_law_346 : decode cL_law 346 = .ok (.aload_n 1, 1) := by decide +kernel
theorem dL_law_347 : decode cL_law 347 = .ok (.aload_n 0, 1) := by decide +kernel
theorem dL_law_348 : decode cL_law 348 = .ok (.iload_n 3, 1) := by decide +kernel
theorem dL_law_349 : decode cL_law 349 = .ok (.iconst 1, 1) := by decide +kernel
theorem dL_law_350 : decode cL_law 350 = .ok (.iadd, 1) := by decide +kernel
theorem dL_law_351 : decode cL_law 351 = .ok (.iaload, 1) := by decide +kernel
theorem dL_law_352 : decode cL_law 352 = .ok (.aload_n 0, 1) := by decide +kernel
theorem dL_law_353 : decode cL_law 353 = .ok (.iload_n 3, 1) := by decide +kernel
theorem dL_law_354 : decode cL_law 354 = .ok (.iconst 2, 1) := by decide +kernel
theorem dL_law_355 : decode cL_law 355 = .ok (.iadd, 1) := by decide +kernel
theorem dL_law_356 : decode cL_law 356 = .ok (.iaload, 1) := by decide +kernel
theorem dL_law_357 : decode cL_law 357 = .ok (.invokevirtual 40, 3) := by decide +kernel
theorem dL_law_360 : decode cL_law 360 = .ok (.aload_n 2, 1) := by decide +kernel
theorem dL_law_361 : decode cL_law 361 = .ok (.aload_n 0, 1) := by decide +kernel
theorem dL_law_362 : decode cL_law 362 = .ok (.iload_n 3, 1) := by decide +kernel
theorem dL_law_363 : decode cL_law 363 = .ok (.iconst 1, 1) := by decide +kernel
theorem dL_law_364 : decode cL_law 364 = .ok (.iadd, 1) := by decide +kernel
theorem dL_law_365 : decode cL_law 365 = .ok (.iaload, 1) := by decide +kernel
theorem dL_law_366 : decode cL_law 366 = .ok (.aload_n 0, 1) := by decide +kernel
theorem dL_law_367 : decode cL_law 367 = .ok (.iload_n 3, 1) := by decide +kernel
theorem dL_law_368 : decode cL_law 368 = .ok (.iconst 2, 1) := by decide +kernel
theorem dL_law_369 : decode cL_law 369 = .ok (.iadd, 1) := by decide +kernel
theorem dL_law_370 : decode cL_law 370 = .ok (.iaload, 1) := by decide +kernel
theorem dL_law_371 : decode cL_law 371 = .ok (.invokevirtual 44, 3) := by decide +kernel
theorem dL_law_374 : decode cL_law 374 = .ok (.lcmp, 1) := by decide +kernel
theorem dL_law_375 : decode cL_law 375 = .ok (.ifCond .eq 679, 3) := by decide +kernel
theorem dL_law_378 : decode cL_law 378 = .ok (.iconst 0, 1) := by decide +kernel
theorem dL_law_379 : decode cL_law 379 = .ok (.ireturn, 1) := by decide +kernel
theorem dL_law_380 : decode cL_law 380 = .ok (.aload_n 1, 1) := by decide +kernel
theorem dL_law_381 : decode cL_law 381 = .ok (.aload_n 0, 1) := by decide +kernel
theorem dL_law_382 : decode cL_law 382 = .ok (.iload_n 3, 1) := by decide +kernel
theorem dL_law_383 : decode cL_law 383 = .ok (.iconst 1, 1) := by decide +kernel
theorem dL_law_384 : decode cL_law 384 = .ok (.iadd, 1) := by decide +kernel
theorem dL_law_385 : decode cL_law 385 = .ok (.iaload, 1) := by decide +kernel
theorem dL_law_386 : decode cL_law 386 = .ok (.invokevirtual 45, 3) := by decide +kernel
theorem dL_law_389 : decode cL_law 389 = .ok (.aload_n 2, 1) := by decide +kernel
theorem dL_law_390 : decode cL_law 390 = .ok (.aload_n 0, 1) := by decide +kernel
theorem dL_law_391 : decode cL_law 391 = .ok (.iload_n 3, 1) := by decide +kernel
theorem dL_law_392 : decode cL_law 392 = .ok (.iconst 1, 1) := by decide +kernel
theorem dL_law_393 : decode cL_law 393 = .ok (.iadd, 1) := by decide +kernel
theorem dL_law_394 : decode cL_law 394 = .ok (.iaload, 1) := by decide +kernel
theorem dL_law_395 : decode cL_law 395 = .ok (.invokevirtual 49, 3) := by decide +kernel
theorem dL_law_398 : decode cL_law 398 = .ok (.lcmp, 1) := by decide +kernel
theorem dL_law_399 : decode cL_law 399 = .ok (.ifCond .eq 655, 3) := by decide +kernel
theorem dL_law_402 : decode cL_law 402 = .ok (.iconst 0, 1) := by decide +kernel
theorem dL_law_403 : decode cL_law 403 = .ok (.ireturn, 1) := by decide +kernel
theorem dL_law_404 : decode cL_law 404 = .ok (.aload_n 1, 1) := by decide +kernel
theorem dL_law_405 : decode cL_law 405 = .ok (.aload_n 0, 1) := by decide +kernel
theorem dL_law_406 : decode cL_law 406 = .ok (.iload_n 3, 1) := by decide +kernel
theorem dL_law_407 : decode cL_law 407 = .ok (.iconst 1, 1) := by decide +kernel
theorem dL_law_408 : decode cL_law 408 = .ok (.iadd, 1) := by decide +kernel
theorem dL_law_409 : decode cL_law 409 = .ok (.iaload, 1) := by decide +kernel
theorem dL_law_410 : decode cL_law 410 = .ok (.invokevirtual 50, 3) := by decide +kernel
theorem dL_law_413 : decode cL_law 413 = .ok (.aload_n 2, 1) := by decide +kernel
theorem dL_law_414 : decode cL_law 414 = .ok (.aload_n 0, 1) := by decide +kernel
theorem dL_law_415 : decode cL_law 415 = .ok (.iload_n 3, 1) := by decide +kernel
theorem dL_law_416 : decode cL_law 416 = .ok (.iconst 1, 1) := by decide +kernel
theorem dL_law_417 : decode cL_law 417 = .ok (.iadd, 1) := by decide +kernel
theorem dL_law_418 : decode cL_law 418 = .ok (.iaload, 1) := by decide +kernel
theorem dL_law_419 : decode cL_law 419 = .ok (.invokevirtual 53, 3) := by decide +kernel
theorem dL_law_422 : decode cL_law 422 = .ok (.if_icmp .eq 632, 3) := by decide +kernel
theorem dL_law_425 : decode cL_law 425 = .ok (.iconst 0, 1) := by decide +kernel
theorem dL_law_426 : decode cL_law 426 = .ok (.ireturn, 1) := by decide +kernel
theorem dL_law_427 : decode cL_law 427 = .ok (.aload_n 1, 1) := by decide +kernel
theorem dL_law_428 : decode cL_law 428 = .ok (.invokevirtual 54, 3) := by decide +kernel
theorem dL_law_431 : decode cL_law 431 = .ok (.aload_n 2, 1) := by decide +kernel
theorem dL_law_432 : decode cL_law 432 = .ok (.invokevirtual 58, 3) := by decide +kernel
theorem dL_law_435 : decode cL_law 435 = .ok (.if_icmp .eq 619, 3) := by decide +kernel
theorem dL_law_438 : decode cL_law 438 = .ok (.iconst 0, 1) := by decide +kernel
theorem dL_law_439 : decode cL_law 439 = .ok (.ireturn, 1) := by decide +kernel
theorem dL_law_440 : decode cL_law 440 = .ok (.aload_n 1, 1) := by decide +kernel
theorem dL_law_441 : decode cL_law 441 = .ok (.aload_n 0, 1) := by decide +kernel
theorem dL_law_442 : decode cL_law 442 = .ok (.iload_n 3, 1) := by decide +kernel
theorem dL_law_443 : decode cL_law 443 = .ok (.iconst 1, 1) := by decide +kernel
theorem dL_law_444 : decode cL_law 444 = .ok (.iadd, 1) := by decide +kernel
theorem dL_law_445 : decode cL_law 445 = .ok (.iaload, 1) := by decide +kernel
theorem dL_law_446 : decode cL_law 446 = .ok (.aload_n 0, 1) := by decide +kernel
theorem dL_law_447 : decode cL_law 447 = .ok (.iload_n 3, 1) := by decide +kernel
theorem dL_law_448 : decode cL_law 448 = .ok (.iconst 2, 1) := by decide +kernel
theorem dL_law_449 : decode cL_law 449 = .ok (.iadd, 1) := by decide +kernel
theorem dL_law_450 : decode cL_law 450 = .ok (.iaload, 1) := by decide +kernel
theorem dL_law_451 : decode cL_law 451 = .ok (.invokevirtual 59, 3) := by decide +kernel
theorem dL_law_454 : decode cL_law 454 = .ok (.aload_n 2, 1) := by decide +kernel
theorem dL_law_455 : decode cL_law 455 = .ok (.aload_n 0, 1) := by decide +kernel
theorem dL_law_456 : decode cL_law 456 = .ok (.iload_n 3, 1) := by decide +kernel
theorem dL_law_457 : decode cL_law 457 = .ok (.iconst 1, 1) := by decide +kernel
theorem dL_law_458 : decode cL_law 458 = .ok (.iadd, 1) := by decide +kernel
theorem dL_law_459 : decode cL_law 459 = .ok (.iaload, 1) := by decide +kernel
theorem dL_law_460 : decode cL_law 460 = .ok (.aload_n 0, 1) := by decide +kernel
theorem dL_law_461 : decode cL_law 461 = .ok (.iload_n 3, 1) := by decide +kernel
theorem dL_law_462 : decode cL_law 462 = .ok (.iconst 2, 1) := by decide +kernel
theorem dL_law_463 : decode cL_law 463 = .ok (.iadd, 1) := by decide +kernel
theorem dL_law_464 : decode cL_law 464 = .ok (.iaload, 1) := by decide +kernel
theorem dL_law_465 : decode cL_law 465 = .ok (.invokevirtual 62, 3) := by decide +kernel
theorem dL_law_468 : decode cL_law 468 = .ok (.if_icmp .eq 586, 3) := by decide +kernel
theorem dL_law_471 : decode cL_law 471 = .ok (.iconst 0, 1) := by decide +kernel
theorem dL_law_472 : decode cL_law 472 = .ok (.ireturn, 1) := by decide +kernel
theorem dL_law_473 : decode cL_law 473 = .ok (.aload_n 1, 1) := by decide +kernel
theorem dL_law_474 : decode cL_law 474 = .ok (.aload_n 0, 1) := by decide +kernel
theorem dL_law_475 : decode cL_law 475 = .ok (.iload_n 3, 1) := by decide +kernel
theorem dL_law_476 : decode cL_law 476 = .ok (.iconst 1, 1) := by decide +kernel
theorem dL_law_477 : decode cL_law 477 = .ok (.iadd, 1) := by decide +kernel
theorem dL_law_478 : decode cL_law 478 = .ok (.iaload, 1) := by decide +kernel
theorem dL_law_479 : decode cL_law 479 = .ok (.invokevirtual 63, 3) := by decide +kernel
theorem dL_law_482 : decode cL_law 482 = .ok (.aload_n 2, 1) := by decide +kernel
theorem dL_law_483 : decode cL_law 483 = .ok (.aload_n 0, 1) := by decide +kernel
theorem dL_law_484 : decode cL_law 484 = .ok (.iload_n 3, 1) := by decide +kernel
theorem dL_law_485 : decode cL_law 485 = .ok (.iconst 1, 1) := by decide +kernel
theorem dL_law_486 : decode cL_law 486 = .ok (.iadd, 1) := by decide +kernel
theorem dL_law_487 : decode cL_law 487 = .ok (.iaload, 1) := by decide +kernel
theorem dL_law_488 : decode cL_law 488 = .ok (.invokevirtual 66, 3) := by decide +kernel
theorem dL_law_491 : decode cL_law 491 = .ok (.lcmp, 1) := by decide +kernel
theorem dL_law_492 : decode cL_law 492 = .ok (.ifCond .eq 562, 3) := by decide +kernel
theorem dL_law_495 : decode cL_law 495 = .ok (.iconst 0, 1) := by decide +kernel
theorem dL_law_496 : decode cL_law 496 = .ok (.ireturn, 1) := by decide +kernel
theorem dL_law_497 : decode cL_law 497 = .ok (.aload_n 1, 1) := by decide +kernel
theorem dL_law_498 : decode cL_law 498 = .ok (.aload_n 0, 1) := by decide +kernel
theorem dL_law_499 : decode cL_law 499 = .ok (.iload_n 3, 1) := by decide +kernel
theorem dL_law_500 : decode cL_law 500 = .ok (.iconst 1, 1) := by decide +kernel
theorem dL_law_501 : decode cL_law 501 = .ok (.iadd, 1) := by decide +kernel
theorem dL_law_502 : decode cL_law 502 = .ok (.iaload, 1) := by decide +kernel
theorem dL_law_503 : decode cL_law 503 = .ok (.invokevirtual 67, 3) := by decide +kernel
theorem dL_law_506 : decode cL_law 506 = .ok (.aload_n 2, 1) := by decide +kernel
theorem dL_law_507 : decode cL_law 507 = .ok (.aload_n 0, 1) := by decide +kernel
theorem dL_law_508 : decode cL_law 508 = .ok (.iload_n 3, 1) := by decide +kernel
theorem dL_law_509 : decode cL_law 509 = .ok (.iconst 1, 1) := by decide +kernel
theorem dL_law_510 : decode cL_law 510 = .ok (.iadd, 1) := by decide +kernel
theorem dL_law_511 : decode cL_law 511 = .ok (.iaload, 1) := by decide +kernel
theorem dL_law_512 : decode cL_law 512 = .ok (.invokevirtual 70, 3) := by decide +kernel
theorem dL_law_515 : decode cL_law 515 = .ok (.if_icmp .eq 539, 3) := by decide +kernel
theorem dL_law_518 : decode cL_law 518 = .ok (.iconst 0, 1) := by decide +kernel
theorem dL_law_519 : decode cL_law 519 = .ok (.ireturn, 1) := by decide +kernel
theorem dL_law_520 : decode cL_law 520 = .ok (.aload_n 1, 1) := by decide +kernel
theorem dL_law_521 : decode cL_law 521 = .ok (.aload_n 0, 1) := by decide +kernel
theorem dL_law_522 : decode cL_law 522 = .ok (.iload_n 3, 1) := by decide +kernel
theorem dL_law_523 : decode cL_law 523 = .ok (.iconst 1, 1) := by decide +kernel
theorem dL_law_524 : decode cL_law 524 = .ok (.iadd, 1) := by decide +kernel
theorem dL_law_525 : decode cL_law 525 = .ok (.iaload, 1) := by decide +kernel
theorem dL_law_526 : decode cL_law 526 = .ok (.invokevirtual 71, 3) := by decide +kernel
theorem dL_law_529 : decode cL_law 529 = .ok (.aload_n 2, 1) := by decide +kernel
theorem dL_law_530 : decode cL_law 530 = .ok (.aload_n 0, 1) := by decide +kernel
theorem dL_law_531 : decode cL_law 531 = .ok (.iload_n 3, 1) := by decide +kernel
theorem dL_law_532 : decode cL_law 532 = .ok (.iconst 1, 1) := by decide +kernel
theorem dL_law_533 : decode cL_law 533 = .ok (.iadd, 1) := by decide +kernel
theorem dL_law_534 : decode cL_law 534 = .ok (.iaload, 1) := by decide +kernel
theorem dL_law_535 : decode cL_law 535 = .ok (.invokevirtual 74, 3) := by decide +kernel
theorem dL_law_538 : decode cL_law 538 = .ok (.if_icmp .eq 516, 3) := by decide +kernel
theorem dL_law_541 : decode cL_law 541 = .ok (.iconst 0, 1) := by decide +kernel
theorem dL_law_542 : decode cL_law 542 = .ok (.ireturn, 1) := by decide +kernel
theorem dL_law_543 : decode cL_law 543 = .ok (.aload_n 1, 1) := by decide +kernel
theorem dL_law_544 : decode cL_law 544 = .ok (.aload_n 0, 1) := by decide +kernel
theorem dL_law_545 : decode cL_law 545 = .ok (.iload_n 3, 1) := by decide +kernel
theorem dL_law_546 : decode cL_law 546 = .ok (.iconst 1, 1) := by decide +kernel
theorem dL_law_547 : decode cL_law 547 = .ok (.iadd, 1) := by decide +kernel
theorem dL_law_548 : decode cL_law 548 = .ok (.iaload, 1) := by decide +kernel
theorem dL_law_549 : decode cL_law 549 = .ok (.invokevirtual 75, 3) := by decide +kernel
theorem dL_law_552 : decode cL_law 552 = .ok (.aload_n 2, 1) := by decide +kernel
theorem dL_law_553 : decode cL_law 553 = .ok (.aload_n 0, 1) := by decide +kernel
theorem dL_law_554 : decode cL_law 554 = .ok (.iload_n 3, 1) := by decide +kernel
theorem dL_law_555 : decode cL_law 555 = .ok (.iconst 1, 1) := by decide +kernel
theorem dL_law_556 : decode cL_law 556 = .ok (.iadd, 1) := by decide +kernel
theorem dL_law_557 : decode cL_law 557 = .ok (.iaload, 1) := by decide +kernel
theorem dL_law_558 : decode cL_law 558 = .ok (.invokevirtual 78, 3) := by decide +kernel
theorem dL_law_561 : decode cL_law 561 = .ok (.if_icmp .eq 493, 3) := by decide +kernel
theorem dL_law_564 : decode cL_law 564 = .ok (.iconst 0, 1) := by decide +kernel
theorem dL_law_565 : decode cL_law 565 = .ok (.ireturn, 1) := by decide +kernel
theorem dL_law_566 : decode cL_law 566 = .ok (.aload_n 1, 1) := by decide +kernel
theorem dL_law_567 : decode cL_law 567 = .ok (.aload_n 0, 1) := by decide +kernel
theorem dL_law_568 : decode cL_law 568 = .ok (.iload_n 3, 1) := by decide +kernel
theorem dL_law_569 : decode cL_law 569 = .ok (.iconst 1, 1) := by decide +kernel
theorem dL_law_570 : decode cL_law 570 = .ok (.iadd, 1) := by decide +kernel
theorem dL_law_571 : decode cL_law 571 = .ok (.iaload, 1) := by decide +kernel
theorem dL_law_572 : decode cL_law 572 = .ok (.aload_n 0, 1) := by decide +kernel
theorem dL_law_573 : decode cL_law 573 = .ok (.iload_n 3, 1) := by decide +kernel
theorem dL_law_574 : decode cL_law 574 = .ok (.iconst 2, 1) := by decide +kernel
theorem dL_law_575 : decode cL_law 575 = .ok (.iadd, 1) := by decide +kernel
theorem dL_law_576 : decode cL_law 576 = .ok (.iaload, 1) := by decide +kernel
theorem dL_law_577 : decode cL_law 577 = .ok (.invokevirtual 79, 3) := by decide +kernel
theorem dL_law_580 : decode cL_law 580 = .ok (.aload_n 2, 1) := by decide +kernel
theorem dL_law_581 : decode cL_law 581 = .ok (.aload_n 0, 1) := by decide +kernel
theorem dL_law_582 : decode cL_law 582 = .ok (.iload_n 3, 1) := by decide +kernel
theorem dL_law_583 : decode cL_law 583 = .ok (.iconst 1, 1) := by decide +kernel
theorem dL_law_584 : decode cL_law 584 = .ok (.iadd, 1) := by decide +kernel
theorem dL_law_585 : decode cL_law 585 = .ok (.iaload, 1) := by decide +kernel
theorem dL_law_586 : decode cL_law 586 = .ok (.aload_n 0, 1) := by decide +kernel
theorem dL_law_587 : decode cL_law 587 = .ok (.iload_n 3, 1) := by decide +kernel
theorem dL_law_588 : decode cL_law 588 = .ok (.iconst 2, 1) := by decide +kernel
theorem dL_law_589 : decode cL_law 589 = .ok (.iadd, 1) := by decide +kernel
theorem dL_law_590 : decode cL_law 590 = .ok (.iaload, 1) := by decide +kernel
theorem dL_law_591 : decode cL_law 591 = .ok (.invokevirtual 82, 3) := by decide +kernel
theorem dL_law_594 : decode cL_law 594 = .ok (.if_icmp .eq 460, 3) := by decide +kernel
theorem dL_law_597 : decode cL_law 597 = .ok (.iconst 0, 1) := by decide +kernel
theorem dL_law_598 : decode cL_law 598 = .ok (.ireturn, 1) := by decide +kernel
theorem dL_law_599 : decode cL_law 599 = .ok (.aload_n 1, 1) := by decide +kernel
theorem dL_law_600 : decode cL_law 600 = .ok (.aload_n 0, 1) := by decide +kernel
theorem dL_law_601 : decode cL_law 601 = .ok (.iload_n 3, 1) := by decide +kernel
theorem dL_law_602 : decode cL_law 602 = .ok (.iconst 1, 1) := by decide +kernel
theorem dL_law_603 : decode cL_law 603 = .ok (.iadd, 1) := by decide +kernel
theorem dL_law_604 : decode cL_law 604 = .ok (.iaload, 1) := by decide +kernel
theorem dL_law_605 : decode cL_law 605 = .ok (.aload_n 0, 1) := by decide +kernel
theorem dL_law_606 : decode cL_law 606 = .ok (.iload_n 3, 1) := by decide +kernel
theorem dL_law_607 : decode cL_law 607 = .ok (.iconst 2, 1) := by decide +kernel
theorem dL_law_608 : decode cL_law 608 = .ok (.iadd, 1) := by decide +kernel
theorem dL_law_609 : decode cL_law 609 = .ok (.iaload, 1) := by decide +kernel
theorem dL_law_610 : decode cL_law 610 = .ok (.invokevirtual 83, 3) := by decide +kernel
theorem dL_law_613 : decode cL_law 613 = .ok (.aload_n 2, 1) := by decide +kernel
theorem dL_law_614 : decode cL_law 614 = .ok (.aload_n 0, 1) := by decide +kernel
theorem dL_law_615 : decode cL_law 615 = .ok (.iload_n 3, 1) := by decide +kernel
theorem dL_law_616 : decode cL_law 616 = .ok (.iconst 1, 1) := by decide +kernel
theorem dL_law_617 : decode cL_law 617 = .ok (.iadd, 1) := by decide +kernel
theorem dL_law_618 : decode cL_law 618 = .ok (.iaload, 1) := by decide +kernel
theorem dL_law_619 : decode cL_law 619 = .ok (.aload_n 0, 1) := by decide +kernel
theorem dL_law_620 : decode cL_law 620 = .ok (.iload_n 3, 1) := by decide +kernel
theorem dL_law_621 : decode cL_law 621 = .ok (.iconst 2, 1) := by decide +kernel
theorem dL_law_622 : decode cL_law 622 = .ok (.iadd, 1) := by decide +kernel
theorem dL_law_623 : decode cL_law 623 = .ok (.iaload, 1) := by decide +kernel
theorem dL_law_624 : decode cL_law 624 = .ok (.invokevirtual 86, 3) := by decide +kernel
theorem dL_law_627 : decode cL_law 627 = .ok (.if_icmp .eq 427, 3) := by decide +kernel
theorem dL_law_630 : decode cL_law 630 = .ok (.iconst 0, 1) := by decide +kernel
theorem dL_law_631 : decode cL_law 631 = .ok (.ireturn, 1) := by decide +kernel
theorem dL_law_632 : decode cL_law 632 = .ok (.aload_n 1, 1) := by decide +kernel
theorem dL_law_633 : decode cL_law 633 = .ok (.aload_n 0, 1) := by decide +kernel
theorem dL_law_634 : decode cL_law 634 = .ok (.iload_n 3, 1) := by decide +kernel
theorem dL_law_635 : decode cL_law 635 = .ok (.iconst 1, 1) := by decide +kernel
theorem dL_law_636 : decode cL_law 636 = .ok (.iadd, 1) := by decide +kernel
theorem dL_law_637 : decode cL_law 637 = .ok (.iaload, 1) := by decide +kernel
theorem dL_law_638 : decode cL_law 638 = .ok (.invokevirtual 87, 3) := by decide +kernel
theorem dL_law_641 : decode cL_law 641 = .ok (.aload_n 2, 1) := by decide +kernel
theorem dL_law_642 : decode cL_law 642 = .ok (.aload_n 0, 1) := by decide +kernel
theorem dL_law_643 : decode cL_law 643 = .ok (.iload_n 3, 1) := by decide +kernel
theorem dL_law_644 : decode cL_law 644 = .ok (.iconst 1, 1) := by decide +kernel
theorem dL_law_645 : decode cL_law 645 = .ok (.iadd, 1) := by decide +kernel
theorem dL_law_646 : decode cL_law 646 = .ok (.iaload, 1) := by decide +kernel
theorem dL_law_647 : decode cL_law 647 = .ok (.invokevirtual 90, 3) := by decide +kernel
theorem dL_law_650 : decode cL_law 650 = .ok (.if_icmp .eq 404, 3) := by decide +kernel
theorem dL_law_653 : decode cL_law 653 = .ok (.iconst 0, 1) := by decide +kernel
theorem dL_law_654 : decode cL_law 654 = .ok (.ireturn, 1) := by decide +kernel
theorem dL_law_655 : decode cL_law 655 = .ok (.aload_n 1, 1) := by decide +kernel
theorem dL_law_656 : decode cL_law 656 = .ok (.aload_n 0, 1) := by decide +kernel
theorem dL_law_657 : decode cL_law 657 = .ok (.iload_n 3, 1) := by decide +kernel
theorem dL_law_658 : decode cL_law 658 = .ok (.iconst 1, 1) := by decide +kernel
theorem dL_law_659 : decode cL_law 659 = .ok (.iadd, 1) := by decide +kernel
theorem dL_law_660 : decode cL_law 660 = .ok (.iaload, 1) := by decide +kernel
theorem dL_law_661 : decode cL_law 661 = .ok (.aload_n 0, 1) := by decide +kernel
theorem dL_law_662 : decode cL_law 662 = .ok (.iload_n 3, 1) := by decide +kernel
theorem dL_law_663 : decode cL_law 663 = .ok (.iconst 2, 1) := by decide +kernel
theorem dL_law_664 : decode cL_law 664 = .ok (.iadd, 1) := by decide +kernel
theorem dL_law_665 : decode cL_law 665 = .ok (.iaload, 1) := by decide +kernel
theorem dL_law_666 : decode cL_law 666 = .ok (.invokevirtual 91, 3) := by decide +kernel
theorem dL_law_669 : decode cL_law 669 = .ok (.aload_n 2, 1) := by decide +kernel
theorem dL_law_670 : decode cL_law 670 = .ok (.aload_n 0, 1) := by decide +kernel
theorem dL_law_671 : decode cL_law 671 = .ok (.iload_n 3, 1) := by decide +kernel
theorem dL_law_672 : decode cL_law 672 = .ok (.iconst 1, 1) := by decide +kernel
theorem dL_law_673 : decode cL_law 673 = .ok (.iadd, 1) := by decide +kernel
theorem dL_law_674 : decode cL_law 674 = .ok (.iaload, 1) := by decide +kernel
theorem dL_law_675 : decode cL_law 675 = .ok (.aload_n 0, 1) := by decide +kernel
theorem dL_law_676 : decode cL_law 676 = .ok (.iload_n 3, 1) := by decide +kernel
theorem dL_law_677 : decode cL_law 677 = .ok (.iconst 2, 1) := by decide +kernel
theorem dL_law_678 : decode cL_law 678 = .ok (.iadd, 1) := by decide +kernel
theorem dL_law_679 : decode cL_law 679 = .ok (.iaload, 1) := by decide +kernel
theorem dL_law_680 : decode cL_law 680 = .ok (.invokevirtual 94, 3) := by decide +kernel
theorem dL_law_683 : decode cL_law 683 = .ok (.lcmp, 1) := by decide +kernel
theorem dL_law_684 : decode cL_law 684 = .ok (.ifCond .eq 370, 3) := by decide +kernel
theorem dL_law_687 : decode cL_law 687 = .ok (.iconst 0, 1) := by decide +kernel
theorem dL_law_688 : decode cL_law 688 = .ok (.ireturn, 1) := by decide +kernel
theorem dL_law_689 : decode cL_law 689 = .ok (.aload_n 1, 1) := by decide +kernel
theorem dL_law_690 : decode cL_law 690 = .ok (.aload_n 0, 1) := by decide +kernel
theorem dL_law_691 : decode cL_law 691 = .ok (.iload_n 3, 1) := by decide +kernel
theorem dL_law_692 : decode cL_law 692 = .ok (.iconst 1, 1) := by decide +kernel
theorem dL_law_693 : decode cL_law 693 = .ok (.iadd, 1) := by decide +kernel
theorem dL_law_694 : decode cL_law 694 = .ok (.iaload, 1) := by decide +kernel
theorem dL_law_695 : decode cL_law 695 = .ok (.invokevirtual 95, 3) := by decide +kernel
theorem dL_law_698 : decode cL_law 698 = .ok (.aload_n 2, 1) := by decide +kernel
theorem dL_law_699 : decode cL_law 699 = .ok (.aload_n 0, 1) := by decide +kernel
theorem dL_law_700 : decode cL_law 700 = .ok (.iload_n 3, 1) := by decide +kernel
theorem dL_law_701 : decode cL_law 701 = .ok (.iconst 1, 1) := by decide +kernel
theorem dL_law_702 : decode cL_law 702 = .ok (.iadd, 1) := by decide +kernel
theorem dL_law_703 : decode cL_law 703 = .ok (.iaload, 1) := by decide +kernel
theorem dL_law_704 : decode cL_law 704 = .ok (.invokevirtual 98, 3) := by decide +kernel
theorem dL_law_707 : decode cL_law 707 = .ok (.lcmp, 1) := by decide +kernel
theorem dL_law_708 : decode cL_law 708 = .ok (.ifCond .eq 346, 3) := by decide +kernel
theorem dL_law_711 : decode cL_law 711 = .ok (.iconst 0, 1) := by decide +kernel
theorem dL_law_712 : decode cL_law 712 = .ok (.ireturn, 1) := by decide +kernel
theorem dL_law_713 : decode cL_law 713 = .ok (.aload_n 1, 1) := by decide +kernel
theorem dL_law_714 : decode cL_law 714 = .ok (.aload_n 0, 1) := by decide +kernel
theorem dL_law_715 : decode cL_law 715 = .ok (.iload_n 3, 1) := by decide +kernel
theorem dL_law_716 : decode cL_law 716 = .ok (.iconst 1, 1) := by decide +kernel
theorem dL_law_717 : decode cL_law 717 = .ok (.iadd, 1) := by decide +kernel
theorem dL_law_718 : decode cL_law 718 = .ok (.iaload, 1) := by decide +kernel
theorem dL_law_719 : decode cL_law 719 = .ok (.aload_n 0, 1) := by decide +kernel
theorem dL_law_720 : decode cL_law 720 = .ok (.iload_n 3, 1) := by decide +kernel
theorem dL_law_721 : decode cL_law 721 = .ok (.iconst 2, 1) := by decide +kernel
theorem dL_law_722 : decode cL_law 722 = .ok (.iadd, 1) := by decide +kernel
theorem dL_law_723 : decode cL_law 723 = .ok (.iaload, 1) := by decide +kernel
theorem dL_law_724 : decode cL_law 724 = .ok (.invokevirtual 99, 3) := by decide +kernel
theorem dL_law_727 : decode cL_law 727 = .ok (.aload_n 2, 1) := by decide +kernel
theorem dL_law_728 : decode cL_law 728 = .ok (.aload_n 0, 1) := by decide +kernel
theorem dL_law_729 : decode cL_law 729 = .ok (.iload_n 3, 1) := by decide +kernel
theorem dL_law_730 : decode cL_law 730 = .ok (.iconst 1, 1) := by decide +kernel
theorem dL_law_731 : decode cL_law 731 = .ok (.iadd, 1) := by decide +kernel
theorem dL_law_732 : decode cL_law 732 = .ok (.iaload, 1) := by decide +kernel
theorem dL_law_733 : decode cL_law 733 = .ok (.aload_n 0, 1) := by decide +kernel
theorem dL_law_734 : decode cL_law 734 = .ok (.iload_n 3, 1) := by decide +kernel
theorem dL_law_735 : decode cL_law 735 = .ok (.iconst 2, 1) := by decide +kernel
theorem dL_law_736 : decode cL_law 736 = .ok (.iadd, 1) := by decide +kernel
theorem dL_law_737 : decode cL_law 737 = .ok (.iaload, 1) := by decide +kernel
theorem dL_law_738 : decode cL_law 738 = .ok (.invokevirtual 102, 3) := by decide +kernel
theorem dL_law_741 : decode cL_law 741 = .ok (.if_icmp .eq 313, 3) := by decide +kernel
theorem dL_law_744 : decode cL_law 744 = .ok (.iconst 0, 1) := by decide +kernel
theorem dL_law_745 : decode cL_law 745 = .ok (.ireturn, 1) := by decide +kernel
theorem dL_law_746 : decode cL_law 746 = .ok (.aload_n 1, 1) := by decide +kernel
theorem dL_law_747 : decode cL_law 747 = .ok (.invokevirtual 103, 3) := by decide +kernel
theorem dL_law_750 : decode cL_law 750 = .ok (.aload_n 2, 1) := by decide +kernel
theorem dL_law_751 : decode cL_law 751 = .ok (.invokevirtual 106, 3) := by decide +kernel
theorem dL_law_754 : decode cL_law 754 = .ok (.if_icmp .eq 300, 3) := by decide +kernel
theorem dL_law_757 : decode cL_law 757 = .ok (.iconst 0, 1) := by decide +kernel
theorem dL_law_758 : decode cL_law 758 = .ok (.ireturn, 1) := by decide +kernel
theorem dL_law_759 : decode cL_law 759 = .ok (.aload_n 1, 1) := by decide +kernel
theorem dL_law_760 : decode cL_law 760 = .ok (.aload_n 0, 1) := by decide +kernel
theorem dL_law_761 : decode cL_law 761 = .ok (.iload_n 3, 1) := by decide +kernel
theorem dL_law_762 : decode cL_law 762 = .ok (.iconst 1, 1) := by decide +kernel
theorem dL_law_763 : decode cL_law 763 = .ok (.iadd, 1) := by decide +kernel
theorem dL_law_764 : decode cL_law 764 = .ok (.iaload, 1) := by decide +kernel
theorem dL_law_765 : decode cL_law 765 = .ok (.aload_n 0, 1) := by decide +kernel
theorem dL_law_766 : decode cL_law 766 = .ok (.iload_n 3, 1) := by decide +kernel
theorem dL_law_767 : decode cL_law 767 = .ok (.iconst 2, 1) := by decide +kernel
theorem dL_law_768 : decode cL_law 768 = .ok (.iadd, 1) := by decide +kernel
theorem dL_law_769 : decode cL_law 769 = .ok (.iaload, 1) := by decide +kernel
theorem dL_law_770 : decode cL_law 770 = .ok (.invokevirtual 107, 3) := by decide +kernel
theorem dL_law_773 : decode cL_law 773 = .ok (.aload_n 2, 1) := by decide +kernel
theorem dL_law_774 : decode cL_law 774 = .ok (.aload_n 0, 1) := by decide +kernel
theorem dL_law_775 : decode cL_law 775 = .ok (.iload_n 3, 1) := by decide +kernel
theorem dL_law_776 : decode cL_law 776 = .ok (.iconst 1, 1) := by decide +kernel
theorem dL_law_777 : decode cL_law 777 = .ok (.iadd, 1) := by decide +kernel
theorem dL_law_778 : decode cL_law 778 = .ok (.iaload, 1) := by decide +kernel
theorem dL_law_779 : decode cL_law 779 = .ok (.aload_n 0, 1) := by decide +kernel
theorem dL_law_780 : decode cL_law 780 = .ok (.iload_n 3, 1) := by decide +kernel
theorem dL_law_781 : decode cL_law 781 = .ok (.iconst 2, 1) := by decide +kernel
theorem dL_law_782 : decode cL_law 782 = .ok (.iadd, 1) := by decide +kernel
theorem dL_law_783 : decode cL_law 783 = .ok (.iaload, 1) := by decide +kernel
theorem dL_law_784 : decode cL_law 784 = .ok (.invokevirtual 110, 3) := by decide +kernel
theorem dL_law_787 : decode cL_law 787 = .ok (.if_icmp .eq 267, 3) := by decide +kernel
theorem dL_law_790 : decode cL_law 790 = .ok (.iconst 0, 1) := by decide +kernel
theorem dL_law_791 : decode cL_law 791 = .ok (.ireturn, 1) := by decide +kernel
theorem dL_law_792 : decode cL_law 792 = .ok (.aload_n 1, 1) := by decide +kernel
theorem dL_law_793 : decode cL_law 793 = .ok (.invokevirtual 111, 3) := by decide +kernel
theorem dL_law_796 : decode cL_law 796 = .ok (.aload_n 2, 1) := by decide +kernel
theorem dL_law_797 : decode cL_law 797 = .ok (.invokevirtual 114, 3) := by decide +kernel
theorem dL_law_800 : decode cL_law 800 = .ok (.if_icmp .eq 254, 3) := by decide +kernel
theorem dL_law_803 : decode cL_law 803 = .ok (.iconst 0, 1) := by decide +kernel
theorem dL_law_804 : decode cL_law 804 = .ok (.ireturn, 1) := by decide +kernel
theorem dL_law_805 : decode cL_law 805 = .ok (.aload_n 1, 1) := by decide +kernel
theorem dL_law_806 : decode cL_law 806 = .ok (.invokevirtual 115, 3) := by decide +kernel
theorem dL_law_809 : decode cL_law 809 = .ok (.aload_n 2, 1) := by decide +kernel
theorem dL_law_810 : decode cL_law 810 = .ok (.invokevirtual 118, 3) := by decide +kernel
theorem dL_law_813 : decode cL_law 813 = .ok (.if_icmp .eq 241, 3) := by decide +kernel
theorem dL_law_816 : decode cL_law 816 = .ok (.iconst 0, 1) := by decide +kernel
theorem dL_law_817 : decode cL_law 817 = .ok (.ireturn, 1) := by decide +kernel
theorem dL_law_818 : decode cL_law 818 = .ok (.aload_n 1, 1) := by decide +kernel
theorem dL_law_819 : decode cL_law 819 = .ok (.aload_n 0, 1) := by decide +kernel
theorem dL_law_820 : decode cL_law 820 = .ok (.iload_n 3, 1) := by decide +kernel
theorem dL_law_821 : decode cL_law 821 = .ok (.iconst 1, 1) := by decide +kernel
theorem dL_law_822 : decode cL_law 822 = .ok (.iadd, 1) := by decide +kernel
theorem dL_law_823 : decode cL_law 823 = .ok (.iaload, 1) := by decide +kernel
theorem dL_law_824 : decode cL_law 824 = .ok (.invokevirtual 119, 3) := by decide +kernel
theorem dL_law_827 : decode cL_law 827 = .ok (.aload_n 2, 1) := by decide +kernel
theorem dL_law_828 : decode cL_law 828 = .ok (.aload_n 0, 1) := by decide +kernel
theorem dL_law_829 : decode cL_law 829 = .ok (.iload_n 3, 1) := by decide +kernel
theorem dL_law_830 : decode cL_law 830 = .ok (.iconst 1, 1) := by decide +kernel
theorem dL_law_831 : decode cL_law 831 = .ok (.iadd, 1) := by decide +kernel
theorem dL_law_832 : decode cL_law 832 = .ok (.iaload, 1) := by decide +kernel
theorem dL_law_833 : decode cL_law 833 = .ok (.invokevirtual 122, 3) := by decide +kernel
theorem dL_law_836 : decode cL_law 836 = .ok (.if_icmp .eq 218, 3) := by decide +kernel
theorem dL_law_839 : decode cL_law 839 = .ok (.iconst 0, 1) := by decide +kernel
theorem dL_law_840 : decode cL_law 840 = .ok (.ireturn, 1) := by decide +kernel
theorem dL_law_841 : decode cL_law 841 = .ok (.aload_n 1, 1) := by decide +kernel
theorem dL_law_842 : decode cL_law 842 = .ok (.aload_n 0, 1) := by decide +kernel
theorem dL_law_843 : decode cL_law 843 = .ok (.iload_n 3, 1) := by decide +kernel
theorem dL_law_844 : decode cL_law 844 = .ok (.iconst 1, 1) := by decide +kernel
theorem dL_law_845 : decode cL_law 845 = .ok (.iadd, 1) := by decide +kernel
theorem dL_law_846 : decode cL_law 846 = .ok (.iaload, 1) := by decide +kernel
theorem dL_law_847 : decode cL_law 847 = .ok (.aload_n 0, 1) := by decide +kernel
theorem dL_law_848 : decode cL_law 848 = .ok (.iload_n 3, 1) := by decide +kernel
theorem dL_law_849 : decode cL_law 849 = .ok (.iconst 2, 1) := by decide +kernel
theorem dL_law_850 : decode cL_law 850 = .ok (.iadd, 1) := by decide +kernel
theorem dL_law_851 : decode cL_law 851 = .ok (.iaload, 1) := by decide +kernel
theorem dL_law_852 : decode cL_law 852 = .ok (.aload_n 0, 1) := by decide +kernel
theorem dL_law_853 : decode cL_law 853 = .ok (.iload_n 3, 1) := by decide +kernel
theorem dL_law_854 : decode cL_law 854 = .ok (.iconst 3, 1) := by decide +kernel
theorem dL_law_855 : decode cL_law 855 = .ok (.iadd, 1) := by decide +kernel
theorem dL_law_856 : decode cL_law 856 = .ok (.iaload, 1) := by decide +kernel
theorem dL_law_857 : decode cL_law 857 = .ok (.invokevirtual 123, 3) := by decide +kernel
theorem dL_law_860 : decode cL_law 860 = .ok (.aload_n 2, 1) := by decide +kernel
theorem dL_law_861 : decode cL_law 861 = .ok (.aload_n 0, 1) := by decide +kernel
theorem dL_law_862 : decode cL_law 862 = .ok (.iload_n 3, 1) := by decide +kernel
theorem dL_law_863 : decode cL_law 863 = .ok (.iconst 1, 1) := by decide +kernel
theorem dL_law_864 : decode cL_law 864 = .ok (.iadd, 1) := by decide +kernel
theorem dL_law_865 : decode cL_law 865 = .ok (.iaload, 1) := by decide +kernel
theorem dL_law_866 : decode cL_law 866 = .ok (.aload_n 0, 1) := by decide +kernel
theorem dL_law_867 : decode cL_law 867 = .ok (.iload_n 3, 1) := by decide +kernel
theorem dL_law_868 : decode cL_law 868 = .ok (.iconst 2, 1) := by decide +kernel
theorem dL_law_869 : decode cL_law 869 = .ok (.iadd, 1) := by decide +kernel
theorem dL_law_870 : decode cL_law 870 = .ok (.iaload, 1) := by decide +kernel
theorem dL_law_871 : decode cL_law 871 = .ok (.aload_n 0, 1) := by decide +kernel
theorem dL_law_872 : decode cL_law 872 = .ok (.iload_n 3, 1) := by decide +kernel
theorem dL_law_873 : decode cL_law 873 = .ok (.iconst 3, 1) := by decide +kernel
theorem dL_law_874 : decode cL_law 874 = .ok (.iadd, 1) := by decide +kernel
theorem dL_law_875 : decode cL_law 875 = .ok (.iaload, 1) := by decide +kernel
theorem dL_law_876 : decode cL_law 876 = .ok (.invokevirtual 126, 3) := by decide +kernel
theorem dL_law_879 : decode cL_law 879 = .ok (.if_icmp .eq 175, 3) := by decide +kernel
theorem dL_law_882 : decode cL_law 882 = .ok (.iconst 0, 1) := by decide +kernel
theorem dL_law_883 : decode cL_law 883 = .ok (.ireturn, 1) := by decide +kernel
theorem dL_law_884 : decode cL_law 884 = .ok (.aload_n 1, 1) := by decide +kernel
theorem dL_law_885 : decode cL_law 885 = .ok (.aload_n 0, 1) := by decide +kernel
theorem dL_law_886 : decode cL_law 886 = .ok (.iload_n 3, 1) := by decide +kernel
theorem dL_law_887 : decode cL_law 887 = .ok (.iconst 1, 1) := by decide +kernel
theorem dL_law_888 : decode cL_law 888 = .ok (.iadd, 1) := by decide +kernel
theorem dL_law_889 : decode cL_law 889 = .ok (.iaload, 1) := by decide +kernel
theorem dL_law_890 : decode cL_law 890 = .ok (.aload_n 0, 1) := by decide +kernel
theorem dL_law_891 : decode cL_law 891 = .ok (.iload_n 3, 1) := by decide +kernel
theorem dL_law_892 : decode cL_law 892 = .ok (.iconst 2, 1) := by decide +kernel
theorem dL_law_893 : decode cL_law 893 = .ok (.iadd, 1) := by decide +kernel
theorem dL_law_894 : decode cL_law 894 = .ok (.iaload, 1) := by decide +kernel
theorem dL_law_895 : decode cL_law 895 = .ok (.aload_n 0, 1) := by decide +kernel
theorem dL_law_896 : decode cL_law 896 = .ok (.iload_n 3, 1) := by decide +kernel
theorem dL_law_897 : decode cL_law 897 = .ok (.iconst 3, 1) := by decide +kernel
theorem dL_law_898 : decode cL_law 898 = .ok (.iadd, 1) := by decide +kernel
theorem dL_law_899 : decode cL_law 899 = .ok (.iaload, 1) := by decide +kernel
theorem dL_law_900 : decode cL_law 900 = .ok (.i2l, 1) := by decide +kernel
theorem dL_law_901 : decode cL_law 901 = .ok (.bipush 32, 2) := by decide +kernel
theorem dL_law_903 : decode cL_law 903 = .ok (.lshl, 1) := by decide +kernel
theorem dL_law_904 : decode cL_law 904 = .ok (.aload_n 0, 1) := by decide +kernel
theorem dL_law_905 : decode cL_law 905 = .ok (.iload_n 3, 1) := by decide +kernel
theorem dL_law_906 : decode cL_law 906 = .ok (.iconst 4, 1) := by decide +kernel
theorem dL_law_907 : decode cL_law 907 = .ok (.iadd, 1) := by decide +kernel
theorem dL_law_908 : decode cL_law 908 = .ok (.iaload, 1) := by decide +kernel
theorem dL_law_909 : decode cL_law 909 = .ok (.i2l, 1) := by decide +kernel
theorem dL_law_910 : decode cL_law 910 = .ok (.ldc2_w 127, 3) := by decide +kernel
theorem dL_law_913 : decode cL_law 913 = .ok (.land, 1) := by decide +kernel
theorem dL_law_914 : decode cL_law 914 = .ok (.lor, 1) := by decide +kernel
theorem dL_law_915 : decode cL_law 915 = .ok (.invokevirtual 129, 3) := by decide +kernel
theorem dL_law_918 : decode cL_law 918 = .ok (.aload_n 2, 1) := by decide +kernel
theorem dL_law_919 : decode cL_law 919 = .ok (.aload_n 0, 1) := by decide +kernel
theorem dL_law_920 : decode cL_law 920 = .ok (.iload_n 3, 1) := by decide +kernel
theorem dL_law_921 : decode cL_law 921 = .ok (.iconst 1, 1) := by decide +kernel
theorem dL_law_922 : decode cL_law 922 = .ok (.iadd, 1) := by decide +kernel
theorem dL_law_923 : decode cL_law 923 = .ok (.iaload, 1) := by decide +kernel
theorem dL_law_924 : decode cL_law 924 = .ok (.aload_n 0, 1) := by decide +kernel
theorem dL_law_925 : decode cL_law 925 = .ok (.iload_n 3, 1) := by decide +kernel
theorem dL_law_926 : decode cL_law 926 = .ok (.iconst 2, 1) := by decide +kernel
theorem dL_law_927 : decode cL_law 927 = .ok (.iadd, 1) := by decide +kernel
theorem dL_law_928 : decode cL_law 928 = .ok (.iaload, 1) := by decide +kernel
theorem dL_law_929 : decode cL_law 929 = .ok (.aload_n 0, 1) := by decide +kernel
theorem dL_law_930 : decode cL_law 930 = .ok (.iload_n 3, 1) := by decide +kernel
theorem dL_law_931 : decode cL_law 931 = .ok (.iconst 3, 1) := by decide +kernel
theorem dL_law_932 : decode cL_law 932 = .ok (.iadd, 1) := by decide +kernel
theorem dL_law_933 : decode cL_law 933 = .ok (.iaload, 1) := by decide +kernel
theorem dL_law_934 : decode cL_law 934 = .ok (.i2l, 1) := by decide +kernel
theorem dL_law_935 : decode cL_law 935 = .ok (.bipush 32, 2) := by decide +kernel
theorem dL_law_937 : decode cL_law 937 = .ok (.lshl, 1) := by decide +kernel
theorem dL_law_938 : decode cL_law 938 = .ok (.aload_n 0, 1) := by decide +kernel
theorem dL_law_939 : decode cL_law 939 = .ok (.iload_n 3, 1) := by decide +kernel
theorem dL_law_940 : decode cL_law 940 = .ok (.iconst 4, 1) := by decide +kernel
theorem dL_law_941 : decode cL_law 941 = .ok (.iadd, 1) := by decide +kernel
theorem dL_law_942 : decode cL_law 942 = .ok (.iaload, 1) := by decide +kernel
theorem dL_law_943 : decode cL_law 943 = .ok (.i2l, 1) := by decide +kernel
theorem dL_law_944 : decode cL_law 944 = .ok (.ldc2_w 127, 3) := by decide +kernel
theorem dL_law_947 : decode cL_law 947 = .ok (.land, 1) := by decide +kernel
theorem dL_law_948 : decode cL_law 948 = .ok (.lor, 1) := by decide +kernel
theorem dL_law_949 : decode cL_law 949 = .ok (.invokevirtual 133, 3) := by decide +kernel
theorem dL_law_952 : decode cL_law 952 = .ok (.if_icmp .eq 102, 3) := by decide +kernel
theorem dL_law_955 : decode cL_law 955 = .ok (.iconst 0, 1) := by decide +kernel
theorem dL_law_956 : decode cL_law 956 = .ok (.ireturn, 1) := by decide +kernel
theorem dL_law_957 : decode cL_law 957 = .ok (.aload_n 1, 1) := by decide +kernel
theorem dL_law_958 : decode cL_law 958 = .ok (.aload_n 0, 1) := by decide +kernel
theorem dL_law_959 : decode cL_law 959 = .ok (.iload_n 3, 1) := by decide +kernel
theorem dL_law_960 : decode cL_law 960 = .ok (.iconst 1, 1) := by decide +kernel
theorem dL_law_961 : decode cL_law 961 = .ok (.iadd, 1) := by decide +kernel
theorem dL_law_962 : decode cL_law 962 = .ok (.iaload, 1) := by decide +kernel
theorem dL_law_963 : decode cL_law 963 = .ok (.aload_n 0, 1) := by decide +kernel
theorem dL_law_964 : decode cL_law 964 = .ok (.iload_n 3, 1) := by decide +kernel
theorem dL_law_965 : decode cL_law 965 = .ok (.iconst 2, 1) := by decide +kernel
theorem dL_law_966 : decode cL_law 966 = .ok (.iadd, 1) := by decide +kernel
theorem dL_law_967 : decode cL_law 967 = .ok (.iaload, 1) := by decide +kernel
theorem dL_law_968 : decode cL_law 968 = .ok (.invokevirtual 134, 3) := by decide +kernel
theorem dL_law_971 : decode cL_law 971 = .ok (.aload_n 2, 1) := by decide +kernel
theorem dL_law_972 : decode cL_law 972 = .ok (.aload_n 0, 1) := by decide +kernel
theorem dL_law_973 : decode cL_law 973 = .ok (.iload_n 3, 1) := by decide +kernel
theorem dL_law_974 : decode cL_law 974 = .ok (.iconst 1, 1) := by decide +kernel
theorem dL_law_975 : decode cL_law 975 = .ok (.iadd, 1) := by decide +kernel
theorem dL_law_976 : decode cL_law 976 = .ok (.iaload, 1) := by decide +kernel
theorem dL_law_977 : decode cL_law 977 = .ok (.aload_n 0, 1) := by decide +kernel
theorem dL_law_978 : decode cL_law 978 = .ok (.iload_n 3, 1) := by decide +kernel
theorem dL_law_979 : decode cL_law 979 = .ok (.iconst 2, 1) := by decide +kernel
theorem dL_law_980 : decode cL_law 980 = .ok (.iadd, 1) := by decide +kernel
theorem dL_law_981 : decode cL_law 981 = .ok (.iaload, 1) := by decide +kernel
theorem dL_law_982 : decode cL_law 982 = .ok (.invokevirtual 137, 3) := by decide +kernel
theorem dL_law_985 : decode cL_law 985 = .ok (.lcmp, 1) := by decide +kernel
theorem dL_law_986 : decode cL_law 986 = .ok (.ifCond .eq 68, 3) := by decide +kernel
theorem dL_law_989 : decode cL_law 989 = .ok (.iconst 0, 1) := by decide +kernel
theorem dL_law_990 : decode cL_law 990 = .ok (.ireturn, 1) := by decide +kernel
theorem dL_law_991 : decode cL_law 991 = .ok (.aload_n 1, 1) := by decide +kernel
theorem dL_law_992 : decode cL_law 992 = .ok (.aload_n 0, 1) := by decide +kernel
theorem dL_law_993 : decode cL_law 993 = .ok (.iload_n 3, 1) := by decide +kernel
theorem dL_law_994 : decode cL_law 994 = .ok (.iconst 1, 1) := by decide +kernel
theorem dL_law_995 : decode cL_law 995 = .ok (.iadd, 1) := by decide +kernel
theorem dL_law_996 : decode cL_law 996 = .ok (.iaload, 1) := by decide +kernel
theorem dL_law_997 : decode cL_law 997 = .ok (.aload_n 0, 1) := by decide +kernel
theorem dL_law_998 : decode cL_law 998 = .ok (.iload_n 3, 1) := by decide +kernel
theorem dL_law_999 : decode cL_law 999 = .ok (.iconst 2, 1) := by decide +kernel
theorem dL_law_1000 : decode cL_law 1000 = .ok (.iadd, 1) := by decide +kernel
theorem dL_law_1001 : decode cL_law 1001 = .ok (.iaload, 1) := by decide +kernel
theorem dL_law_1002 : decode cL_law 1002 = .ok (.aload_n 0, 1) := by decide +kernel
theorem dL_law_1003 : decode cL_law 1003 = .ok (.iload_n 3, 1) := by decide +kernel
theorem dL_law_1004 : decode cL_law 1004 = .ok (.iconst 3, 1) := by decide +kernel
theorem dL_law_1005 : decode cL_law 1005 = .ok (.iadd, 1) := by decide +kernel
theorem dL_law_1006 : decode cL_law 1006 = .ok (.iaload, 1) := by decide +kernel
theorem dL_law_1007 : decode cL_law 1007 = .ok (.aload_n 0, 1) := by decide +kernel
theorem dL_law_1008 : decode cL_law 1008 = .ok (.iload_n 3, 1) := by decide +kernel
theorem dL_law_1009 : decode cL_law 1009 = .ok (.iconst 4, 1) := by decide +kernel
theorem dL_law_1010 : decode cL_law 1010 = .ok (.iadd, 1) := by decide +kernel
theorem dL_law_1011 : decode cL_law 1011 = .ok (.iaload, 1) := by decide +kernel
theorem dL_law_1012 : decode cL_law 1012 = .ok (.aload_n 0, 1) := by decide +kernel
theorem dL_law_1013 : decode cL_law 1013 = .ok (.iload_n 3, 1) := by decide +kernel
theorem dL_law_1014 : decode cL_law 1014 = .ok (.iconst 5, 1) := by decide +kernel
theorem dL_law_1015 : decode cL_law 1015 = .ok (.iadd, 1) := by decide +kernel
theorem dL_law_1016 : decode cL_law 1016 = .ok (.iaload, 1) := by decide +kernel
theorem dL_law_1017 : decode cL_law 1017 = .ok (.invokevirtual 138, 3) := by decide +kernel
theorem dL_law_1020 : decode cL_law 1020 = .ok (.aload_n 2, 1) := by decide +kernel
theorem dL_law_1021 : decode cL_law 1021 = .ok (.aload_n 0, 1) := by decide +kernel
theorem dL_law_1022 : decode cL_law 1022 = .ok (.iload_n 3, 1) := by decide +kernel
theorem dL_law_1023 : decode cL_law 1023 = .ok (.iconst 1, 1) := by decide +kernel
theorem dL_law_1024 : decode cL_law 1024 = .ok (.iadd, 1) := by decide +kernel
theorem dL_law_1025 : decode cL_law 1025 = .ok (.iaload, 1) := by decide +kernel
theorem dL_law_1026 : decode cL_law 1026 = .ok (.aload_n 0, 1) := by decide +kernel
theorem dL_law_1027 : decode cL_law 1027 = .ok (.iload_n 3, 1) := by decide +kernel
theorem dL_law_1028 : decode cL_law 1028 = .ok (.iconst 2, 1) := by decide +kernel
theorem dL_law_1029 : decode cL_law 1029 = .ok (.iadd, 1) := by decide +kernel
theorem dL_law_1030 : decode cL_law 1030 = .ok (.iaload, 1) := by decide +kernel
theorem dL_law_1031 : decode cL_law 1031 = .ok (.aload_n 0, 1) := by decide +kernel
theorem dL_law_1032 : decode cL_law 1032 = .ok (.iload_n 3, 1) := by decide +kernel
theorem dL_law_1033 : decode cL_law 1033 = .ok (.iconst 3, 1) := by decide +kernel
theorem dL_law_1034 : decode cL_law 1034 = .ok (.iadd, 1) := by decide +kernel
theorem dL_law_1035 : decode cL_law 1035 = .ok (.iaload, 1) := by decide +kernel
theorem dL_law_1036 : decode cL_law 1036 = .ok (.aload_n 0, 1) := by decide +kernel
theorem dL_law_1037 : decode cL_law 1037 = .ok (.iload_n 3, 1) := by decide +kernel
theorem dL_law_1038 : decode cL_law 1038 = .ok (.iconst 4, 1) := by decide +kernel
theorem dL_law_1039 : decode cL_law 1039 = .ok (.iadd, 1) := by decide +kernel
theorem dL_law_1040 : decode cL_law 1040 = .ok (.iaload, 1) := by decide +kernel
theorem dL_law_1041 : decode cL_law 1041 = .ok (.aload_n 0, 1) := by decide +kernel
theorem dL_law_1042 : decode cL_law 1042 = .ok (.iload_n 3, 1) := by decide +kernel
theorem dL_law_1043 : decode cL_law 1043 = .ok (.iconst 5, 1) := by decide +kernel
theorem dL_law_1044 : decode cL_law 1044 = .ok (.iadd, 1) := by decide +kernel
theorem dL_law_1045 : decode cL_law 1045 = .ok (.iaload, 1) := by decide +kernel
theorem dL_law_1046 : decode cL_law 1046 = .ok (.invokevirtual 142, 3) := by decide +kernel
theorem dL_law_1049 : decode cL_law 1049 = .ok (.if_icmp .eq 5, 3) := by decide +kernel
theorem dL_law_1052 : decode cL_law 1052 = .ok (.iconst 0, 1) := by decide +kernel
theorem dL_law_1053 : decode cL_law 1053 = .ok (.ireturn, 1) := by decide +kernel
theorem dL_law_1054 : decode cL_law 1054 = .ok (.iinc 3 6, 3) := by decide +kernel
theorem dL_law_1057 : decode cL_law 1057 = .ok (.goto (-1039), 3) := by decide +kernel
theorem dL_law_1060 : decode cL_law 1060 = .ok (.iconst 1, 1) := by decide +kernel
theorem dL_law_1061 : decode cL_law 1061 = .ok (.ireturn, 1) := by decide +kernel
end
section
theorem GG_self {c : Cond} (hc : c ∈ GG) : GoodIn GG (c :: GG) := by
  intro w hw
  have h : w ∈ GG := (List.mem_cons.mp hw).elim (fun e => by rw [e]; exact hc) id
  exact ⟨h, good_of_word (GG_good h)⟩
/-- the tables: static arrays of the class that nobody writes -/
def tbLeast : Nat → Int32 := fun j => ([-300, -400, 1, 0, -20, 0, 1] : List Int32).getD j 0
def tbMost : Nat → Int32 := fun j => ([300, 400, 32, 9, 20, 60, 99] : List Int32).getD j 0
def tbAhead : Nat → Int32 := fun j => ([0, 1, 5, 9, 10, 7] : List Int32).getD j 0
def tbPLeast : Nat → Int32 := fun j => ([-99, -99, -20, 0] : List Int32).getD j 0
def tbPMost : Nat → Int32 := fun j => ([99, 99, 20, 9] : List Int32).getD j 0
def tbLetters : Nat → Int32 := fun j => ([97, 118, 115, 103, 111, 102, 108, 119, 116] : List Int32).getD j 0
def jT (t : Nat) (nm d : String) (ty : FieldType) (N : Nat) (f : Nat → Int32) (A : Nat → Prop) (U : State) (H : Heap) : Prop := va_Z RX8 nm d (.ref t) A U H ∧ va_T ty t N (fun j => .int (f j)) A U H
/-- links of nest mates -/
def jNs : List Cond := [Cond.methodLinkNest RX8 11 yX7_init "WatchBeats", Cond.methodLinkNest RX0 23 yX2_init "WatchBeats", Cond.methodLinkNest RX7 20 yX6_init "WatchBeats", Cond.methodLinkNest RX7 27 yX3_init "WatchBeats", Cond.methodLinkNest RX8 32 yX1_init "WatchBeats", Cond.methodLinkNest RX8 39 yX5_init "WatchBeats", Cond.methodLinkNest RX8 50 yX4_init "WatchBeats", Cond.fieldLinkNest "WatchBeats$Text" 43 "WatchBeats" "LETTERS" "[C" "WatchBeats", Cond.methodLinkNest RX5 47 yX8_isBetween "WatchBeats"]
def jZ (tt : Nat → Nat) (A : Nat → Prop) (U : State) (H : Heap) : Prop :=
  jT (tt 0) "LEAST" "[I" .int 7 tbLeast A U H ∧ jT (tt 1) "MOST" "[I" .int 7 tbMost A U H ∧ jT (tt 2) "TOLD_AHEAD" "[I" .int 6 tbAhead A U H ∧ jT (tt 3) "PUSH_LEAST" "[I" .int 4 tbPLeast A U H ∧ jT (tt 4) "PUSH_MOST" "[I" .int 4 tbPMost A U H ∧ jT (tt 5) "LETTERS" "[C" .char 9 tbLetters A U H ∧ (∀ w ∈ jNs, va_Nw w U) ∧ va_AO "WatchBeats$Tape" U
theorem jT.to {t : Nat} {nm d : String} {ty : FieldType} {N : Nat} {f : Nat → Int32} {A B : Nat → Prop} {s U : State} {H H1 : Heap} (hvm : s.vm.Alike U.vm) (hq : ∀ a : Nat, a < H.size → ¬ A a → H1[a]? = H[a]?) (hB : ∀ q, B q → A q) (h : jT t nm d ty N f A s H) : jT t nm d ty N f B U H1 :=
  ⟨((h.1.kept hq).narrow hB).moved hvm, ((h.2.kept hq).narrow hB).moved hvm⟩
theorem jNs_warm {s U : State} (hW : s.WarmedH U.vm) (h : ∀ w ∈ jNs, va_Nw w s) : ∀ w ∈ jNs, va_Nw w U := by
  intro w hw
  have h0 := h w hw
  simp only [jNs, List.mem_cons, List.not_mem_nil, or_false] at hw
  rcases hw with rfl | rfl | rfl | rfl | rfl | rfl | rfl | rfl | rfl <;> first | exact va_Nw.warmM hW h0 | exact va_Nw.warmF hW h0
theorem jNs_same {s U : State} (hv : s.vm = U.vm) (h : ∀ w ∈ jNs, va_Nw w s) : ∀ w ∈ jNs, va_Nw w U := by
  intro w hw
  have h0 := h w hw
  simp only [jNs, List.mem_cons, List.not_mem_nil, or_false] at hw
  rcases hw with rfl | rfl | rfl | rfl | rfl | rfl | rfl | rfl | rfl <;> exact va_Nw.same rfl hv h0
theorem jZ.to {tt : Nat → Nat} {A B : Nat → Prop} {s U : State} {H H1 : Heap} (hW : s.WarmedH U.vm) (hq : ∀ a : Nat, a < H.size → ¬ A a → H1[a]? = H[a]?) (hB : ∀ q, B q → A q) (h : jZ tt A s H) : jZ tt B U H1 := by
  obtain ⟨h0, h1, h2, h3, h4, h5, h6, h7⟩ := h
  have hv := hW.alike
  exact ⟨h0.to hv hq hB, h1.to hv hq hB, h2.to hv hq hB, h3.to hv hq hB, h4.to hv hq hB, h5.to hv hq hB, jNs_warm hW h6, h7.moved hv⟩
theorem jZ.blind {tt : Nat → Nat} {A : Nat → Prop} {U U2 : State} {H : Heap} (hv : U.vm = U2.vm) (h : jZ tt A U H) : jZ tt A U2 H := by
  obtain ⟨h0, h1, h2, h3, h4, h5, h6, h7⟩ := h
  have ha : U.vm.Alike U2.vm := by rw [hv]; exact Vm.Alike.refl _
  have hk : ∀ a : Nat, a < H.size → ¬ A a → H[a]? = H[a]? := fun _ _ _ => rfl
  have hB : ∀ q, A q → A q := fun _ h => h
  exact ⟨h0.to ha hk hB, h1.to ha hk hB, h2.to ha hk hB, h3.to ha hk hB, h4.to ha hk hB, h5.to ha hk hB, jNs_same hv h6, h7.moved ha⟩
/-- an index within, as a program asks it -/
def inb (i : Int32) (N : Nat) : Bool := !decide (i < 0) && decide (i.toNatClampNeg < N)
theorem inb_in {i : Int32} {N : Nat} (h : inb i N = true) : vp_in i N := by
  simp only [inb, Bool.and_eq_true, Bool.not_eq_true', decide_eq_false_iff_not, decide_eq_true_eq] at h
  intro q
  rcases q with q | q
  · exact h.1 q
  · omega
theorem in_inb {i : Int32} {N : Nat} (h0 : ¬ i < 0) (h : i.toNatClampNeg < N) : inb i N = true := by
  simp [inb, h0, h]
/-- guards, names, binds of the pictures of methods -/
def gd {α : Type} (b : Bool) (x : Option α) : Option α := if b = true then x else none
theorem gd_some {α : Type} {b : Bool} {x : Option α} {r : α} (h : gd b x = some r) : b = true ∧ x = some r := by
  cases b with
  | true => exact ⟨rfl, h⟩
  | false => cases h
theorem gd_t {α : Type} {b : Bool} {x : Option α} (h : b = true) : gd b x = x := by rw [h]; rfl
def lt' {α β : Type} (v : α) (K : α → Option β) : Option β := K v
theorem lt_some {α β : Type} {v : α} {K : α → Option β} {r : β} (h : lt' v K = some r) : ∃ x, v = x ∧ K x = some r := ⟨v, rfl, h⟩
theorem lt_eq {α β : Type} (v : α) (K : α → Option β) : lt' v K = K v := rfl
theorem bd_some {α β : Type} {x : Option α} {K : α → Option β} {r : β} (h : x.bind K = some r) : ∃ o, x = some o ∧ K o = some r := by
  cases x with
  | none => cases h
  | some o => exact ⟨o, rfl, h⟩
def zb (v : Int32) : Bool := decide (v = 0) || decide (v = 1)
theorem zb_nar {v : Int32} (h : zb v = true) : narrow .boolean (.int v) = .int v := by
  simp only [zb, Bool.or_eq_true, decide_eq_true_eq] at h
  rcases h with rfl | rfl <;> rfl
def oq {α : Type} (r : Option Nat) (x : Option α) (a : Nat) (y : Option α) : Option α := match r with
  | none => x
  | some b => if b = a then y else none
theorem oq_some {α : Type} {r : Option Nat} {x : Option α} {a : Nat} {y : Option α} {z : α} (h : oq r x a y = some z) : (r = none ∧ x = some z) ∨ (r = some a ∧ y = some z) := by
  cases r with
  | none => exact Or.inl ⟨rfl, h⟩
  | some b =>
    by_cases hb : b = a
    · exact Or.inr ⟨by rw [hb], by rw [← h]; exact (if_pos hb).symm⟩
    · rw [show oq (some b) x a y = none from if_neg hb] at h
      cases h
def jC (p : Program) (s : State) (m : MethodId) (args : Array Value) (meth : Method) (c : Code) (cc : ByteArray) (own : String) (D : va_G) (tys : List (ClassId × FieldType)) (tt : Nat → Nat) (A : Nat → Prop) (n : Nat) : Prop :=
  p.tables.exec = Jvm.exec ∧ c.code = cc ∧ c.maxLocals = n ∧ s.vm.findClass own = some m.cls ∧ (∀ w ∈ GG, w.before args s = true) ∧ va_K D vwCl tys s ∧ (∀ q : Nat, s.heap.size ≤ q → A q) ∧ jZ tt A s s.heap ∧ meth.locks = false
def jW (p : Program) (l : Launch) (e : Env) (R : Room) (s : State) (m : MethodId) (args : Array Value) (below : List Frame) (meth : Method) (c : Code) (D : va_G) (A : Nat → Prop) (n : Nat) (Q : State → Prop) (cells slots : Nat) (pc : Nat) (lv : List (Nat × Value)) (st : List Value) (ws : va_W) : Prop :=
  ∀ (H : Heap) (locs : List Loc) (ls : Array Slot), va_P D vwCl ws H → va_D A ws → va_S A s.heap H locs → lv_has ls n lv → W p l e R s m args below meth c H locs cells slots Q (F0 m pc ls st)
def jQ (D : va_G) (o : Option Value) (ws' : va_W) (A : Nat → Prop) : Array Value → State → Outcome → State → Prop := fun _ st oc t => (oc = .returned o ∧ va_P D vwCl ws' t.heap) ∧ va_F A st t
def jPre (D : va_G) (tys : List (ClassId × FieldType)) (tt : Nat → Nat) (ws : va_W) (sz : Nat) : State → Prop := fun U => U.heap.size = sz ∧ va_P D vwCl ws U.heap ∧ va_K D vwCl tys U ∧ va_D (fun _ => True) ws ∧ jZ tt (va_A ws sz) U U.heap
/-- a method's contract: from the world ws it returns o and leaves the world ws', new cells none -/
def jM (l : Launch) (y : MethodName) (cw : Cond) (rm : Room) (D : va_G) (tys : List (ClassId × FieldType)) (tt : Nat → Nat) (av : List Value) (ws : va_W) (o : Option Value) (ws' : va_W) : Prop :=
  ∀ sz : Nat, Met l y (cw :: GG) rm (va_Pc av (jPre D tys tt ws sz)) (jQ D o ws' (va_A ws sz)) 0 0 (va_A ws sz)
theorem jPre.blind {D : va_G} {tys : List (ClassId × FieldType)} {tt : Nat → Nat} {ws : va_W} {sz : Nat} {av : List Value} : FrameBlind (va_Pc av (jPre D tys tt ws sz)) := fun a U g mk q => by
  obtain ⟨q0, q1, qP, qK, qD, qZ⟩ := q
  exact ⟨q0, q1, qP, va_K.moved (u := U) (U := U.calling g mk a) (Vm.Alike.refl U.vm) qK, qD, jZ.blind (U := U) (U2 := U.calling g mk a) rfl qZ⟩
set_option maxHeartbeats 4000000 in
theorem jM.of {l : Launch} {y : MethodName} {cc : ByteArray} {maxL : Nat} {ret : Option FieldType} {rm : Room} {D : va_G} {tys : List (ClassId × FieldType)} {tt : Nat → Nat} {av : List Value} {ws : va_W} {o : Option Value} {ws' : va_W} (hy : plainName y.cls = true) (hn : (lg_sl av).length ≤ maxL)
    (body : ∀ (p : Program) (e : Env) (s : State) (m : MethodId) (below : List Frame) (meth : Method) (c : Code) (A : Nat → Prop), jC p s m av.toArray meth c cc y.cls D tys tt A maxL → meth.sig.returnType = ret →
      jW p l e rm s m av.toArray below meth c D A maxL (MQ below (jQ D o ws' A) av.toArray s 0 0 A) 0 0 0 (lv_args 0 av) [] ws) : jM l y (.code y cc maxL ret) rm D tys tt av ws o ws' := by
  intro sz
  refine Met.ofW (cc := cc) (maxL := maxL) (ret := ret) hy rfl ?_
  intro p e s m args below meth c s₁ B hml hv
  obtain ⟨rfl, hsz, hP, hK, hD0, hZ⟩ := hv
  have hts := atoms_spec (ws := Cond.code y cc maxL ret :: GG) B.pre
  subst hsz
  have hD := hD0.self (sz := s.heap.size)
  rw [lg_entry_eq]
  have hl := lv_entry av hn
  exact body p e s m below meth c (va_A ws s.heap.size) ⟨B.exec, B.bytes, hml, findClass_of_methodNamed B.named, fun w h => hts w (List.mem_cons_of_mem _ h), hK, fun q h => Or.inr h, hZ, B.notSynchronized⟩ B.returns s.heap [] _ hP hD va_S.rf hl
section JROWS
variable {p : Program} {l : Launch} {e : Env} {R : Room} {s : State} {m : MethodId} {args : Array Value} {below : List Frame} {meth : Method} {c : Code} {cc : ByteArray} {own : String} {D : va_G} {tys : List (ClassId × FieldType)} {tt : Nat → Nat} {A : Nat → Prop} {n : Nat} {Q : State → Prop} {cells slots : Nat} {pc : Nat} {lv : List (Nat × Value)} {st : List Value} {ws : va_W}
theorem jC.hts (X : jC p s m args meth c cc own D tys tt A n) : ∀ w ∈ GG, w.before args s = true := X.2.2.2.2.1
theorem jC.ow (X : jC p s m args meth c cc own D tys tt A n) : s.vm.findClass own = some m.cls := X.2.2.2.1
theorem jC.K (X : jC p s m args meth c cc own D tys tt A n) : va_K D vwCl tys s := X.2.2.2.2.2.1
theorem jC.hA (X : jC p s m args meth c cc own D tys tt A n) : ∀ q : Nat, s.heap.size ≤ q → A q := X.2.2.2.2.2.2.1
theorem jC.Z (X : jC p s m args meth c cc own D tys tt A n) : jZ tt A s s.heap := X.2.2.2.2.2.2.2.1
theorem jC.lk (X : jC p s m args meth c cc own D tys tt A n) : meth.locks = false := X.2.2.2.2.2.2.2.2
/-- the goal's parts, named otherwise -/
theorem j_eq {st2 : List Value} {ws2 : va_W} (hst : st = st2) (hws : ws = ws2) (kk : jW p l e R s m args below meth c D A n Q cells slots (pc) lv (st2) ws2) : jW p l e R s m args below meth c D A n Q cells slots (pc) lv (st) ws := by
  subst hst; subst hws; exact kk
theorem j_sub {lv2 : List (Nat × Value)} (ks : List Nat) (hl : lv_pick lv ks = lv2) (kk : jW p l e R s m args below meth c D A n Q cells slots (pc) lv2 (st) ws) : jW p l e R s m args below meth c D A n Q cells slots (pc) lv (st) ws := fun H locs ls hP hD hS h => kk H locs ls hP hD hS (lv_sub h ks hl)
theorem j_iconst {k : Int} {v : Int32} (X : jC p s m args meth c cc own D tys tt A n) (hdg : decode cc pc = .ok (.iconst k, 1)) (hv : Int32.ofInt k = v) (kk : jW p l e R s m args below meth c D A n Q cells slots (pc + 1) lv (.int v :: st) ws) : jW p l e R s m args below meth c D A n Q cells slots (pc) lv (st) ws :=
  fun H locs ls hP hD hS h => lv_iconst X.1 X.2.1 hdg hv (kk H locs ls hP hD hS h)
theorem j_bipush {k : Int} {v : Int32} (X : jC p s m args meth c cc own D tys tt A n) (hdg : decode cc pc = .ok (.bipush k, 2)) (hv : (Int8.ofInt k).toInt32 = v) (kk : jW p l e R s m args below meth c D A n Q cells slots (pc + 2) lv (.int v :: st) ws) : jW p l e R s m args below meth c D A n Q cells slots (pc) lv (st) ws :=
  fun H locs ls hP hD hS h => lv_bipush X.1 X.2.1 hdg hv (kk H locs ls hP hD hS h)
theorem j_sipush {k : Int} {v : Int32} (X : jC p s m args meth c cc own D tys tt A n) (hdg : decode cc pc = .ok (.sipush k, 3)) (hv : (Int16.ofInt k).toInt32 = v) (kk : jW p l e R s m args below meth c D A n Q cells slots (pc + 3) lv (.int v :: st) ws) : jW p l e R s m args below meth c D A n Q cells slots (pc) lv (st) ws :=
  fun H locs ls hP hD hS h => lv_sipush X.1 X.2.1 hdg hv (kk H locs ls hP hD hS h)
theorem j_lconst {k : Fin 2} {v : Int64} (X : jC p s m args meth c cc own D tys tt A n) (hdg : decode cc pc = .ok (.lconst k, 1)) (hv : Int64.ofNat (k : Nat) = v) (kk : jW p l e R s m args below meth c D A n Q cells slots (pc + 1) lv (.long v :: st) ws) : jW p l e R s m args below meth c D A n Q cells slots (pc) lv (st) ws :=
  fun H locs ls hP hD hS h => lv_lconst X.1 X.2.1 hdg hv (kk H locs ls hP hD hS h)
theorem j_null (X : jC p s m args meth c cc own D tys tt A n) (hdg : decode cc pc = .ok (.aconst_null, 1)) (kk : jW p l e R s m args below meth c D A n Q cells slots (pc + 1) lv (.null :: st) ws) : jW p l e R s m args below meth c D A n Q cells slots (pc) lv (st) ws :=
  fun H locs ls hP hD hS h => lv_null X.1 X.2.1 hdg (kk H locs ls hP hD hS h)
theorem j_iload_n {k : Fin 4} {x : Int32} (X : jC p s m args meth c cc own D tys tt A n) (hdg : decode cc pc = .ok (.iload_n k, 1)) (q : Nat) (hl : lv[q]? = some ((k : Nat), .int x)) (kk : jW p l e R s m args below meth c D A n Q cells slots (pc + 1) lv (.int x :: st) ws) : jW p l e R s m args below meth c D A n Q cells slots (pc) lv (st) ws :=
  fun H locs ls hP hD hS h => lv_iload_n X.1 X.2.1 hdg rfl (lv_at h q hl) (kk H locs ls hP hD hS h)
theorem j_iload {i : Nat} {x : Int32} (X : jC p s m args meth c cc own D tys tt A n) (hdg : decode cc pc = .ok (.iload i, 2)) (q : Nat) (hl : lv[q]? = some (i, .int x)) (kk : jW p l e R s m args below meth c D A n Q cells slots (pc + 2) lv (.int x :: st) ws) : jW p l e R s m args below meth c D A n Q cells slots (pc) lv (st) ws :=
  fun H locs ls hP hD hS h => lv_iload X.1 X.2.1 hdg (lv_at h q hl) (kk H locs ls hP hD hS h)
theorem j_lload_n {k : Fin 4} {x : Int64} (X : jC p s m args meth c cc own D tys tt A n) (hdg : decode cc pc = .ok (.lload_n k, 1)) (q : Nat) (hl : lv[q]? = some ((k : Nat), .long x)) (kk : jW p l e R s m args below meth c D A n Q cells slots (pc + 1) lv (.long x :: st) ws) : jW p l e R s m args below meth c D A n Q cells slots (pc) lv (st) ws :=
  fun H locs ls hP hD hS h => lv_lload_n X.1 X.2.1 hdg rfl (lv_at h q hl) (kk H locs ls hP hD hS h)
theorem j_lload {i : Nat} {x : Int64} (X : jC p s m args meth c cc own D tys tt A n) (hdg : decode cc pc = .ok (.lload i, 2)) (q : Nat) (hl : lv[q]? = some (i, .long x)) (kk : jW p l e R s m args below meth c D A n Q cells slots (pc + 2) lv (.long x :: st) ws) : jW p l e R s m args below meth c D A n Q cells slots (pc) lv (st) ws :=
  fun H locs ls hP hD hS h => lv_lload X.1 X.2.1 hdg (lv_at h q hl) (kk H locs ls hP hD hS h)
theorem j_aload_n {k : Fin 4} {x : Nat} (X : jC p s m args meth c cc own D tys tt A n) (hdg : decode cc pc = .ok (.aload_n k, 1)) (q : Nat) (hl : lv[q]? = some ((k : Nat), .ref x)) (kk : jW p l e R s m args below meth c D A n Q cells slots (pc + 1) lv (.ref x :: st) ws) : jW p l e R s m args below meth c D A n Q cells slots (pc) lv (st) ws :=
  fun H locs ls hP hD hS h => lv_aload_n X.1 X.2.1 hdg rfl (lv_at h q hl) (kk H locs ls hP hD hS h)
theorem j_aload {i : Nat} {x : Nat} (X : jC p s m args meth c cc own D tys tt A n) (hdg : decode cc pc = .ok (.aload i, 2)) (q : Nat) (hl : lv[q]? = some (i, .ref x)) (kk : jW p l e R s m args below meth c D A n Q cells slots (pc + 2) lv (.ref x :: st) ws) : jW p l e R s m args below meth c D A n Q cells slots (pc) lv (st) ws :=
  fun H locs ls hP hD hS h => lv_aload X.1 X.2.1 hdg (lv_at h q hl) (kk H locs ls hP hD hS h)
theorem j_aload_nN {k : Fin 4} (X : jC p s m args meth c cc own D tys tt A n) (hdg : decode cc pc = .ok (.aload_n k, 1)) (q : Nat) (hl : lv[q]? = some ((k : Nat), .null)) (kk : jW p l e R s m args below meth c D A n Q cells slots (pc + 1) lv (.null :: st) ws) : jW p l e R s m args below meth c D A n Q cells slots (pc) lv (st) ws :=
  fun H locs ls hP hD hS h => lv_aload_nN X.1 X.2.1 hdg rfl (lv_at h q hl) (kk H locs ls hP hD hS h)
theorem j_aloadN {i : Nat} (X : jC p s m args meth c cc own D tys tt A n) (hdg : decode cc pc = .ok (.aload i, 2)) (q : Nat) (hl : lv[q]? = some (i, .null)) (kk : jW p l e R s m args below meth c D A n Q cells slots (pc + 2) lv (.null :: st) ws) : jW p l e R s m args below meth c D A n Q cells slots (pc) lv (st) ws :=
  fun H locs ls hP hD hS h => lv_aloadN X.1 X.2.1 hdg (lv_at h q hl) (kk H locs ls hP hD hS h)
theorem j_istore_n {k : Fin 4} {x : Int32} {lv2 : List (Nat × Value)} (X : jC p s m args meth c cc own D tys tt A n) (hdg : decode cc pc = .ok (.istore_n k, 1)) (hn : (k : Nat) < n) (hl : ((k : Nat), Value.int x) :: lv.filter (fun q => !(q.1 == (k : Nat)) && !(q.1 + 1 == (k : Nat) && q.2.category == 2)) = lv2) (kk : jW p l e R s m args below meth c D A n Q cells slots (pc + 1) lv2 (st) ws) : jW p l e R s m args below meth c D A n Q cells slots (pc) lv (.int x :: st) ws :=
  fun H locs ls hP hD hS h => lv_istore_n X.1 X.2.1 hdg rfl h hn hl (fun ls2 h2 => kk H locs ls2 hP hD hS h2)
theorem j_istore {i : Nat} {x : Int32} {lv2 : List (Nat × Value)} (X : jC p s m args meth c cc own D tys tt A n) (hdg : decode cc pc = .ok (.istore i, 2)) (hn : i < n) (hl : (i, Value.int x) :: lv.filter (fun q => !(q.1 == i) && !(q.1 + 1 == i && q.2.category == 2)) = lv2) (kk : jW p l e R s m args below meth c D A n Q cells slots (pc + 2) lv2 (st) ws) : jW p l e R s m args below meth c D A n Q cells slots (pc) lv (.int x :: st) ws :=
  fun H locs ls hP hD hS h => lv_istore X.1 X.2.1 hdg h hn hl (fun ls2 h2 => kk H locs ls2 hP hD hS h2)
theorem j_astore_n {k : Fin 4} {x : Nat} {lv2 : List (Nat × Value)} (X : jC p s m args meth c cc own D tys tt A n) (hdg : decode cc pc = .ok (.astore_n k, 1)) (hn : (k : Nat) < n) (hl : ((k : Nat), Value.ref x) :: lv.filter (fun q => !(q.1 == (k : Nat)) && !(q.1 + 1 == (k : Nat) && q.2.category == 2)) = lv2) (kk : jW p l e R s m args below meth c D A n Q cells slots (pc + 1) lv2 (st) ws) : jW p l e R s m args below meth c D A n Q cells slots (pc) lv (.ref x :: st) ws :=
  fun H locs ls hP hD hS h => lv_astore_n X.1 X.2.1 hdg rfl h hn hl (fun ls2 h2 => kk H locs ls2 hP hD hS h2)
theorem j_astore {i : Nat} {x : Nat} {lv2 : List (Nat × Value)} (X : jC p s m args meth c cc own D tys tt A n) (hdg : decode cc pc = .ok (.astore i, 2)) (hn : i < n) (hl : (i, Value.ref x) :: lv.filter (fun q => !(q.1 == i) && !(q.1 + 1 == i && q.2.category == 2)) = lv2) (kk : jW p l e R s m args below meth c D A n Q cells slots (pc + 2) lv2 (st) ws) : jW p l e R s m args below meth c D A n Q cells slots (pc) lv (.ref x :: st) ws :=
  fun H locs ls hP hD hS h => lv_astore X.1 X.2.1 hdg h hn hl (fun ls2 h2 => kk H locs ls2 hP hD hS h2)
theorem j_astore_nN {k : Fin 4} {lv2 : List (Nat × Value)} (X : jC p s m args meth c cc own D tys tt A n) (hdg : decode cc pc = .ok (.astore_n k, 1)) (hn : (k : Nat) < n) (hl : ((k : Nat), Value.null) :: lv.filter (fun q => !(q.1 == (k : Nat)) && !(q.1 + 1 == (k : Nat) && q.2.category == 2)) = lv2) (kk : jW p l e R s m args below meth c D A n Q cells slots (pc + 1) lv2 (st) ws) : jW p l e R s m args below meth c D A n Q cells slots (pc) lv (.null :: st) ws :=
  fun H locs ls hP hD hS h => lv_astore_nN X.1 X.2.1 hdg rfl h hn hl (fun ls2 h2 => kk H locs ls2 hP hD hS h2)
theorem j_astoreN {i : Nat} {lv2 : List (Nat × Value)} (X : jC p s m args meth c cc own D tys tt A n) (hdg : decode cc pc = .ok (.astore i, 2)) (hn : i < n) (hl : (i, Value.null) :: lv.filter (fun q => !(q.1 == i) && !(q.1 + 1 == i && q.2.category == 2)) = lv2) (kk : jW p l e R s m args below meth c D A n Q cells slots (pc + 2) lv2 (st) ws) : jW p l e R s m args below meth c D A n Q cells slots (pc) lv (.null :: st) ws :=
  fun H locs ls hP hD hS h => lv_astoreN X.1 X.2.1 hdg h hn hl (fun ls2 h2 => kk H locs ls2 hP hD hS h2)
theorem j_lstore_n {k : Fin 4} {x : Int64} {lv2 : List (Nat × Value)} (X : jC p s m args meth c cc own D tys tt A n) (hdg : decode cc pc = .ok (.lstore_n k, 1)) (hn : (k : Nat) + 1 < n) (hl : ((k : Nat), Value.long x) :: lv.filter (fun q => !(q.1 == (k : Nat)) && (!(q.1 == (k : Nat) + 1) && !(q.1 + 1 == (k : Nat) && q.2.category == 2))) = lv2) (kk : jW p l e R s m args below meth c D A n Q cells slots (pc + 1) lv2 (st) ws) : jW p l e R s m args below meth c D A n Q cells slots (pc) lv (.long x :: st) ws :=
  fun H locs ls hP hD hS h => lv_lstore_n X.1 X.2.1 hdg rfl h hn hl (fun ls2 h2 => kk H locs ls2 hP hD hS h2)
theorem j_lstore {i : Nat} {x : Int64} {lv2 : List (Nat × Value)} (X : jC p s m args meth c cc own D tys tt A n) (hdg : decode cc pc = .ok (.lstore i, 2)) (hn : i + 1 < n) (hl : (i, Value.long x) :: lv.filter (fun q => !(q.1 == i) && (!(q.1 == i + 1) && !(q.1 + 1 == i && q.2.category == 2))) = lv2) (kk : jW p l e R s m args below meth c D A n Q cells slots (pc + 2) lv2 (st) ws) : jW p l e R s m args below meth c D A n Q cells slots (pc) lv (.long x :: st) ws :=
  fun H locs ls hP hD hS h => lv_lstore X.1 X.2.1 hdg h hn hl (fun ls2 h2 => kk H locs ls2 hP hD hS h2)
theorem j_iinc {i k : Nat} {d : Int} {x v : Int32} {lv2 : List (Nat × Value)} (X : jC p s m args meth c cc own D tys tt A n) (hdg : decode cc pc = .ok (.iinc i d, 3)) (hk : lv[k]? = some (i, .int x)) (hv : x + Int32.ofInt d = v) (hn : i < n) (hl : (i, Value.int v) :: lv.filter (fun q => !(q.1 == i) && !(q.1 + 1 == i && q.2.category == 2)) = lv2) (kk : jW p l e R s m args below meth c D A n Q cells slots (pc + 3) lv2 (st) ws) : jW p l e R s m args below meth c D A n Q cells slots (pc) lv (st) ws :=
  fun H locs ls hP hD hS h => lv_iinc X.1 X.2.1 hdg h hk hv hn hl (fun ls2 h2 => kk H locs ls2 hP hD hS h2)
theorem j_iadd {x y : Int32} (X : jC p s m args meth c cc own D tys tt A n) (hdg : decode cc pc = .ok (.iadd, 1)) (kk : jW p l e R s m args below meth c D A n Q cells slots (pc + 1) lv (.int (x + y) :: st) ws) : jW p l e R s m args below meth c D A n Q cells slots (pc) lv (.int y :: .int x :: st) ws :=
  fun H locs ls hP hD hS h => lv_iadd X.1 X.2.1 hdg (kk H locs ls hP hD hS h)
theorem j_isub {x y : Int32} (X : jC p s m args meth c cc own D tys tt A n) (hdg : decode cc pc = .ok (.isub, 1)) (kk : jW p l e R s m args below meth c D A n Q cells slots (pc + 1) lv (.int (x - y) :: st) ws) : jW p l e R s m args below meth c D A n Q cells slots (pc) lv (.int y :: .int x :: st) ws :=
  fun H locs ls hP hD hS h => lv_isub X.1 X.2.1 hdg (kk H locs ls hP hD hS h)
theorem j_imul {x y : Int32} (X : jC p s m args meth c cc own D tys tt A n) (hdg : decode cc pc = .ok (.imul, 1)) (kk : jW p l e R s m args below meth c D A n Q cells slots (pc + 1) lv (.int (x * y) :: st) ws) : jW p l e R s m args below meth c D A n Q cells slots (pc) lv (.int y :: .int x :: st) ws :=
  fun H locs ls hP hD hS h => lv_imul X.1 X.2.1 hdg (kk H locs ls hP hD hS h)
theorem j_iand {x y : Int32} (X : jC p s m args meth c cc own D tys tt A n) (hdg : decode cc pc = .ok (.iand, 1)) (kk : jW p l e R s m args below meth c D A n Q cells slots (pc + 1) lv (.int (x &&& y) :: st) ws) : jW p l e R s m args below meth c D A n Q cells slots (pc) lv (.int y :: .int x :: st) ws :=
  fun H locs ls hP hD hS h => lv_iand X.1 X.2.1 hdg (kk H locs ls hP hD hS h)
theorem j_ior {x y : Int32} (X : jC p s m args meth c cc own D tys tt A n) (hdg : decode cc pc = .ok (.ior, 1)) (kk : jW p l e R s m args below meth c D A n Q cells slots (pc + 1) lv (.int (x ||| y) :: st) ws) : jW p l e R s m args below meth c D A n Q cells slots (pc) lv (.int y :: .int x :: st) ws :=
  fun H locs ls hP hD hS h => lv_ior X.1 X.2.1 hdg (kk H locs ls hP hD hS h)
theorem j_ixor {x y : Int32} (X : jC p s m args meth c cc own D tys tt A n) (hdg : decode cc pc = .ok (.ixor, 1)) (kk : jW p l e R s m args below meth c D A n Q cells slots (pc + 1) lv (.int (x ^^^ y) :: st) ws) : jW p l e R s m args below meth c D A n Q cells slots (pc) lv (.int y :: .int x :: st) ws :=
  fun H locs ls hP hD hS h => lv_ixor X.1 X.2.1 hdg (kk H locs ls hP hD hS h)
theorem j_idiv {x y : Int32} (X : jC p s m args meth c cc own D tys tt A n) (hdg : decode cc pc = .ok (.idiv, 1)) (hne : ¬ y = 0) (kk : jW p l e R s m args below meth c D A n Q cells slots (pc + 1) lv (.int (x / y) :: st) ws) : jW p l e R s m args below meth c D A n Q cells slots (pc) lv (.int y :: .int x :: st) ws :=
  fun H locs ls hP hD hS h => lv_idiv X.1 X.2.1 hdg hne (kk H locs ls hP hD hS h)
theorem j_irem {x y : Int32} (X : jC p s m args meth c cc own D tys tt A n) (hdg : decode cc pc = .ok (.irem, 1)) (hne : ¬ y = 0) (kk : jW p l e R s m args below meth c D A n Q cells slots (pc + 1) lv (.int (x - x / y * y) :: st) ws) : jW p l e R s m args below meth c D A n Q cells slots (pc) lv (.int y :: .int x :: st) ws :=
  fun H locs ls hP hD hS h => lv_irem X.1 X.2.1 hdg hne (kk H locs ls hP hD hS h)
theorem j_ineg {x : Int32} (X : jC p s m args meth c cc own D tys tt A n) (hdg : decode cc pc = .ok (.ineg, 1)) (kk : jW p l e R s m args below meth c D A n Q cells slots (pc + 1) lv (.int (-x) :: st) ws) : jW p l e R s m args below meth c D A n Q cells slots (pc) lv (.int x :: st) ws :=
  fun H locs ls hP hD hS h => lv_ineg X.1 X.2.1 hdg (kk H locs ls hP hD hS h)
theorem j_ladd {x y : Int64} (X : jC p s m args meth c cc own D tys tt A n) (hdg : decode cc pc = .ok (.ladd, 1)) (kk : jW p l e R s m args below meth c D A n Q cells slots (pc + 1) lv (.long (x + y) :: st) ws) : jW p l e R s m args below meth c D A n Q cells slots (pc) lv (.long y :: .long x :: st) ws :=
  fun H locs ls hP hD hS h => lv_ladd X.1 X.2.1 hdg (kk H locs ls hP hD hS h)
theorem j_lsub {x y : Int64} (X : jC p s m args meth c cc own D tys tt A n) (hdg : decode cc pc = .ok (.lsub, 1)) (kk : jW p l e R s m args below meth c D A n Q cells slots (pc + 1) lv (.long (x - y) :: st) ws) : jW p l e R s m args below meth c D A n Q cells slots (pc) lv (.long y :: .long x :: st) ws :=
  fun H locs ls hP hD hS h => lv_lsub X.1 X.2.1 hdg (kk H locs ls hP hD hS h)
theorem j_lmul {x y : Int64} (X : jC p s m args meth c cc own D tys tt A n) (hdg : decode cc pc = .ok (.lmul, 1)) (kk : jW p l e R s m args below meth c D A n Q cells slots (pc + 1) lv (.long (x * y) :: st) ws) : jW p l e R s m args below meth c D A n Q cells slots (pc) lv (.long y :: .long x :: st) ws :=
  fun H locs ls hP hD hS h => lv_lmul X.1 X.2.1 hdg (kk H locs ls hP hD hS h)
theorem j_land {x y : Int64} (X : jC p s m args meth c cc own D tys tt A n) (hdg : decode cc pc = .ok (.land, 1)) (kk : jW p l e R s m args below meth c D A n Q cells slots (pc + 1) lv (.long (x &&& y) :: st) ws) : jW p l e R s m args below meth c D A n Q cells slots (pc) lv (.long y :: .long x :: st) ws :=
  fun H locs ls hP hD hS h => lv_land X.1 X.2.1 hdg (kk H locs ls hP hD hS h)
theorem j_lor {x y : Int64} (X : jC p s m args meth c cc own D tys tt A n) (hdg : decode cc pc = .ok (.lor, 1)) (kk : jW p l e R s m args below meth c D A n Q cells slots (pc + 1) lv (.long (x ||| y) :: st) ws) : jW p l e R s m args below meth c D A n Q cells slots (pc) lv (.long y :: .long x :: st) ws :=
  fun H locs ls hP hD hS h => lv_lor X.1 X.2.1 hdg (kk H locs ls hP hD hS h)
theorem j_ldiv {x y : Int64} (X : jC p s m args meth c cc own D tys tt A n) (hdg : decode cc pc = .ok (.ldiv, 1)) (hne : ¬ y = 0) (kk : jW p l e R s m args below meth c D A n Q cells slots (pc + 1) lv (.long (x / y) :: st) ws) : jW p l e R s m args below meth c D A n Q cells slots (pc) lv (.long y :: .long x :: st) ws :=
  fun H locs ls hP hD hS h => lv_ldiv X.1 X.2.1 hdg hne (kk H locs ls hP hD hS h)
theorem j_lrem {x y : Int64} (X : jC p s m args meth c cc own D tys tt A n) (hdg : decode cc pc = .ok (.lrem, 1)) (hne : ¬ y = 0) (kk : jW p l e R s m args below meth c D A n Q cells slots (pc + 1) lv (.long (x - x / y * y) :: st) ws) : jW p l e R s m args below meth c D A n Q cells slots (pc) lv (.long y :: .long x :: st) ws :=
  fun H locs ls hP hD hS h => lv_lrem X.1 X.2.1 hdg hne (kk H locs ls hP hD hS h)
theorem j_lshl {x : Int64} {y : Int32} (X : jC p s m args meth c cc own D tys tt A n) (hdg : decode cc pc = .ok (.lshl, 1)) (kk : jW p l e R s m args below meth c D A n Q cells slots (pc + 1) lv (.long (x <<< (y.toInt64 &&& 63)) :: st) ws) : jW p l e R s m args below meth c D A n Q cells slots (pc) lv (.int y :: .long x :: st) ws :=
  fun H locs ls hP hD hS h => lv_lshl X.1 X.2.1 hdg rfl (kk H locs ls hP hD hS h)
theorem j_i2l {x : Int32} (X : jC p s m args meth c cc own D tys tt A n) (hdg : decode cc pc = .ok (.i2l, 1)) (kk : jW p l e R s m args below meth c D A n Q cells slots (pc + 1) lv (.long x.toInt64 :: st) ws) : jW p l e R s m args below meth c D A n Q cells slots (pc) lv (.int x :: st) ws :=
  fun H locs ls hP hD hS h => lv_i2l X.1 X.2.1 hdg rfl (kk H locs ls hP hD hS h)
theorem j_l2i {x : Int64} (X : jC p s m args meth c cc own D tys tt A n) (hdg : decode cc pc = .ok (.l2i, 1)) (kk : jW p l e R s m args below meth c D A n Q cells slots (pc + 1) lv (.int x.toInt32 :: st) ws) : jW p l e R s m args below meth c D A n Q cells slots (pc) lv (.long x :: st) ws :=
  fun H locs ls hP hD hS h => lv_l2i X.1 X.2.1 hdg rfl (kk H locs ls hP hD hS h)
theorem j_i2b {x : Int32} (X : jC p s m args meth c cc own D tys tt A n) (hdg : decode cc pc = .ok (.i2b, 1)) (kk : jW p l e R s m args below meth c D A n Q cells slots (pc + 1) lv (.int x.toInt8.toInt32 :: st) ws) : jW p l e R s m args below meth c D A n Q cells slots (pc) lv (.int x :: st) ws :=
  fun H locs ls hP hD hS h => lv_i2b X.1 X.2.1 hdg rfl (kk H locs ls hP hD hS h)
theorem j_i2s {x : Int32} (X : jC p s m args meth c cc own D tys tt A n) (hdg : decode cc pc = .ok (.i2s, 1)) (kk : jW p l e R s m args below meth c D A n Q cells slots (pc + 1) lv (.int x.toInt16.toInt32 :: st) ws) : jW p l e R s m args below meth c D A n Q cells slots (pc) lv (.int x :: st) ws :=
  fun H locs ls hP hD hS h => lv_i2s X.1 X.2.1 hdg rfl (kk H locs ls hP hD hS h)
theorem j_lcmp {x y : Int64} (X : jC p s m args meth c cc own D tys tt A n) (hdg : decode cc pc = .ok (.lcmp, 1)) (kk : jW p l e R s m args below meth c D A n Q cells slots (pc + 1) lv (.int (lg_cmp x y) :: st) ws) : jW p l e R s m args below meth c D A n Q cells slots (pc) lv (.long y :: .long x :: st) ws :=
  fun H locs ls hP hD hS h => W.lcmp X.1 X.2.1 hdg (kk H locs ls hP hD hS h)
theorem j_dup {va : Value} (X : jC p s m args meth c cc own D tys tt A n) (hdg : decode cc pc = .ok (.dup, 1)) (h1 : va.category = 1) (kk : jW p l e R s m args below meth c D A n Q cells slots (pc + 1) lv (va :: va :: st) ws) : jW p l e R s m args below meth c D A n Q cells slots (pc) lv (va :: st) ws :=
  fun H locs ls hP hD hS h => lv_dup X.1 X.2.1 hdg h1 (kk H locs ls hP hD hS h)
theorem j_pop {va : Value} (X : jC p s m args meth c cc own D tys tt A n) (hdg : decode cc pc = .ok (.pop, 1)) (h1 : va.category = 1) (kk : jW p l e R s m args below meth c D A n Q cells slots (pc + 1) lv (st) ws) : jW p l e R s m args below meth c D A n Q cells slots (pc) lv (va :: st) ws :=
  fun H locs ls hP hD hS h => lv_pop X.1 X.2.1 hdg h1 (kk H locs ls hP hD hS h)
theorem j_dup_x1 {va vb : Value} (X : jC p s m args meth c cc own D tys tt A n) (hdg : decode cc pc = .ok (.dup_x1, 1)) (h1 : va.category = 1) (h2 : vb.category = 1) (kk : jW p l e R s m args below meth c D A n Q cells slots (pc + 1) lv (va :: vb :: va :: st) ws) : jW p l e R s m args below meth c D A n Q cells slots (pc) lv (va :: vb :: st) ws :=
  fun H locs ls hP hD hS h => lv_dup_x1 X.1 X.2.1 hdg h1 h2 (kk H locs ls hP hD hS h)
theorem j_dup_x2 {va vb vd : Value} (X : jC p s m args meth c cc own D tys tt A n) (hdg : decode cc pc = .ok (.dup_x2, 1)) (h1 : va.category = 1) (h2 : vb.category = 1) (h3 : vd.category = 1) (kk : jW p l e R s m args below meth c D A n Q cells slots (pc + 1) lv (va :: vb :: vd :: va :: st) ws) : jW p l e R s m args below meth c D A n Q cells slots (pc) lv (va :: vb :: vd :: st) ws :=
  fun H locs ls hP hD hS h => lv_dup_x2 X.1 X.2.1 hdg h1 h2 h3 (kk H locs ls hP hD hS h)
theorem j_dup2_11 {va vb : Value} (X : jC p s m args meth c cc own D tys tt A n) (hdg : decode cc pc = .ok (.dup2, 1)) (h1 : va.category = 1) (h2 : vb.category = 1) (kk : jW p l e R s m args below meth c D A n Q cells slots (pc + 1) lv (va :: vb :: va :: vb :: st) ws) : jW p l e R s m args below meth c D A n Q cells slots (pc) lv (va :: vb :: st) ws :=
  fun H locs ls hP hD hS h => lv_dup2_11 X.1 X.2.1 hdg h1 h2 (kk H locs ls hP hD hS h)
theorem j_dup2_2 {va : Value} (X : jC p s m args meth c cc own D tys tt A n) (hdg : decode cc pc = .ok (.dup2, 1)) (h1 : va.category = 2) (kk : jW p l e R s m args below meth c D A n Q cells slots (pc + 1) lv (va :: va :: st) ws) : jW p l e R s m args below meth c D A n Q cells slots (pc) lv (va :: st) ws :=
  fun H locs ls hP hD hS h => lv_dup2_2 X.1 X.2.1 hdg h1 (kk H locs ls hP hD hS h)
theorem j_pop2_2 {va : Value} (X : jC p s m args meth c cc own D tys tt A n) (hdg : decode cc pc = .ok (.pop2, 1)) (h1 : va.category = 2) (kk : jW p l e R s m args below meth c D A n Q cells slots (pc + 1) lv (st) ws) : jW p l e R s m args below meth c D A n Q cells slots (pc) lv (va :: st) ws :=
  fun H locs ls hP hD hS h => lv_pop2_2 X.1 X.2.1 hdg h1 (kk H locs ls hP hD hS h)
theorem j_pop2_11 {va vb : Value} (X : jC p s m args meth c cc own D tys tt A n) (hdg : decode cc pc = .ok (.pop2, 1)) (h1 : va.category = 1) (h2 : vb.category = 1) (kk : jW p l e R s m args below meth c D A n Q cells slots (pc + 1) lv (st) ws) : jW p l e R s m args below meth c D A n Q cells slots (pc) lv (va :: vb :: st) ws :=
  fun H locs ls hP hD hS h => lv_pop2_11 X.1 X.2.1 hdg h1 h2 (kk H locs ls hP hD hS h)
theorem j_if_eq {x : Int32} {off : Int} {tgt : Nat} (X : jC p s m args meth c cc own D tys tt A n) (hdg : decode cc pc = .ok (.ifCond .eq off, 3)) (ht : (pc : Int) + off = (tgt : Int)) (kt : x = 0 → jW p l e R s m args below meth c D A n Q cells slots (tgt) lv (st) ws) (kf : ¬ x = 0 → jW p l e R s m args below meth c D A n Q cells slots (pc + 3) lv (st) ws) : jW p l e R s m args below meth c D A n Q cells slots (pc) lv (.int x :: st) ws :=
  fun H locs ls hP hD hS h => lv_if_eq X.1 X.2.1 hdg ht (fun hc => kt hc H locs ls hP hD hS h) (fun hc => kf hc H locs ls hP hD hS h)
theorem j_icmp_eq {x y : Int32} {off : Int} {tgt : Nat} (X : jC p s m args meth c cc own D tys tt A n) (hdg : decode cc pc = .ok (.if_icmp .eq off, 3)) (ht : (pc : Int) + off = (tgt : Int)) (kt : x = y → jW p l e R s m args below meth c D A n Q cells slots (tgt) lv (st) ws) (kf : ¬ x = y → jW p l e R s m args below meth c D A n Q cells slots (pc + 3) lv (st) ws) : jW p l e R s m args below meth c D A n Q cells slots (pc) lv (.int y :: .int x :: st) ws :=
  fun H locs ls hP hD hS h => lv_icmp_eq X.1 X.2.1 hdg ht (fun hc => kt hc H locs ls hP hD hS h) (fun hc => kf hc H locs ls hP hD hS h)
theorem j_if_ne {x : Int32} {off : Int} {tgt : Nat} (X : jC p s m args meth c cc own D tys tt A n) (hdg : decode cc pc = .ok (.ifCond .ne off, 3)) (ht : (pc : Int) + off = (tgt : Int)) (kt : ¬ x = 0 → jW p l e R s m args below meth c D A n Q cells slots (tgt) lv (st) ws) (kf : x = 0 → jW p l e R s m args below meth c D A n Q cells slots (pc + 3) lv (st) ws) : jW p l e R s m args below meth c D A n Q cells slots (pc) lv (.int x :: st) ws :=
  fun H locs ls hP hD hS h => lv_if_ne X.1 X.2.1 hdg ht (fun hc => kt hc H locs ls hP hD hS h) (fun hc => kf hc H locs ls hP hD hS h)
theorem j_icmp_ne {x y : Int32} {off : Int} {tgt : Nat} (X : jC p s m args meth c cc own D tys tt A n) (hdg : decode cc pc = .ok (.if_icmp .ne off, 3)) (ht : (pc : Int) + off = (tgt : Int)) (kt : ¬ x = y → jW p l e R s m args below meth c D A n Q cells slots (tgt) lv (st) ws) (kf : x = y → jW p l e R s m args below meth c D A n Q cells slots (pc + 3) lv (st) ws) : jW p l e R s m args below meth c D A n Q cells slots (pc) lv (.int y :: .int x :: st) ws :=
  fun H locs ls hP hD hS h => lv_icmp_ne X.1 X.2.1 hdg ht (fun hc => kt hc H locs ls hP hD hS h) (fun hc => kf hc H locs ls hP hD hS h)
theorem j_if_lt {x : Int32} {off : Int} {tgt : Nat} (X : jC p s m args meth c cc own D tys tt A n) (hdg : decode cc pc = .ok (.ifCond .lt off, 3)) (ht : (pc : Int) + off = (tgt : Int)) (kt : x < 0 → jW p l e R s m args below meth c D A n Q cells slots (tgt) lv (st) ws) (kf : ¬ x < 0 → jW p l e R s m args below meth c D A n Q cells slots (pc + 3) lv (st) ws) : jW p l e R s m args below meth c D A n Q cells slots (pc) lv (.int x :: st) ws :=
  fun H locs ls hP hD hS h => lv_if_lt X.1 X.2.1 hdg ht (fun hc => kt hc H locs ls hP hD hS h) (fun hc => kf hc H locs ls hP hD hS h)
theorem j_icmp_lt {x y : Int32} {off : Int} {tgt : Nat} (X : jC p s m args meth c cc own D tys tt A n) (hdg : decode cc pc = .ok (.if_icmp .lt off, 3)) (ht : (pc : Int) + off = (tgt : Int)) (kt : x < y → jW p l e R s m args below meth c D A n Q cells slots (tgt) lv (st) ws) (kf : ¬ x < y → jW p l e R s m args below meth c D A n Q cells slots (pc + 3) lv (st) ws) : jW p l e R s m args below meth c D A n Q cells slots (pc) lv (.int y :: .int x :: st) ws :=
  fun H locs ls hP hD hS h => lv_icmp_lt X.1 X.2.1 hdg ht (fun hc => kt hc H locs ls hP hD hS h) (fun hc => kf hc H locs ls hP hD hS h)
theorem j_if_ge {x : Int32} {off : Int} {tgt : Nat} (X : jC p s m args meth c cc own D tys tt A n) (hdg : decode cc pc = .ok (.ifCond .ge off, 3)) (ht : (pc : Int) + off = (tgt : Int)) (kt : 0 ≤ x → jW p l e R s m args below meth c D A n Q cells slots (tgt) lv (st) ws) (kf : ¬ 0 ≤ x → jW p l e R s m args below meth c D A n Q cells slots (pc + 3) lv (st) ws) : jW p l e R s m args below meth c D A n Q cells slots (pc) lv (.int x :: st) ws :=
  fun H locs ls hP hD hS h => lv_if_ge X.1 X.2.1 hdg ht (fun hc => kt hc H locs ls hP hD hS h) (fun hc => kf hc H locs ls hP hD hS h)
theorem j_icmp_ge {x y : Int32} {off : Int} {tgt : Nat} (X : jC p s m args meth c cc own D tys tt A n) (hdg : decode cc pc = .ok (.if_icmp .ge off, 3)) (ht : (pc : Int) + off = (tgt : Int)) (kt : y ≤ x → jW p l e R s m args below meth c D A n Q cells slots (tgt) lv (st) ws) (kf : ¬ y ≤ x → jW p l e R s m args below meth c D A n Q cells slots (pc + 3) lv (st) ws) : jW p l e R s m args below meth c D A n Q cells slots (pc) lv (.int y :: .int x :: st) ws :=
  fun H locs ls hP hD hS h => lv_icmp_ge X.1 X.2.1 hdg ht (fun hc => kt hc H locs ls hP hD hS h) (fun hc => kf hc H locs ls hP hD hS h)
theorem j_if_gt {x : Int32} {off : Int} {tgt : Nat} (X : jC p s m args meth c cc own D tys tt A n) (hdg : decode cc pc = .ok (.ifCond .gt off, 3)) (ht : (pc : Int) + off = (tgt : Int)) (kt : 0 < x → jW p l e R s m args below meth c D A n Q cells slots (tgt) lv (st) ws) (kf : ¬ 0 < x → jW p l e R s m args below meth c D A n Q cells slots (pc + 3) lv (st) ws) : jW p l e R s m args below meth c D A n Q cells slots (pc) lv (.int x :: st) ws :=
  fun H locs ls hP hD hS h => lv_if_gt X.1 X.2.1 hdg ht (fun hc => kt hc H locs ls hP hD hS h) (fun hc => kf hc H locs ls hP hD hS h)
theorem j_icmp_gt {x y : Int32} {off : Int} {tgt : Nat} (X : jC p s m args meth c cc own D tys tt A n) (hdg : decode cc pc = .ok (.if_icmp .gt off, 3)) (ht : (pc : Int) + off = (tgt : Int)) (kt : y < x → jW p l e R s m args below meth c D A n Q cells slots (tgt) lv (st) ws) (kf : ¬ y < x → jW p l e R s m args below meth c D A n Q cells slots (pc + 3) lv (st) ws) : jW p l e R s m args below meth c D A n Q cells slots (pc) lv (.int y :: .int x :: st) ws :=
  fun H locs ls hP hD hS h => lv_icmp_gt X.1 X.2.1 hdg ht (fun hc => kt hc H locs ls hP hD hS h) (fun hc => kf hc H locs ls hP hD hS h)
theorem j_if_le {x : Int32} {off : Int} {tgt : Nat} (X : jC p s m args meth c cc own D tys tt A n) (hdg : decode cc pc = .ok (.ifCond .le off, 3)) (ht : (pc : Int) + off = (tgt : Int)) (kt : x ≤ 0 → jW p l e R s m args below meth c D A n Q cells slots (tgt) lv (st) ws) (kf : ¬ x ≤ 0 → jW p l e R s m args below meth c D A n Q cells slots (pc + 3) lv (st) ws) : jW p l e R s m args below meth c D A n Q cells slots (pc) lv (.int x :: st) ws :=
  fun H locs ls hP hD hS h => lv_if_le X.1 X.2.1 hdg ht (fun hc => kt hc H locs ls hP hD hS h) (fun hc => kf hc H locs ls hP hD hS h)
theorem j_icmp_le {x y : Int32} {off : Int} {tgt : Nat} (X : jC p s m args meth c cc own D tys tt A n) (hdg : decode cc pc = .ok (.if_icmp .le off, 3)) (ht : (pc : Int) + off = (tgt : Int)) (kt : x ≤ y → jW p l e R s m args below meth c D A n Q cells slots (tgt) lv (st) ws) (kf : ¬ x ≤ y → jW p l e R s m args below meth c D A n Q cells slots (pc + 3) lv (st) ws) : jW p l e R s m args below meth c D A n Q cells slots (pc) lv (.int y :: .int x :: st) ws :=
  fun H locs ls hP hD hS h => lv_icmp_le X.1 X.2.1 hdg ht (fun hc => kt hc H locs ls hP hD hS h) (fun hc => kf hc H locs ls hP hD hS h)
theorem j_goto {off : Int} {tgt : Nat} (X : jC p s m args meth c cc own D tys tt A n) (hdg : decode cc pc = .ok (.goto off, 3)) (ht : (pc : Int) + off = (tgt : Int)) (kk : jW p l e R s m args below meth c D A n Q cells slots (tgt) lv (st) ws) : jW p l e R s m args below meth c D A n Q cells slots (pc) lv (st) ws :=
  fun H locs ls hP hD hS h => lv_goto X.1 X.2.1 hdg ht (kk H locs ls hP hD hS h)
theorem j_ifnull {x : Nat} {off : Int} (X : jC p s m args meth c cc own D tys tt A n) (hdg : decode cc pc = .ok (.ifnull off, 3)) (kk : jW p l e R s m args below meth c D A n Q cells slots (pc + 3) lv (st) ws) : jW p l e R s m args below meth c D A n Q cells slots (pc) lv (.ref x :: st) ws :=
  fun H locs ls hP hD hS h => lv_ifnull X.1 X.2.1 hdg (kk H locs ls hP hD hS h)
theorem j_ifnullN {off : Int} {tgt : Nat} (X : jC p s m args meth c cc own D tys tt A n) (hdg : decode cc pc = .ok (.ifnull off, 3)) (ht : (pc : Int) + off = (tgt : Int)) (kk : jW p l e R s m args below meth c D A n Q cells slots (tgt) lv (st) ws) : jW p l e R s m args below meth c D A n Q cells slots (pc) lv (.null :: st) ws :=
  fun H locs ls hP hD hS h => lv_ifnullN X.1 X.2.1 hdg ht (kk H locs ls hP hD hS h)
theorem j_ifnonnull {x : Nat} {off : Int} {tgt : Nat} (X : jC p s m args meth c cc own D tys tt A n) (hdg : decode cc pc = .ok (.ifnonnull off, 3)) (ht : (pc : Int) + off = (tgt : Int)) (kk : jW p l e R s m args below meth c D A n Q cells slots (tgt) lv (st) ws) : jW p l e R s m args below meth c D A n Q cells slots (pc) lv (.ref x :: st) ws :=
  fun H locs ls hP hD hS h => lv_ifnonnull X.1 X.2.1 hdg ht (kk H locs ls hP hD hS h)
theorem j_ifnonnullN {off : Int} (X : jC p s m args meth c cc own D tys tt A n) (hdg : decode cc pc = .ok (.ifnonnull off, 3)) (kk : jW p l e R s m args below meth c D A n Q cells slots (pc + 3) lv (st) ws) : jW p l e R s m args below meth c D A n Q cells slots (pc) lv (.null :: st) ws :=
  fun H locs ls hP hD hS h => lv_ifnonnullN X.1 X.2.1 hdg (kk H locs ls hP hD hS h)
theorem j_tableIn {dflt lo hi : Int} {offs : Array Int} {len : Nat} {x : Int32} {off : Int} {tgt : Nat} (X : jC p s m args meth c cc own D tys tt A n) (hdg : decode cc pc = .ok (.tableswitch dflt lo hi offs, len)) (h1 : ¬ x.toInt < lo) (h2 : ¬ hi < x.toInt) (ho : offs[(x.toInt - lo).toNat]? = some off) (ht : (pc : Int) + off = (tgt : Int)) (kk : jW p l e R s m args below meth c D A n Q cells slots (tgt) lv (st) ws) : jW p l e R s m args below meth c D A n Q cells slots (pc) lv (.int x :: st) ws :=
  fun H locs ls hP hD hS h => lv_tableIn X.1 X.2.1 hdg h1 h2 ho ht (kk H locs ls hP hD hS h)
theorem j_tableOut {dflt lo hi : Int} {offs : Array Int} {len : Nat} {x : Int32} {tgt : Nat} (X : jC p s m args meth c cc own D tys tt A n) (hdg : decode cc pc = .ok (.tableswitch dflt lo hi offs, len)) (h1 : x.toInt < lo ∨ hi < x.toInt) (ht : (pc : Int) + dflt = (tgt : Int)) (kk : jW p l e R s m args below meth c D A n Q cells slots (tgt) lv (st) ws) : jW p l e R s m args below meth c D A n Q cells slots (pc) lv (.int x :: st) ws :=
  fun H locs ls hP hD hS h => lv_tableOut X.1 X.2.1 hdg h1 ht (kk H locs ls hP hD hS h)
theorem j_ldc {index : Nat} {v : Int32} (X : jC p s m args meth c cc own D tys tt A n) (hw : Cond.constant own index v ∈ GG) (hdg : decode cc pc = .ok (.ldc index, 2)) (kk : jW p l e R s m args below meth c D A n Q cells slots (pc + 2) lv (.int v :: st) ws) : jW p l e R s m args below meth c D A n Q cells slots (pc) lv (st) ws :=
  fun H locs ls hP hD hS h => lv_ldc X.1 X.2.1 X.ow (X.hts _ hw) hdg (kk H locs ls hP hD hS h)
theorem j_ldc2 {index : Nat} {v : Int64} (X : jC p s m args meth c cc own D tys tt A n) (hw : Cond.constantLong own index v ∈ GG) (hdg : decode cc pc = .ok (.ldc2_w index, 3)) (kk : jW p l e R s m args below meth c D A n Q cells slots (pc + 3) lv (.long v :: st) ws) : jW p l e R s m args below meth c D A n Q cells slots (pc) lv (st) ws :=
  fun H locs ls hP hD hS h => lv_ldc2 X.1 X.2.1 X.ow (X.hts _ hw) hdg (kk H locs ls hP hD hS h)
theorem j_get {C : String} {T : u_T} {N ci index a : Nat} {fs : List Value} {v : Value} (X : jC p s m args meth c cc own D tys tt A n) (q0 k : Nat) (hin : ∀ w ∈ u_ws C T N, w ∈ GG) (hlink : Cond.fieldLink own index (T k).1 (T k).2.1 (T k).2.2.1 ∈ GG) (hdg : decode cc pc = .ok (.getfield index, 3)) (he : ws[q0]? = some (a, .inr (ci, fs))) (hc : vwCl[ci]? = some (C, T, N)) (hk : k < N) (hv : fs[k]? = some v) (kk : jW p l e R s m args below meth c D A n Q cells slots (pc + 3) lv (v :: st) ws) : jW p l e R s m args below meth c D A n Q cells slots (pc) lv (.ref a :: st) ws :=
  fun H locs ls hP hD hS h => va_get X.1 X.2.1 X.hts hin X.ow X.K hP q0 he hc k hk (X.hts _ hlink) (fun _ h9 => h9) hv hdg (kk H locs ls hP hD hS h)
theorem j_put {C : String} {T : u_T} {N ci index a : Nat} {fs : List Value} {v : Value} {ws2 : va_W} {ty : Nat → FieldType} (X : jC p s m args meth c cc own D tys tt A n) (q0 k : Nat) (hin : ∀ w ∈ u_ws C T N, w ∈ GG) (hty : ∀ k, k < N → parseFieldDescriptor (T k).2.2.1 = some (ty k)) (hnm : ∀ a, a < N → ∀ b, b < N → a ≠ b → (T a).2.1 ≠ (T b).2.1) (hlink : Cond.fieldLink own index (T k).1 (T k).2.1 (T k).2.2.1 ∈ GG) (hdg : decode cc pc = .ok (.putfield index, 3)) (he : ws[q0]? = some (a, .inr (ci, fs))) (hc : vwCl[ci]? = some (C, T, N)) (hk : k < N) (hfin : (T k).2.2.2 = false) (hn : narrow (ty k) v = v) (hfit : fits (ty k) v = true) (hl : k < fs.length) (hws : ws.set q0 (a, .inr (ci, fs.set k v)) = ws2) (kk : jW p l e R s m args below meth c D A n Q cells slots (pc + 3) lv (st) ws2) : jW p l e R s m args below meth c D A n Q cells slots (pc) lv (v :: .ref a :: st) ws :=
  fun H locs ls hP hD hS h => va_put X.1 X.2.1 X.hts hin ty hty hnm X.ow X.K hP hD hS q0 he hc k hk (X.hts _ hlink) (fun _ h9 => h9) hfin (hty k hk) hn hfit hl hdg (fun H1 locs1 hP1 hD1 hS1 => kk H1 locs1 ls (hws ▸ hP1) (hws ▸ hD1) hS1 h)
theorem j_iald {a N k : Nat} {cA : ClassId} {f : Nat → Int32} {i : Int32} (X : jC p s m args meth c cc own D tys tt A n) (q0 t0 : Nat) (hk : i.toNatClampNeg = k) (hdg : decode cc pc = .ok (.iaload, 1)) (ha : ws[q0]? = some (a, .inl (cA, N, .inl f))) (ht : tys[t0]? = some (cA, .int)) (hin : inb i N = true) (kk : jW p l e R s m args below meth c D A n Q cells slots (pc + 1) lv (.int (f k) :: st) ws) : jW p l e R s m args below meth c D A n Q cells slots (pc) lv (.int i :: .ref a :: st) ws :=
  by
  subst hk
  exact fun H locs ls hP hD hS h => va_iald X.1 X.2.1 X.K hP q0 t0 ha ht (inb_in hin) hdg (kk H locs ls hP hD hS h)
theorem j_bald {a N k : Nat} {cA : ClassId} {f : Nat → Int32} {i : Int32} (X : jC p s m args meth c cc own D tys tt A n) (q0 t0 : Nat) (hk : i.toNatClampNeg = k) (hdg : decode cc pc = .ok (.baload, 1)) (ha : ws[q0]? = some (a, .inl (cA, N, .inl f))) (ht : tys[t0]? = some (cA, .byte)) (hin : inb i N = true) (kk : jW p l e R s m args below meth c D A n Q cells slots (pc + 1) lv (.int (f k) :: st) ws) : jW p l e R s m args below meth c D A n Q cells slots (pc) lv (.int i :: .ref a :: st) ws :=
  by
  subst hk
  exact fun H locs ls hP hD hS h => va_bald X.1 X.2.1 X.K hP q0 t0 ha ht (inb_in hin) hdg (kk H locs ls hP hD hS h)
theorem j_lald {a N k : Nat} {cA : ClassId} {f : Nat → Int64} {i : Int32} (X : jC p s m args meth c cc own D tys tt A n) (q0 t0 : Nat) (hk : i.toNatClampNeg = k) (hdg : decode cc pc = .ok (.laload, 1)) (ha : ws[q0]? = some (a, .inl (cA, N, .inr (.inl f)))) (ht : tys[t0]? = some (cA, .long)) (hin : inb i N = true) (kk : jW p l e R s m args below meth c D A n Q cells slots (pc + 1) lv (.long (f k) :: st) ws) : jW p l e R s m args below meth c D A n Q cells slots (pc) lv (.int i :: .ref a :: st) ws :=
  by
  subst hk
  exact fun H locs ls hP hD hS h => va_lald X.1 X.2.1 X.K hP q0 t0 ha ht (inb_in hin) hdg (kk H locs ls hP hD hS h)
theorem j_iast {a N k : Nat} {cA : ClassId} {f f2 : Nat → Int32} {i : Int32} {x : Int32} {ws2 : va_W} (X : jC p s m args meth c cc own D tys tt A n) (q0 t0 : Nat) (hk : i.toNatClampNeg = k) (hdg : decode cc pc = .ok (.iastore, 1)) (ha : ws[q0]? = some (a, .inl (cA, N, .inl f))) (ht : tys[t0]? = some (cA, .int)) (hin : inb i N = true) (hf : upd f k x = f2) (hws : ws.set q0 (a, .inl (cA, N, .inl f2)) = ws2) (kk : jW p l e R s m args below meth c D A n Q cells slots (pc + 1) lv (st) ws2) : jW p l e R s m args below meth c D A n Q cells slots (pc) lv (.int x :: .int i :: .ref a :: st) ws :=
  by
  subst hk; subst hf; subst hws
  exact fun H locs ls hP hD hS h => va_iast X.1 X.2.1 X.K hP hD hS q0 t0 ha ht (inb_in hin) hdg (fun H1 locs1 hP1 hD1 hS1 => kk H1 locs1 ls hP1 hD1 hS1 h)
theorem j_bast {a N k : Nat} {cA : ClassId} {f f2 : Nat → Int32} {i : Int32} {x : Int32} {ws2 : va_W} (X : jC p s m args meth c cc own D tys tt A n) (q0 t0 : Nat) (hk : i.toNatClampNeg = k) (hdg : decode cc pc = .ok (.bastore, 1)) (ha : ws[q0]? = some (a, .inl (cA, N, .inl f))) (ht : tys[t0]? = some (cA, .byte)) (hin : inb i N = true) (hf : upd f k (vp_nar .byte x) = f2) (hws : ws.set q0 (a, .inl (cA, N, .inl f2)) = ws2) (kk : jW p l e R s m args below meth c D A n Q cells slots (pc + 1) lv (st) ws2) : jW p l e R s m args below meth c D A n Q cells slots (pc) lv (.int x :: .int i :: .ref a :: st) ws :=
  by
  subst hk; subst hf; subst hws
  exact fun H locs ls hP hD hS h => va_bast X.1 X.2.1 X.K hP hD hS q0 t0 ha ht (inb_in hin) hdg (fun H1 locs1 hP1 hD1 hS1 => kk H1 locs1 ls hP1 hD1 hS1 h)
theorem j_last {a N k : Nat} {cA : ClassId} {f f2 : Nat → Int64} {i : Int32} {x : Int64} {ws2 : va_W} (X : jC p s m args meth c cc own D tys tt A n) (q0 t0 : Nat) (hk : i.toNatClampNeg = k) (hdg : decode cc pc = .ok (.lastore, 1)) (ha : ws[q0]? = some (a, .inl (cA, N, .inr (.inl f)))) (ht : tys[t0]? = some (cA, .long)) (hin : inb i N = true) (hf : vp_updL f k x = f2) (hws : ws.set q0 (a, .inl (cA, N, .inr (.inl f2))) = ws2) (kk : jW p l e R s m args below meth c D A n Q cells slots (pc + 1) lv (st) ws2) : jW p l e R s m args below meth c D A n Q cells slots (pc) lv (.long x :: .int i :: .ref a :: st) ws :=
  by
  subst hk; subst hf; subst hws
  exact fun H locs ls hP hD hS h => va_last X.1 X.2.1 X.K hP hD hS q0 t0 ha ht (inb_in hin) hdg (fun H1 locs1 hP1 hD1 hS1 => kk H1 locs1 ls hP1 hD1 hS1 h)
theorem j_alen {a : Nat} {cA : ClassId} {x : vp_A} {ty : FieldType} {v : Int32} (X : jC p s m args meth c cc own D tys tt A n) (q0 t0 : Nat) (hdg : decode cc pc = .ok (.arraylength, 1)) (ha : ws[q0]? = some (a, .inl (cA, x))) (ht : tys[t0]? = some (cA, ty)) (hv : Int32.ofNat x.1 = v) (kk : jW p l e R s m args below meth c D A n Q cells slots (pc + 1) lv (.int v :: st) ws) : jW p l e R s m args below meth c D A n Q cells slots (pc) lv (.ref a :: st) ws :=
  fun H locs ls hP hD hS h => va_alen X.1 X.2.1 X.K hP q0 t0 ha ht hv hdg (kk H locs ls hP hD hS h)
theorem j_aldq {a N : Nat} {cA : ClassId} {C : String} {f : Nat → Option Nat} {i : Int32} (X : jC p s m args meth c cc own D tys tt A n) (q0 t0 : Nat) (hdg : decode cc pc = .ok (.aaload, 1)) (ha : ws[q0]? = some (a, .inl (cA, N, .inr (.inr (.inr (.inr f)))))) (ht : tys[t0]? = some (cA, .object C)) (hin : inb i N = true) (kk : jW p l e R s m args below meth c D A n Q cells slots (pc + 1) lv (va_rf (f i.toNatClampNeg) :: st) ws) : jW p l e R s m args below meth c D A n Q cells slots (pc) lv (.int i :: .ref a :: st) ws :=
  fun H locs ls hP hD hS h => va_aldq X.1 X.2.1 X.K hP q0 t0 ha ht (inb_in hin) hdg (kk H locs ls hP hD hS h)
theorem j_gets {nm d : String} {index t : Nat} {ty : FieldType} {N : Nat} {f : Nat → Int32} (X : jC p s m args meth c cc own D tys tt A n) (hZ : jT t nm d ty N f A s s.heap) (hlink : Cond.fieldLink own index RX8 nm d ∈ GG) (hdg : decode cc pc = .ok (.getstatic index, 3)) (kk : jW p l e R s m args below meth c D A n Q cells slots (pc + 3) lv (.ref t :: st) ws) : jW p l e R s m args below meth c D A n Q cells slots (pc) lv (st) ws :=
  fun H locs ls hP hD hS h => va_gets X.1 X.2.1 hZ.1 hS X.ow (X.hts _ hlink) (fun _ h9 => h9) hdg (kk H locs ls hP hD hS h)
theorem j_getsN {nm d host : String} {index t : Nat} {ty : FieldType} {N : Nat} {f : Nat → Int32} (X : jC p s m args meth c cc own D tys tt A n) (hZ : jT t nm d ty N f A s s.heap) (hlink : va_Nw (.fieldLinkNest own index RX8 nm d host) s) (hdg : decode cc pc = .ok (.getstatic index, 3)) (kk : jW p l e R s m args below meth c D A n Q cells slots (pc + 3) lv (.ref t :: st) ws) : jW p l e R s m args below meth c D A n Q cells slots (pc) lv (st) ws :=
  fun H locs ls hP hD hS h => va_getsN X.1 X.2.1 hZ.1 hS X.ow (va_Nw.use rfl hlink) (fun _ h9 => h9) hdg (kk H locs ls hP hD hS h)
theorem j_ti {nm d : String} {t N k : Nat} {f : Nat → Int32} {i : Int32} (X : jC p s m args meth c cc own D tys tt A n) (hk : i.toNatClampNeg = k) (hZ : jT t nm d .int N f A s s.heap) (hdg : decode cc pc = .ok (.iaload, 1)) (hin : inb i N = true) (kk : jW p l e R s m args below meth c D A n Q cells slots (pc + 1) lv (.int (f k) :: st) ws) : jW p l e R s m args below meth c D A n Q cells slots (pc) lv (.int i :: .ref t :: st) ws :=
  by
  subst hk
  exact fun H locs ls hP hD hS h => va_ti X.1 X.2.1 hZ.2 hS (inb_in hin) rfl hdg (kk H locs ls hP hD hS h)
theorem j_tc {nm d : String} {t N k : Nat} {f : Nat → Int32} {i : Int32} (X : jC p s m args meth c cc own D tys tt A n) (hk : i.toNatClampNeg = k) (hZ : jT t nm d .char N f A s s.heap) (hdg : decode cc pc = .ok (.caload, 1)) (hin : inb i N = true) (kk : jW p l e R s m args below meth c D A n Q cells slots (pc + 1) lv (.int (f k) :: st) ws) : jW p l e R s m args below meth c D A n Q cells slots (pc) lv (.int i :: .ref t :: st) ws :=
  by
  subst hk
  exact fun H locs ls hP hD hS h => va_tc X.1 X.2.1 hZ.2 hS (inb_in hin) rfl hdg (kk H locs ls hP hD hS h)
theorem j_tlen {nm d : String} {t N : Nat} {ty : FieldType} {f : Nat → Int32} {v : Int32} (X : jC p s m args meth c cc own D tys tt A n) (hZ : jT t nm d ty N f A s s.heap) (hv : Int32.ofNat N = v) (hdg : decode cc pc = .ok (.arraylength, 1)) (kk : jW p l e R s m args below meth c D A n Q cells slots (pc + 1) lv (.int v :: st) ws) : jW p l e R s m args below meth c D A n Q cells slots (pc) lv (.ref t :: st) ws :=
  fun H locs ls hP hD hS h => va_tlen X.1 X.2.1 hZ.2 hS hv hdg (kk H locs ls hP hD hS h)
theorem j_mmax {index : Nat} {x y : Int32} (X : jC p s m args meth c cc own D tys tt A n) (hl : Cond.methodLink own index Lib.Math.max.name ∈ GG) (hs1 : Cond.static Lib.Math.max.name ∈ GG) (hi : Cond.initialized "java/lang/Math" ∈ GG) (hco : Cond.code Lib.Math.max.name Lib.Math.max.code 2 (some .int) ∈ GG) (hR : 1 ≤ R.frames ∧ (st.map fun v => v.category).sum + 13 ≤ R.locals ∧ cells ≤ R.cells ∧ slots ≤ R.slots) (hdg : decode cc pc = .ok (.invokestatic index, 3)) (kk : jW p l e R s m args below meth c D A n Q cells slots (pc + 3) lv (.int (if x < y then y else x) :: st) ws) : jW p l e R s m args below meth c D A n Q cells slots (pc) lv (.int y :: .int x :: st) ws :=
  fun H locs ls hP hD hS h => va_mmax X.1 X.2.1 (X.2.2.1.trans h.1.symm) X.ow (X.hts _ hl) (X.hts _ hs1) (X.hts _ hi) (X.hts _ hco) hR.1 hR.2.1 hR.2.2.1 hR.2.2.2 hdg (kk H locs ls hP hD hS h)
theorem j_mmin {index : Nat} {x y : Int32} (X : jC p s m args meth c cc own D tys tt A n) (hl : Cond.methodLink own index Lib.Math.min.name ∈ GG) (hs1 : Cond.static Lib.Math.min.name ∈ GG) (hi : Cond.initialized "java/lang/Math" ∈ GG) (hco : Cond.code Lib.Math.min.name Lib.Math.min.code 2 (some .int) ∈ GG) (hR : 1 ≤ R.frames ∧ (st.map fun v => v.category).sum + 13 ≤ R.locals ∧ cells ≤ R.cells ∧ slots ≤ R.slots) (hdg : decode cc pc = .ok (.invokestatic index, 3)) (kk : jW p l e R s m args below meth c D A n Q cells slots (pc + 3) lv (.int (if y < x then y else x) :: st) ws) : jW p l e R s m args below meth c D A n Q cells slots (pc) lv (.int y :: .int x :: st) ws :=
  fun H locs ls hP hD hS h => va_mmin X.1 X.2.1 (X.2.2.1.trans h.1.symm) X.ow (X.hts _ hl) (X.hts _ hs1) (X.hts _ hi) (X.hts _ hco) hR.1 hR.2.1 hR.2.2.1 hR.2.2.2 hdg (kk H locs ls hP hD hS h)
theorem j_mabs {index : Nat} {x : Int32} (X : jC p s m args meth c cc own D tys tt A n) (hl : Cond.methodLink own index Lib.Math.abs.name ∈ GG) (hs1 : Cond.static Lib.Math.abs.name ∈ GG) (hi : Cond.initialized "java/lang/Math" ∈ GG) (hco : Cond.code Lib.Math.abs.name Lib.Math.abs.code 1 (some .int) ∈ GG) (hR : 1 ≤ R.frames ∧ (st.map fun v => v.category).sum + 13 ≤ R.locals ∧ cells ≤ R.cells ∧ slots ≤ R.slots) (hdg : decode cc pc = .ok (.invokestatic index, 3)) (kk : jW p l e R s m args below meth c D A n Q cells slots (pc + 3) lv (.int (if 0 ≤ x then x else 0 - x) :: st) ws) : jW p l e R s m args below meth c D A n Q cells slots (pc) lv (.int x :: st) ws :=
  fun H locs ls hP hD hS h => va_mabs X.1 X.2.1 (X.2.2.1.trans h.1.symm) X.ow (X.hts _ hl) (X.hts _ hs1) (X.hts _ hi) (X.hts _ hco) hR.1 hR.2.1 hR.2.2.1 hR.2.2.2 hdg (kk H locs ls hP hD hS h)
theorem j_copyl {index a0 a : Nat} {c0 c1 : ClassId} {n0 n1 : Nat} {f g g2 : Nat → Int64} {sp dp k : Int32} {ws2 : va_W} (X : jC p s m args meth c cc own D tys tt A n) (q0 q1 t0 t1 : Nat) (hl : Cond.methodLink own index arraycopyName ∈ GG) (hna : Cond.native arraycopyName ∈ GG) (hs1 : Cond.static arraycopyName ∈ GG) (hi : Cond.initialized "java/lang/System" ∈ GG) (ha0 : ws[q0]? = some (a0, .inl (c0, n0, .inr (.inl f)))) (ha1 : ws[q1]? = some (a, .inl (c1, n1, .inr (.inl g)))) (ht0 : tys[t0]? = some (c0, .long)) (ht1 : tys[t1]? = some (c1, .long)) (h1 : ¬ sp < 0) (h2 : ¬ dp < 0) (h3 : ¬ k < 0) (h4 : sp.toNatClampNeg + k.toNatClampNeg ≤ n0) (h5 : dp.toNatClampNeg + k.toNatClampNeg ≤ n1) (hR : 1 ≤ R.frames ∧ (st.map fun v => v.category).sum + (nativeFrameWords "java/lang/System" "arraycopy" 5 + 11) ≤ R.locals) (hdg : decode cc pc = .ok (.invokestatic index, 3)) (hf : va_cpy f g sp.toNatClampNeg dp.toNatClampNeg k.toNatClampNeg = g2) (hws : ws.set q1 (a, .inl (c1, n1, .inr (.inl g2))) = ws2) (kk : jW p l e R s m args below meth c D A n Q cells slots (pc + 3) lv (st) ws2) : jW p l e R s m args below meth c D A n Q cells slots (pc) lv (.int k :: .int dp :: .ref a :: .int sp :: .ref a0 :: st) ws :=
  by
  subst hf; subst hws
  exact fun H locs ls hP hD hS h => va_copyl X.1 X.2.1 (X.2.2.1.trans h.1.symm) X.ow (X.hts _ hl) (X.hts _ hna) (X.hts _ hs1) (X.hts _ hi) X.K hP hD hS q0 q1 t0 t1 ha0 ha1 ht0 ht1 rfl h1 h2 h3 h4 h5 (fun i _ => rfl) hR.1 hR.2 hdg (fun H1 locs1 hP1 hD1 hS1 => kk H1 locs1 ls hP1 hD1 hS1 h)
theorem j_iret {v : Int32} {o : Option Value} {ws1 : va_W} (X : jC p s m args meth c cc own D tys tt A n) (hr : meth.sig.returnType = some .int) (hdg : decode cc pc = .ok (.ireturn, 1)) (ho : o = some (.int v)) (hw : ws1 = ws) : jW p l e R s m args below meth c D A n (MQ below (jQ D o ws1 A) args s cells slots A) cells slots (pc) lv ([.int v]) ws :=
  by
  subst ho; subst hw
  exact fun H locs ls hP hD hS h => W.iret X.1 X.2.1 hr (fun t ht hW => ⟨⟨rfl, by rw [ht]; exact hP⟩, hS.F ht⟩) hS.2.2 hdg X.lk
theorem j_zret {v : Int32} {o : Option Value} {ws1 : va_W} (X : jC p s m args meth c cc own D tys tt A n) (hr : meth.sig.returnType = some .boolean) (hn : narrow .boolean (.int v) = .int v) (hdg : decode cc pc = .ok (.ireturn, 1)) (ho : o = some (.int v)) (hw : ws1 = ws) : jW p l e R s m args below meth c D A n (MQ below (jQ D o ws1 A) args s cells slots A) cells slots (pc) lv ([.int v]) ws :=
  by
  subst ho; subst hw
  exact fun H locs ls hP hD hS h => W.zret X.1 X.2.1 hr hn (fun t ht hW => ⟨⟨rfl, by rw [ht]; exact hP⟩, hS.F ht⟩) hS.2.2 hdg X.lk
theorem j_lret {v : Int64} {o : Option Value} {ws1 : va_W} (X : jC p s m args meth c cc own D tys tt A n) (hr : meth.sig.returnType = some .long) (hdg : decode cc pc = .ok (.lreturn, 1)) (ho : o = some (.long v)) (hw : ws1 = ws) : jW p l e R s m args below meth c D A n (MQ below (jQ D o ws1 A) args s cells slots A) cells slots (pc) lv ([.long v]) ws :=
  by
  subst ho; subst hw
  exact fun H locs ls hP hD hS h => W.lret X.1 X.2.1 hr (fun t ht hW => ⟨⟨rfl, by rw [ht]; exact hP⟩, hS.F ht⟩) hS.2.2 hdg X.lk
theorem j_vret {o : Option Value} {ws1 : va_W} (X : jC p s m args meth c cc own D tys tt A n) (hr : meth.sig.returnType = none) (hdg : decode cc pc = .ok (.return_, 1)) (ho : o = none) (hw : ws1 = ws) : jW p l e R s m args below meth c D A n (MQ below (jQ D o ws1 A) args s cells slots A) cells slots (pc) lv ([]) ws :=
  by
  subst ho; subst hw
  exact fun H locs ls hP hD hS h => W.vret X.1 X.2.1 hr (fun t ht hW => ⟨⟨rfl, by rw [ht]; exact hP⟩, hS.F ht⟩) hS.2.2 hdg X.lk
theorem j_aret {v : Option Nat} {nm : String} {o : Option Value} {ws1 : va_W} (X : jC p s m args meth c cc own D tys tt A n) (hr : meth.sig.returnType = some (.object nm)) (hdg : decode cc pc = .ok (.areturn, 1)) (ho : o = some (va_rf v)) (hw : ws1 = ws) : jW p l e R s m args below meth c D A n (MQ below (jQ D o ws1 A) args s cells slots A) cells slots (pc) lv ([va_rf v]) ws :=
  by
  subst ho; subst hw
  exact fun H locs ls hP hD hS h => W.aret X.1 X.2.1 hr (Or.inl ⟨_, rfl⟩) (by cases v with | none => exact Or.inl rfl | some a => exact Or.inr ⟨a, rfl⟩) (fun t ht hW => ⟨⟨rfl, by rw [ht]; exact hP⟩, hS.F ht⟩) hS.2.2 hdg X.lk
/-- what a call leaves of the world: by where each cell comes from -/
theorem j_after {H H1 : Heap} {wc w1 ws2 : va_W} (hP : va_P D vwCl ws H) (hD : va_D A ws) (isC : List Nat) (hC : isC.map (fun i => ws[i]?) = wc.map some) (src : List (Nat ⊕ Nat)) (hsrc : src.map (fun q => match q with | .inl i => ws[i]? | .inr j => w1[j]?) = ws2.map some) (hno : src.all (fun q => match q with | .inl i => !(isC.contains i) | .inr _ => true) = true) (hadr : ws2.map Prod.fst = ws.map Prod.fst)
    (hk : ∀ q : Nat, q < H.size → ¬ va_A wc H.size q → H1[q]? = H[q]?) (hP1 : va_P D vwCl w1 H1) : va_P D vwCl ws2 H1 ∧ va_D A ws2 := by
  refine ⟨fun k q hq => ?_, ?_⟩
  · have h1 : (src.map (fun q => match q with | .inl i => ws[i]? | .inr j => w1[j]?))[k]? = some (some q) := by rw [hsrc, List.getElem?_map, hq]; rfl
    rw [List.getElem?_map] at h1
    cases hs : src[k]? with
    | none => rw [hs] at h1; cases h1
    | some z =>
      rw [hs] at h1
      have h2 := Option.some.inj h1
      cases z with
      | inr j => exact hP1 j q h2
      | inl i =>
        have hni := List.all_eq_true.mp hno _ (List.mem_of_getElem? hs)
        have h2 : ws[i]? = some q := h2
        refine (hP i q h2).kept (hk q.1 (hP i q h2).lt (fun hA => ?_))
        rcases hA with ⟨k2, ee, hw⟩ | hw
        · have h3 : (isC.map (fun i => ws[i]?))[k2]? = some (some (q.1, ee)) := by rw [hC, List.getElem?_map, hw]; rfl
          rw [List.getElem?_map] at h3
          cases hi : isC[k2]? with
          | none => rw [hi] at h3; cases h3
          | some i2 =>
            rw [hi] at h3
            have h4 : ws[i2]? = some (q.1, ee) := Option.some.inj h3
            have h5 := hD.1 i i2 q _ h2 h4 rfl
            subst h5
            have h6 : isC.contains i = true := List.contains_iff_mem.mpr (List.mem_of_getElem? hi)
            simp only [h6] at hni
            cases hni
        · have h7 := (hP i q h2).lt
          omega
  · have key : ∀ (k : Nat) (q : Nat × va_E), ws2[k]? = some q → ∃ q0, ws[k]? = some q0 ∧ q0.1 = q.1 := by
      intro k q hq
      have h1 : (ws2.map Prod.fst)[k]? = some q.1 := by rw [List.getElem?_map, hq]; rfl
      rw [hadr, List.getElem?_map] at h1
      cases h0 : ws[k]? with
      | none => rw [h0] at h1; cases h1
      | some q0 => rw [h0] at h1; exact ⟨q0, rfl, Option.some.inj h1⟩
    refine ⟨fun i j x y hi hj hxy => ?_, fun k q hk2 => ?_⟩
    · obtain ⟨x0, a1, a2⟩ := key i x hi
      obtain ⟨y0, b1, b2⟩ := key j y hj
      exact hD.1 i j x0 y0 a1 b1 (a2.trans (hxy.trans b2.symm))
    · obtain ⟨q0, a1, a2⟩ := key k q hk2
      rw [← a2]
      exact hD.2 k q0 a1
theorem j_pre {H : Heap} {locs : List Loc} {wc : va_W} {As : List Value} (X : jC p s m args meth c cc own D tys tt A n) (hP : va_P D vwCl ws H) (hD : va_D A ws) (hS : va_S A s.heap H locs) (isC : List Nat) (hn : va_nd isC = true) (hC : isC.map (fun i => ws[i]?) = wc.map some) :
    FrameBlind (va_Pc As (jPre D tys tt wc H.size)) ∧ ∀ U : State, U.heap = H → s.WarmedH U.vm → va_Pc As (jPre D tys tt wc H.size) As.toArray U := by
  refine ⟨jPre.blind, fun U hU hW => ⟨rfl, by rw [hU], ?_, X.K.moved hW.alike, (hD.sub isC hn hC).weaken (fun _ _ _ _ => trivial), ?_⟩⟩
  · rw [hU]
    intro k q hq
    have h1 : (isC.map (fun i => ws[i]?))[k]? = some (some q) := by rw [hC, List.getElem?_map, hq]; rfl
    rw [List.getElem?_map] at h1
    cases hi : isC[k]? with
    | none => rw [hi] at h1; cases h1
    | some i => rw [hi] at h1; exact hP i q (Option.some.inj h1)
  · rw [hU]
    exact X.Z.to hW (fun a h1 h2 => hS.2.1 a h1 h2) (va_free hD hS X.hA isC hC)
theorem j_run {H : Heap} {locs : List Loc} {ls : Array Slot} {rest : List Value} {wc w1 ws2 : va_W} {o : Option Value} {av : List Value} (X : jC p s m args meth c cc own D tys tt A n) (hP : va_P D vwCl ws H) (hD : va_D A ws) (hS : va_S A s.heap H locs) (h : lv_has ls n lv) (isC : List Nat) (hC : isC.map (fun i => ws[i]?) = wc.map some) (src : List (Nat ⊕ Nat)) (hsrc : src.map (fun q => match q with | .inl i => ws[i]? | .inr j => w1[j]?) = ws2.map some) (hno : src.all (fun q => match q with | .inl i => !(isC.contains i) | .inr _ => true) = true) (hadr : ws2.map Prod.fst = ws.map Prod.fst)
    (hr : va_Run p l e R s m args below meth c H locs cells slots 0 0 (F0 m pc ls st) rest (jQ D o w1 (va_A wc H.size) av.toArray) (va_A wc H.size))
    (kk : jW p l e R s m args below meth c D A n Q cells slots (pc + 3) lv (o.toList ++ rest) ws2) : W p l e R s m args below meth c H locs cells slots Q (F0 m pc ls st) := by
  have hf := va_free hD hS X.hA isC hC
  intro T hT XS
  obtain ⟨v, st₀, t, T', L, h0, X', hL, e1, e2, ⟨⟨hv, hp⟩, hz, hk⟩, stp⟩ := hr T hT XS
  cases hv
  rw [h0] at hz hk
  have hk1 : ∀ q : Nat, q < H.size → ¬ va_A wc H.size q → T'.heap[q]? = H[q]? := fun q h1 h2 => by rw [e1]; exact hk q h1 h2
  obtain ⟨hP2, hD2⟩ := j_after hP hD isC hC src hsrc hno hadr hk1 (by rw [e1]; exact hp)
  obtain ⟨t2, a1, b1⟩ := kk T'.heap (locs ++ L) ls hP2 hD2 ⟨Nat.le_trans hS.1 (by rw [e1]; exact hz), fun q h1 h2 => by rw [hk1 q (Nat.lt_of_lt_of_le h1 hS.1) (fun z => h2 (hf q z))]; exact hS.2.1 q h1 h2, fun q hq => by
      rcases List.mem_append.mp hq with h | h
      · exact hS.2.2 q h
      · exact hf _ (hL q h)⟩ h T' rfl X'
  exact ⟨t2, stp t2 a1, b1⟩
set_option maxHeartbeats 4000000 in
theorem j_callV {y : MethodName} {bytes : ByteArray} {maxL : Nat} {ret : Option FieldType} {rm : Room} {index : Nat} {As rest : List Value} {wc w1 ws2 : va_W} {o : Option Value} {b q0 ci : Nat} {fs : List Value} {T : u_T} {N : Nat} (X : jC p s m args meth c cc own D tys tt A n) (hM : jM l y (.code y bytes maxL ret) rm D tys tt (.ref b :: As) wc o w1) (isC : List Nat) (src : List (Nat ⊕ Nat)) (hcode : Cond.code y bytes maxL ret ∈ GG) (hl : Cond.methodLink own index y ∈ GG) (hin : Cond.instanceMethod y ∈ GG) (hsel : Cond.selects y.cls y y ∈ GG) (he : ws[q0]? = some (b, .inr (ci, fs))) (hcl : vwCl[ci]? = some (y.cls, T, N)) (hini : Cond.initialized y.cls ∈ GG) (hd : y.cls ≠ "java/lang/invoke/MethodHandle" ∧ y.cls ≠ "java/lang/invoke/VarHandle" ∧ (parseMethodDescriptor y.desc).map (fun d => d.parameters.length) = some As.length) (hR : rm.cells = 0 ∧ rm.slots = 0 ∧ rm.frames + 1 ≤ R.frames ∧ 8 + (maxL + 11) + rm.locals ≤ R.locals ∧ cells ≤ R.cells ∧ slots ≤ R.slots) (hcat : (rest.map fun v => v.category).sum ≤ 8) (hdg : decode cc pc = .ok (.invokevirtual index, 3)) (hn1 : va_nd isC = true) (hC : isC.map (fun i => ws[i]?) = wc.map some) (hsrc : src.map (fun q => match q with | .inl i => ws[i]? | .inr j => w1[j]?) = ws2.map some) (hno : src.all (fun q => match q with | .inl i => !(isC.contains i) | .inr _ => true) = true) (hadr : ws2.map Prod.fst = ws.map Prod.fst) (hst : st = As.reverse ++ .ref b :: rest) (kk : jW p l e R s m args below meth c D A n Q cells slots (pc + 3) lv (o.toList ++ rest) ws2) : jW p l e R s m args below meth c D A n Q cells slots (pc) lv (st) ws := by
  subst hst
  intro H locs ls hP hD hS h
  exact j_run X hP hD hS h isC hC src hsrc hno hadr (va_runV (As := As) (rest := rest) (C := y.cls) ⟨X.1, X.2.1, X.2.2.1, X.ow, X.hts⟩ (hM H.size) ⟨callB_of As.length X.hts (GG_self hcode) rfl hR.1 hR.2.1 (X.hts _ hini) (X.hts _ hl) hd ⟨hR.2.2.1, hR.2.2.2.1⟩, X.hts _ hin, X.hts _ hsel⟩ ⟨(j_pre X hP hD hS isC hn1 hC).1, va_recv X.K hP hcl he, (j_pre X hP hD hS isC hn1 hC).2⟩ rfl rfl h.1 rfl (lv_room hcat) hdg ⟨hR.2.2.2.2.1, hR.2.2.2.2.2⟩) kk
set_option maxHeartbeats 4000000 in
theorem j_callS {y : MethodName} {bytes : ByteArray} {maxL : Nat} {ret : Option FieldType} {rm : Room} {index : Nat} {As rest : List Value} {wc w1 ws2 : va_W} {o : Option Value} (X : jC p s m args meth c cc own D tys tt A n) (hM : jM l y (.code y bytes maxL ret) rm D tys tt As wc o w1) (isC : List Nat) (src : List (Nat ⊕ Nat)) (hcode : Cond.code y bytes maxL ret ∈ GG) (hl : Cond.methodLink own index y ∈ GG) (hsta : Cond.static y ∈ GG) (hini : Cond.initialized y.cls ∈ GG) (hd : y.cls ≠ "java/lang/invoke/MethodHandle" ∧ y.cls ≠ "java/lang/invoke/VarHandle" ∧ (parseMethodDescriptor y.desc).map (fun d => d.parameters.length) = some As.length) (hR : rm.cells = 0 ∧ rm.slots = 0 ∧ rm.frames + 1 ≤ R.frames ∧ 8 + (maxL + 11) + rm.locals ≤ R.locals ∧ cells ≤ R.cells ∧ slots ≤ R.slots) (hcat : (rest.map fun v => v.category).sum ≤ 8) (hdg : decode cc pc = .ok (.invokestatic index, 3)) (hn1 : va_nd isC = true) (hC : isC.map (fun i => ws[i]?) = wc.map some) (hsrc : src.map (fun q => match q with | .inl i => ws[i]? | .inr j => w1[j]?) = ws2.map some) (hno : src.all (fun q => match q with | .inl i => !(isC.contains i) | .inr _ => true) = true) (hadr : ws2.map Prod.fst = ws.map Prod.fst) (hst : st = As.reverse ++ rest) (kk : jW p l e R s m args below meth c D A n Q cells slots (pc + 3) lv (o.toList ++ rest) ws2) : jW p l e R s m args below meth c D A n Q cells slots (pc) lv (st) ws := by
  subst hst
  intro H locs ls hP hD hS h
  exact j_run X hP hD hS h isC hC src hsrc hno hadr (va_runS (As := As) (rest := rest) ⟨X.1, X.2.1, X.2.2.1, X.ow, X.hts⟩ (hM H.size) ⟨callB_of As.length X.hts (GG_self hcode) rfl hR.1 hR.2.1 (X.hts _ hini) (X.hts _ hl) hd ⟨hR.2.2.1, hR.2.2.2.1⟩, X.hts _ hsta⟩ (j_pre X hP hD hS isC hn1 hC) rfl rfl h.1 rfl (lv_room hcat) hdg ⟨hR.2.2.2.2.1, hR.2.2.2.2.2⟩) kk
set_option maxHeartbeats 4000000 in
theorem j_callSN {y : MethodName} {bytes : ByteArray} {maxL : Nat} {ret : Option FieldType} {rm : Room} {index : Nat} {As rest : List Value} {wc w1 ws2 : va_W} {o : Option Value} {host : String} (X : jC p s m args meth c cc own D tys tt A n) (hM : jM l y (.code y bytes maxL ret) rm D tys tt As wc o w1) (isC : List Nat) (src : List (Nat ⊕ Nat)) (hcode : Cond.code y bytes maxL ret ∈ GG) (hl : va_Nw (.methodLinkNest own index y host) s) (hsta : Cond.static y ∈ GG) (hini : Cond.initialized y.cls ∈ GG) (hd : y.cls ≠ "java/lang/invoke/MethodHandle" ∧ y.cls ≠ "java/lang/invoke/VarHandle" ∧ (parseMethodDescriptor y.desc).map (fun d => d.parameters.length) = some As.length) (hR : rm.cells = 0 ∧ rm.slots = 0 ∧ rm.frames + 1 ≤ R.frames ∧ 8 + (maxL + 11) + rm.locals ≤ R.locals ∧ cells ≤ R.cells ∧ slots ≤ R.slots) (hcat : (rest.map fun v => v.category).sum ≤ 8) (hdg : decode cc pc = .ok (.invokestatic index, 3)) (hn1 : va_nd isC = true) (hC : isC.map (fun i => ws[i]?) = wc.map some) (hsrc : src.map (fun q => match q with | .inl i => ws[i]? | .inr j => w1[j]?) = ws2.map some) (hno : src.all (fun q => match q with | .inl i => !(isC.contains i) | .inr _ => true) = true) (hadr : ws2.map Prod.fst = ws.map Prod.fst) (hst : st = As.reverse ++ rest) (kk : jW p l e R s m args below meth c D A n Q cells slots (pc + 3) lv (o.toList ++ rest) ws2) : jW p l e R s m args below meth c D A n Q cells slots (pc) lv (st) ws := by
  subst hst
  intro H locs ls hP hD hS h
  exact j_run X hP hD hS h isC hC src hsrc hno hadr (va_runSN (As := As) (rest := rest) ⟨X.1, X.2.1, X.2.2.1, X.ow, X.hts⟩ (hM H.size) ⟨va_cnB As.length X.hts (GG_self hcode) rfl hR.1 hR.2.1 hl (X.hts _ hini) hd ⟨hR.2.2.1, hR.2.2.2.1⟩, X.hts _ hsta, trivial⟩ (j_pre X hP hD hS isC hn1 hC) rfl rfl h.1 rfl (lv_room hcat) hdg ⟨hR.2.2.2.2.1, hR.2.2.2.2.2⟩) kk
end JROWS
theorem hiX0_k : ∀ k, k < 15 → u_lay RX0 TX0 k ∈ GG := lt_s (p := fun k => u_lay RX0 TX0 k ∈ GG) (lt_s (p := fun k => u_lay RX0 TX0 k ∈ GG) (lt_s (p := fun k => u_lay RX0 TX0 k ∈ GG) (lt_s (p := fun k => u_lay RX0 TX0 k ∈ GG) (lt_s (p := fun k => u_lay RX0 TX0 k ∈ GG) (lt_s (p := fun k => u_lay RX0 TX0 k ∈ GG) (lt_s (p := fun k => u_lay RX0 TX0 k ∈ GG) (lt_s (p := fun k => u_lay RX0 TX0 k ∈ GG) (lt_s (p := fun k => u_lay RX0 TX0 k ∈ GG) (lt_s (p := fun k => u_lay RX0 TX0 k ∈ GG) (lt_s (p := fun k => u_lay RX0 TX0 k ∈ GG) (lt_s (p := fun k => u_lay RX0 TX0 k ∈ GG) (lt_s (p := fun k => u_lay RX0 TX0 k ∈ GG) (lt_s (p := fun k => u_lay RX0 TX0 k ∈ GG) (lt_s (p := fun k => u_lay RX0 TX0 k ∈ GG) (lt_0) k_119) k_121) k_123) k_125) k_127) k_129) k_131) k_133) k_135) k_137) k_139) k_141) k_143) k_145) k_147
theorem hiX0 : ∀ w ∈ u_ws RX0 TX0 15, w ∈ GG := by
  intro w hw
  obtain ⟨k, hk, rfl⟩ := List.mem_map.mp hw
  exact hiX0_k k (List.mem_range.mp hk)
theorem hiX1_k : ∀ k, k < 2 → u_lay RX1 TX1 k ∈ GG := lt_s (p := fun k => u_lay RX1 TX1 k ∈ GG) (lt_s (p := fun k => u_lay RX1 TX1 k ∈ GG) (lt_0) k_212) k_214
theorem hiX1 : ∀ w ∈ u_ws RX1 TX1 2, w ∈ GG := by
  intro w hw
  obtain ⟨k, hk, rfl⟩ := List.mem_map.mp hw
  exact hiX1_k k (List.mem_range.mp hk)
theorem hiX2_k : ∀ k, k < 4 → u_lay RX2 TX2 k ∈ GG := lt_s (p := fun k => u_lay RX2 TX2 k ∈ GG) (lt_s (p := fun k => u_lay RX2 TX2 k ∈ GG) (lt_s (p := fun k => u_lay RX2 TX2 k ∈ GG) (lt_s (p := fun k => u_lay RX2 TX2 k ∈ GG) (lt_0) k_88) k_90) k_92) k_94
theorem hiX2 : ∀ w ∈ u_ws RX2 TX2 4, w ∈ GG := by
  intro w hw
  obtain ⟨k, hk, rfl⟩ := List.mem_map.mp hw
  exact hiX2_k k (List.mem_range.mp hk)
theorem hiX3_k : ∀ k, k < 3 → u_lay RX3 TX3 k ∈ GG := lt_s (p := fun k => u_lay RX3 TX3 k ∈ GG) (lt_s (p := fun k => u_lay RX3 TX3 k ∈ GG) (lt_s (p := fun k => u_lay RX3 TX3 k ∈ GG) (lt_0) k_177) k_179) k_181
theorem hiX3 : ∀ w ∈ u_ws RX3 TX3 3, w ∈ GG := by
  intro w hw
  obtain ⟨k, hk, rfl⟩ := List.mem_map.mp hw
  exact hiX3_k k (List.mem_range.mp hk)
theorem hiX4_k : ∀ k, k < 3 → u_lay RX4 TX4 k ∈ GG := lt_s (p := fun k => u_lay RX4 TX4 k ∈ GG) (lt_s (p := fun k => u_lay RX4 TX4 k ∈ GG) (lt_s (p := fun k => u_lay RX4 TX4 k ∈ GG) (lt_0) k_257) k_259) k_261
theorem hiX4 : ∀ w ∈ u_ws RX4 TX4 3, w ∈ GG := by
  intro w hw
  obtain ⟨k, hk, rfl⟩ := List.mem_map.mp hw
  exact hiX4_k k (List.mem_range.mp hk)
theorem hiX5_k : ∀ k, k < 5 → u_lay RX5 TX5 k ∈ GG := lt_s (p := fun k => u_lay RX5 TX5 k ∈ GG) (lt_s (p := fun k => u_lay RX5 TX5 k ∈ GG) (lt_s (p := fun k => u_lay RX5 TX5 k ∈ GG) (lt_s (p := fun k => u_lay RX5 TX5 k ∈ GG) (lt_s (p := fun k => u_lay RX5 TX5 k ∈ GG) (lt_0) k_232) k_234) k_236) k_238) k_240
theorem hiX5 : ∀ w ∈ u_ws RX5 TX5 5, w ∈ GG := by
  intro w hw
  obtain ⟨k, hk, rfl⟩ := List.mem_map.mp hw
  exact hiX5_k k (List.mem_range.mp hk)
theorem hiX6_k : ∀ k, k < 2 → u_lay RX6 TX6 k ∈ GG := lt_s (p := fun k => u_lay RX6 TX6 k ∈ GG) (lt_s (p := fun k => u_lay RX6 TX6 k ∈ GG) (lt_0) k_160) k_162
theorem hiX6 : ∀ w ∈ u_ws RX6 TX6 2, w ∈ GG := by
  intro w hw
  obtain ⟨k, hk, rfl⟩ := List.mem_map.mp hw
  exact hiX6_k k (List.mem_range.mp hk)
theorem hiX7_k : ∀ k, k < 4 → u_lay RX7 TX7 k ∈ GG := lt_s (p := fun k => u_lay RX7 TX7 k ∈ GG) (lt_s (p := fun k => u_lay RX7 TX7 k ∈ GG) (lt_s (p := fun k => u_lay RX7 TX7 k ∈ GG) (lt_s (p := fun k => u_lay RX7 TX7 k ∈ GG) (lt_0) k_192) k_194) k_196) k_198
theorem hiX7 : ∀ w ∈ u_ws RX7 TX7 4, w ∈ GG := by
  intro w hw
  obtain ⟨k, hk, rfl⟩ := List.mem_map.mp hw
  exact hiX7_k k (List.mem_range.mp hk)
theorem hiX8_k : ∀ k, k < 7 → u_lay RX8 TX8 k ∈ GG := lt_s (p := fun k => u_lay RX8 TX8 k ∈ GG) (lt_s (p := fun k => u_lay RX8 TX8 k ∈ GG) (lt_s (p := fun k => u_lay RX8 TX8 k ∈ GG) (lt_s (p := fun k => u_lay RX8 TX8 k ∈ GG) (lt_s (p := fun k => u_lay RX8 TX8 k ∈ GG) (lt_s (p := fun k => u_lay RX8 TX8 k ∈ GG) (lt_s (p := fun k => u_lay RX8 TX8 k ∈ GG) (lt_0) k_271) k_273) k_275) k_277) k_279) k_281) k_283
theorem hiX8 : ∀ w ∈ u_ws RX8 TX8 7, w ∈ GG := by
  intro w hw
  obtain ⟨k, hk, rfl⟩ := List.mem_map.mp hw
  exact hiX8_k k (List.mem_range.mp hk)
theorem hiX9_k : ∀ k, k < 21 → u_lay RX9 TX9 k ∈ GG := lt_s (p := fun k => u_lay RX9 TX9 k ∈ GG) (lt_s (p := fun k => u_lay RX9 TX9 k ∈ GG) (lt_s (p := fun k => u_lay RX9 TX9 k ∈ GG) (lt_s (p := fun k => u_lay RX9 TX9 k ∈ GG) (lt_s (p := fun k => u_lay RX9 TX9 k ∈ GG) (lt_s (p := fun k => u_lay RX9 TX9 k ∈ GG) (lt_s (p := fun k => u_lay RX9 TX9 k ∈ GG) (lt_s (p := fun k => u_lay RX9 TX9 k ∈ GG) (lt_s (p := fun k => u_lay RX9 TX9 k ∈ GG) (lt_s (p := fun k => u_lay RX9 TX9 k ∈ GG) (lt_s (p := fun k => u_lay RX9 TX9 k ∈ GG) (lt_s (p := fun k => u_lay RX9 TX9 k ∈ GG) (lt_s (p := fun k => u_lay RX9 TX9 k ∈ GG) (lt_s (p := fun k => u_lay RX9 TX9 k ∈ GG) (lt_s (p := fun k => u_lay RX9 TX9 k ∈ GG) (lt_s (p := fun k => u_lay RX9 TX9 k ∈ GG) (lt_s (p := fun k => u_lay RX9 TX9 k ∈ GG) (lt_s (p := fun k => u_lay RX9 TX9 k ∈ GG) (lt_s (p := fun k => u_lay RX9 TX9 k ∈ GG) (lt_s (p := fun k => u_lay RX9 TX9 k ∈ GG) (lt_s (p := fun k => u_lay RX9 TX9 k ∈ GG) (lt_0) k_686) k_688) k_690) k_692) k_694) k_696) k_698) k_700) k_702) k_704) k_706) k_708) k_710) k_712) k_714) k_716) k_718) k_720) k_722) k_724) k_726
theorem hiX9 : ∀ w ∈ u_ws RX9 TX9 21, w ∈ GG := by
  intro w hw
  obtain ⟨k, hk, rfl⟩ := List.mem_map.mp hw
  exact hiX9_k k (List.mem_range.mp hk)
abbrev wTy (cI cJ cB cT : ClassId) : List (ClassId × FieldType) := [(cI, .int), (cJ, .long), (cB, .byte), (cT, .object "WatchBeats$Tape")]
end
section
abbrev cBal (ad : Nat) (rP rA : Nat) (b : Nat → Int32) (se : Int64) (z : Int32) : Nat × va_E := (ad, .inr (0, [.int (b 0), .int (b 1), .int (b 3), .int (b 4), .int (b 7), .int (b 8), .int (b 9), .int (b 10), .int (b 2), .int (b 5), .int (b 6), .ref rP, .ref rA, .long se, .int z]))
abbrev cHea (ad : Nat) (ra : Nat) (n : Int32) : Nat × va_E := (ad, .inr (1, [.ref ra, .int n]))
abbrev cPus (ad : Nat) (rt rw rs : Nat) (k : Int32) : Nat × va_E := (ad, .inr (2, [.ref rt, .ref rw, .ref rs, .int k]))
abbrev cRow (ad : Nat) (rf rs : Nat) (k : Int32) : Nat × va_E := (ad, .inr (3, [.ref rf, .ref rs, .int k]))
abbrev cTap (ad : Nat) (ri : Nat) (so : Int32) (si : Int32) : Nat × va_E := (ad, .inr (4, [.int so, .int si, .ref ri]))
abbrev cTex (ad : Nat) (rs rw rm : Nat) (le : Int32) (cl : Int32) : Nat × va_E := (ad, .inr (5, [.ref rs, .int le, .ref rw, .ref rm, .int cl]))
abbrev cTra (ad : Nat) (rf : Nat) (k : Int32) : Nat × va_E := (ad, .inr (6, [.ref rf, .int k]))
abbrev cWho (ad : Nat) (rB rT rS rK : Nat)  : Nat × va_E := (ad, .inr (7, [.ref rB, .ref rT, .ref rS, .ref rK]))
abbrev cWB (ad : Nat) (rn rk rh re rx rq : Nat) (ik : Int32) : Nat × va_E := (ad, .inr (8, [.ref rn, .ref rk, .int ik, .ref rh, .ref re, .ref rx, .ref rq]))
abbrev cMod (ad : Nat) (rn ro rh rA rO rH rb rx rc rm rs rz ri rv : Nat) (im : Int32) (be : Int32) (bg : Int32) (tx : Int32) (ta : Int32) (fa : Int32) (cl : Int32) : Nat × va_E := (ad, .inr (9, [.ref rn, .ref ro, .ref rh, .int im, .ref rA, .ref rO, .ref rH, .int be, .int bg, .ref rb, .int tx, .ref rx, .int ta, .int fa, .int cl, .ref rc, .ref rm, .ref rs, .ref rz, .ref ri, .ref rv]))
abbrev cIar (c : ClassId) (ad N : Nat) (f : Nat → Int32) : Nat × va_E := (ad, .inl (c, N, .inl f))
abbrev cJar (c : ClassId) (ad N : Nat) (f : Nat → Int64) : Nat × va_E := (ad, .inl (c, N, .inr (.inl f)))
abbrev cQar (c : ClassId) (ad N : Nat) (f : Nat → Option Nat) : Nat × va_E := (ad, .inl (c, N, .inr (.inr (.inr (.inr f)))))
end
section
def rmX0_energyNow : Room := { frames := 0, cells := 0, slots := 0, locals := 0 }
theorem hdX0_energyNow : yX0_energyNow.cls ≠ "java/lang/invoke/MethodHandle" ∧ yX0_energyNow.cls ≠ "java/lang/invoke/VarHandle" ∧ (parseMethodDescriptor yX0_energyNow.desc).map (fun d => d.parameters.length) = some 0 := by decide +kernel
def fX0_energyNow (b : Nat → Int32) (se : Int64) (z : Int32) : Option (Int64) :=
  some ((((32 : Int64) * ((b 1).toInt64)) * ((b 1).toInt64)) + ((((b 2).toInt64) * ((b 0).toInt64)) * ((b 0).toInt64)))
set_option maxHeartbeats 8000000 in
set_option maxRecDepth 100000 in
theorem mX0_energyNow (l : Launch) (D : va_G) (cI cJ cB cT : ClassId) (tt : Nat → Nat) (r_ r_P r_A : Nat)  {b : Nat → Int32} {se : Int64} {z : Int32} {out : Int64} (h : fX0_energyNow b se z = some out) :
    jM l yX0_energyNow (.code yX0_energyNow cX0_energyNow 1 (some .long)) rmX0_energyNow D (wTy cI cJ cB cT) tt [.ref r_] [cBal r_ r_P r_A b se z] (some (.long out)) [cBal r_ r_P r_A b se z] := by
  refine jM.of (by decide) (Nat.le_of_ble_eq_true rfl) ?_
  intro p e s m below meth c A X hr
  refine j_sub (lv2 := [(0, .ref r_)]) [0] rfl ?_
  have hR := h
  unfold fX0_energyNow at hR
  refine j_ldc2 X k_320 dX0_energyNow_0 ?_
  refine j_aload_n X (q := 0) dX0_energyNow_3 rfl ?_
  refine j_get X 0 1 hiX0 k_100 dX0_energyNow_4 rfl rfl (by decide) rfl ?_
  refine j_i2l X dX0_energyNow_7 ?_
  refine j_lmul X dX0_energyNow_8 ?_
  refine j_aload_n X (q := 0) dX0_energyNow_9 rfl ?_
  refine j_get X 0 1 hiX0 k_100 dX0_energyNow_10 rfl rfl (by decide) rfl ?_
  refine j_i2l X dX0_energyNow_13 ?_
  refine j_lmul X dX0_energyNow_14 ?_
  refine j_aload_n X (q := 0) dX0_energyNow_15 rfl ?_
  refine j_get X 0 8 hiX0 k_110 dX0_energyNow_16 rfl rfl (by decide) rfl ?_
  refine j_i2l X dX0_energyNow_19 ?_
  refine j_aload_n X (q := 0) dX0_energyNow_20 rfl ?_
  refine j_get X 0 0 hiX0 k_98 dX0_energyNow_21 rfl rfl (by decide) rfl ?_
  refine j_i2l X dX0_energyNow_24 ?_
  refine j_lmul X dX0_energyNow_25 ?_
  refine j_aload_n X (q := 0) dX0_energyNow_26 rfl ?_
  refine j_get X 0 0 hiX0 k_98 dX0_energyNow_27 rfl rfl (by decide) rfl ?_
  refine j_i2l X dX0_energyNow_30 ?_
  refine j_lmul X dX0_energyNow_31 ?_
  refine j_ladd X dX0_energyNow_32 ?_
  have hR := Option.some.inj hR
  exact j_lret X hr dX0_energyNow_33 (by rw [← hR]) rfl

def rmX0_settle : Room := { frames := 1, cells := 0, slots := 0, locals := 20 }
theorem hdX0_settle : yX0_settle.cls ≠ "java/lang/invoke/MethodHandle" ∧ yX0_settle.cls ≠ "java/lang/invoke/VarHandle" ∧ (parseMethodDescriptor yX0_settle.desc).map (fun d => d.parameters.length) = some 1 := by decide +kernel
def fX0_settle (x1 : Int32) (b : Nat → Int32) (se : Int64) (z : Int32) (f_A : Nat → Int64) : Option (Int64 × (Nat → Int64)) :=
  if z = 0 then (some (se, f_A)) else (if x1 < 0 then (some (se, f_A)) else (if x1 < 4 then ((fX0_energyNow b se z).bind fun o_4 =>
  gd (inb x1 4) (gd (inb x1 4) (lt' (vp_updL f_A x1.toNatClampNeg ((f_A x1.toNatClampNeg) + (o_4 - se))) fun f_A_7 =>
  some (o_4, f_A_7)))) else (some (se, f_A))))
set_option maxHeartbeats 8000000 in
set_option maxRecDepth 100000 in
theorem mX0_settle (l : Launch) (D : va_G) (cI cJ cB cT : ClassId) (tt : Nat → Nat) (r_ r_P r_A : Nat) {x1 : Int32} {b : Nat → Int32} {se : Int64} {z : Int32} {f_A : Nat → Int64} {out : Int64 × (Nat → Int64)} (h : fX0_settle x1 b se z f_A = some out) :
    jM l yX0_settle (.code yX0_settle cX0_settle 4 none) rmX0_settle D (wTy cI cJ cB cT) tt [.ref r_, .int x1] [cBal r_ r_P r_A b se z, cJar cJ r_A 4 f_A] (none) [cBal r_ r_P r_A b out.1 z, cJar cJ r_A 4 out.2] := by
  refine jM.of (by decide) (Nat.le_of_ble_eq_true rfl) ?_
  intro p e s m below meth c A X hr
  refine j_sub (lv2 := [(0, .ref r_), (1, .int x1)]) [0, 1] rfl ?_
  have hR := h
  unfold fX0_settle at hR
  refine j_aload_n X (q := 0) dX0_settle_0 rfl ?_
  refine j_get X 0 14 hiX0 k_118 dX0_settle_1 rfl rfl (by decide) rfl ?_
  refine j_if_eq X (tgt := 20) dX0_settle_4 (by decide) (fun c_1 => ?_) (fun c_1 => ?_)
  · replace hR := (if_pos c_1).symm.trans hR
    have hR := Option.some.inj hR
    exact j_vret X hr dX0_settle_20 rfl (by rw [← hR])
  · replace hR := (if_neg c_1).symm.trans hR
    refine j_iload_n X (q := 1) dX0_settle_7 rfl ?_
    refine j_if_lt X (tgt := 20) dX0_settle_8 (by decide) (fun c_2 => ?_) (fun c_2 => ?_)
    · replace hR := (if_pos c_2).symm.trans hR
      have hR := Option.some.inj hR
      exact j_vret X hr dX0_settle_20 rfl (by rw [← hR])
    · replace hR := (if_neg c_2).symm.trans hR
      refine j_iload_n X (q := 1) dX0_settle_11 rfl ?_
      refine j_aload_n X (q := 0) dX0_settle_12 rfl ?_
      refine j_get X 0 12 hiX0 k_115 dX0_settle_13 rfl rfl (by decide) rfl ?_
      refine j_alen X (v := 4) 1 1 dX0_settle_16 rfl rfl rfl ?_
      refine j_icmp_lt X (tgt := 21) dX0_settle_17 (by decide) (fun c_3 => ?_) (fun c_3 => ?_)
      · replace hR := (if_pos c_3).symm.trans hR
        refine j_aload_n X (q := 0) dX0_settle_21 rfl ?_
        obtain ⟨o_4, ho_4, hR⟩ := bd_some hR
        refine j_callV X (As := []) (rest := []) (ws2 := [cBal r_ r_P r_A b se z, cJar cJ r_A 4 f_A]) (q0 := 0) (ci := 0) (mX0_energyNow l D cI cJ cB cT tt r_ r_P r_A ho_4) [0] [.inr 0, .inl 1] k_319 k_316 k_317 k_318 rfl rfl k_40 hdX0_energyNow (by decide) (Nat.le_of_ble_eq_true rfl) dX0_settle_22 (by decide) rfl rfl (by decide) rfl rfl ?_
        refine j_lstore_n X (lv2 := [(2, .long o_4), (0, .ref r_), (1, .int x1)]) dX0_settle_25 (by decide) rfl ?_
        refine j_aload_n X (q := 1) dX0_settle_26 rfl ?_
        refine j_get X 0 12 hiX0 k_115 dX0_settle_27 rfl rfl (by decide) rfl ?_
        refine j_iload_n X (q := 2) dX0_settle_30 rfl ?_
        refine j_dup2_11 X dX0_settle_31 rfl rfl ?_
        obtain ⟨g_5, hR⟩ := gd_some hR
        refine j_lald X 1 1 rfl dX0_settle_32 rfl rfl g_5 ?_
        refine j_lload_n X (q := 0) dX0_settle_33 rfl ?_
        refine j_aload_n X (q := 1) dX0_settle_34 rfl ?_
        refine j_get X 0 13 hiX0 k_117 dX0_settle_35 rfl rfl (by decide) rfl ?_
        refine j_lsub X dX0_settle_38 ?_
        refine j_ladd X dX0_settle_39 ?_
        obtain ⟨g_6, hR⟩ := gd_some hR
        obtain ⟨f_A_7, ef_A_7, hR⟩ := lt_some hR
        refine j_last X (ws2 := [cBal r_ r_P r_A b se z, cJar cJ r_A 4 f_A_7]) 1 1 rfl dX0_settle_40 rfl rfl g_6 ef_A_7 rfl ?_
        refine j_aload_n X (q := 1) dX0_settle_41 rfl ?_
        refine j_lload_n X (q := 0) dX0_settle_42 rfl ?_
        refine j_put X (ws2 := [cBal r_ r_P r_A b o_4 z, cJar cJ r_A 4 f_A_7]) 0 13 hiX0 tyX0_ok nmX0 k_117 dX0_settle_43 rfl rfl (by decide) (by decide) rfl rfl (Nat.le_of_ble_eq_true rfl) rfl ?_
        have hR := Option.some.inj hR
        exact j_vret X hr dX0_settle_46 rfl (by rw [← hR])
      · replace hR := (if_neg c_3).symm.trans hR
        have hR := Option.some.inj hR
        exact j_vret X hr dX0_settle_20 rfl (by rw [← hR])

def rmX0_valueOf : Room := { frames := 0, cells := 0, slots := 0, locals := 0 }
theorem hdX0_valueOf : yX0_valueOf.cls ≠ "java/lang/invoke/MethodHandle" ∧ yX0_valueOf.cls ≠ "java/lang/invoke/VarHandle" ∧ (parseMethodDescriptor yX0_valueOf.desc).map (fun d => d.parameters.length) = some 1 := by decide +kernel
def fX0_valueOf (x1 : Int32) (b : Nat → Int32) (se : Int64) (z : Int32) (k_P : Int32) : Option (Int32) :=
  if x1 = 0 then (some (b 0)) else (if x1 = 1 then (some (b 1)) else (if x1 = 2 then (some (b 2)) else (if x1 = 3 then (some (b 3)) else (if x1 = 4 then (some (b 4)) else (if x1 = 5 then (some (b 5)) else (if x1 = 6 then (some (b 6)) else (if x1 = 7 then (some (b 7)) else (if x1 = 8 then (some (b 8)) else (if x1 = 9 then (some (b 9)) else (if x1 = 10 then (some (b 10)) else (if x1 = 11 then (some k_P) else (some (-1000)))))))))))))
set_option maxHeartbeats 8000000 in
set_option maxRecDepth 100000 in
theorem mX0_valueOf (l : Launch) (D : va_G) (cI cJ cB cT : ClassId) (tt : Nat → Nat) (r_ r_P r_A r_Pt r_Pw r_Ps : Nat) {x1 : Int32} {b : Nat → Int32} {se : Int64} {z : Int32} {k_P : Int32} {out : Int32} (h : fX0_valueOf x1 b se z k_P = some out) :
    jM l yX0_valueOf (.code yX0_valueOf cX0_valueOf 2 (some .int)) rmX0_valueOf D (wTy cI cJ cB cT) tt [.ref r_, .int x1] [cBal r_ r_P r_A b se z, cPus r_P r_Pt r_Pw r_Ps k_P] (some (.int out)) [cBal r_ r_P r_A b se z, cPus r_P r_Pt r_Pw r_Ps k_P] := by
  refine jM.of (by decide) (Nat.le_of_ble_eq_true rfl) ?_
  intro p e s m below meth c A X hr
  refine j_sub (lv2 := [(0, .ref r_), (1, .int x1)]) [0, 1] rfl ?_
  have hR := h
  unfold fX0_valueOf at hR
  refine j_iload_n X (q := 1) dX0_valueOf_0 rfl ?_
  by_cases c_1 : x1 = 0
  · replace hR := (if_pos c_1).symm.trans hR
    refine j_tableIn X (tgt := 64) dX0_valueOf_1 (by rw [c_1]; decide) (by rw [c_1]; decide) (by rw [c_1]; rfl) (by decide) ?_
    refine j_aload_n X (q := 0) dX0_valueOf_64 rfl ?_
    refine j_get X 0 0 hiX0 k_98 dX0_valueOf_65 rfl rfl (by decide) rfl ?_
    have hR := Option.some.inj hR
    exact j_iret X hr dX0_valueOf_68 (by rw [← hR]) rfl
  · replace hR := (if_neg c_1).symm.trans hR
    by_cases c_2 : x1 = 1
    · replace hR := (if_pos c_2).symm.trans hR
      refine j_tableIn X (tgt := 69) dX0_valueOf_1 (by rw [c_2]; decide) (by rw [c_2]; decide) (by rw [c_2]; rfl) (by decide) ?_
      refine j_aload_n X (q := 0) dX0_valueOf_69 rfl ?_
      refine j_get X 0 1 hiX0 k_100 dX0_valueOf_70 rfl rfl (by decide) rfl ?_
      have hR := Option.some.inj hR
      exact j_iret X hr dX0_valueOf_73 (by rw [← hR]) rfl
    · replace hR := (if_neg c_2).symm.trans hR
      by_cases c_3 : x1 = 2
      · replace hR := (if_pos c_3).symm.trans hR
        refine j_tableIn X (tgt := 74) dX0_valueOf_1 (by rw [c_3]; decide) (by rw [c_3]; decide) (by rw [c_3]; rfl) (by decide) ?_
        refine j_aload_n X (q := 0) dX0_valueOf_74 rfl ?_
        refine j_get X 0 8 hiX0 k_110 dX0_valueOf_75 rfl rfl (by decide) rfl ?_
        have hR := Option.some.inj hR
        exact j_iret X hr dX0_valueOf_78 (by rw [← hR]) rfl
      · replace hR := (if_neg c_3).symm.trans hR
        by_cases c_4 : x1 = 3
        · replace hR := (if_pos c_4).symm.trans hR
          refine j_tableIn X (tgt := 79) dX0_valueOf_1 (by rw [c_4]; decide) (by rw [c_4]; decide) (by rw [c_4]; rfl) (by decide) ?_
          refine j_aload_n X (q := 0) dX0_valueOf_79 rfl ?_
          refine j_get X 0 2 hiX0 k_101 dX0_valueOf_80 rfl rfl (by decide) rfl ?_
          have hR := Option.some.inj hR
          exact j_iret X hr dX0_valueOf_83 (by rw [← hR]) rfl
        · replace hR := (if_neg c_4).symm.trans hR
          by_cases c_5 : x1 = 4
          · replace hR := (if_pos c_5).symm.trans hR
            refine j_tableIn X (tgt := 84) dX0_valueOf_1 (by rw [c_5]; decide) (by rw [c_5]; decide) (by rw [c_5]; rfl) (by decide) ?_
            refine j_aload_n X (q := 0) dX0_valueOf_84 rfl ?_
            refine j_get X 0 3 hiX0 k_102 dX0_valueOf_85 rfl rfl (by decide) rfl ?_
            have hR := Option.some.inj hR
            exact j_iret X hr dX0_valueOf_88 (by rw [← hR]) rfl
          · replace hR := (if_neg c_5).symm.trans hR
            by_cases c_6 : x1 = 5
            · replace hR := (if_pos c_6).symm.trans hR
              refine j_tableIn X (tgt := 89) dX0_valueOf_1 (by rw [c_6]; decide) (by rw [c_6]; decide) (by rw [c_6]; rfl) (by decide) ?_
              refine j_aload_n X (q := 0) dX0_valueOf_89 rfl ?_
              refine j_get X 0 9 hiX0 k_111 dX0_valueOf_90 rfl rfl (by decide) rfl ?_
              have hR := Option.some.inj hR
              exact j_iret X hr dX0_valueOf_93 (by rw [← hR]) rfl
            · replace hR := (if_neg c_6).symm.trans hR
              by_cases c_7 : x1 = 6
              · replace hR := (if_pos c_7).symm.trans hR
                refine j_tableIn X (tgt := 94) dX0_valueOf_1 (by rw [c_7]; decide) (by rw [c_7]; decide) (by rw [c_7]; rfl) (by decide) ?_
                refine j_aload_n X (q := 0) dX0_valueOf_94 rfl ?_
                refine j_get X 0 10 hiX0 k_112 dX0_valueOf_95 rfl rfl (by decide) rfl ?_
                have hR := Option.some.inj hR
                exact j_iret X hr dX0_valueOf_98 (by rw [← hR]) rfl
              · replace hR := (if_neg c_7).symm.trans hR
                by_cases c_8 : x1 = 7
                · replace hR := (if_pos c_8).symm.trans hR
                  refine j_tableIn X (tgt := 99) dX0_valueOf_1 (by rw [c_8]; decide) (by rw [c_8]; decide) (by rw [c_8]; rfl) (by decide) ?_
                  refine j_aload_n X (q := 0) dX0_valueOf_99 rfl ?_
                  refine j_get X 0 4 hiX0 k_104 dX0_valueOf_100 rfl rfl (by decide) rfl ?_
                  have hR := Option.some.inj hR
                  exact j_iret X hr dX0_valueOf_103 (by rw [← hR]) rfl
                · replace hR := (if_neg c_8).symm.trans hR
                  by_cases c_9 : x1 = 8
                  · replace hR := (if_pos c_9).symm.trans hR
                    refine j_tableIn X (tgt := 104) dX0_valueOf_1 (by rw [c_9]; decide) (by rw [c_9]; decide) (by rw [c_9]; rfl) (by decide) ?_
                    refine j_aload_n X (q := 0) dX0_valueOf_104 rfl ?_
                    refine j_get X 0 5 hiX0 k_105 dX0_valueOf_105 rfl rfl (by decide) rfl ?_
                    have hR := Option.some.inj hR
                    exact j_iret X hr dX0_valueOf_108 (by rw [← hR]) rfl
                  · replace hR := (if_neg c_9).symm.trans hR
                    by_cases c_10 : x1 = 9
                    · replace hR := (if_pos c_10).symm.trans hR
                      refine j_tableIn X (tgt := 109) dX0_valueOf_1 (by rw [c_10]; decide) (by rw [c_10]; decide) (by rw [c_10]; rfl) (by decide) ?_
                      refine j_aload_n X (q := 0) dX0_valueOf_109 rfl ?_
                      refine j_get X 0 6 hiX0 k_107 dX0_valueOf_110 rfl rfl (by decide) rfl ?_
                      have hR := Option.some.inj hR
                      exact j_iret X hr dX0_valueOf_113 (by rw [← hR]) rfl
                    · replace hR := (if_neg c_10).symm.trans hR
                      by_cases c_11 : x1 = 10
                      · replace hR := (if_pos c_11).symm.trans hR
                        refine j_tableIn X (tgt := 114) dX0_valueOf_1 (by rw [c_11]; decide) (by rw [c_11]; decide) (by rw [c_11]; rfl) (by decide) ?_
                        refine j_aload_n X (q := 0) dX0_valueOf_114 rfl ?_
                        refine j_get X 0 7 hiX0 k_109 dX0_valueOf_115 rfl rfl (by decide) rfl ?_
                        have hR := Option.some.inj hR
                        exact j_iret X hr dX0_valueOf_118 (by rw [← hR]) rfl
                      · replace hR := (if_neg c_11).symm.trans hR
                        by_cases c_12 : x1 = 11
                        · replace hR := (if_pos c_12).symm.trans hR
                          refine j_tableIn X (tgt := 119) dX0_valueOf_1 (by rw [c_12]; decide) (by rw [c_12]; decide) (by rw [c_12]; rfl) (by decide) ?_
                          refine j_aload_n X (q := 0) dX0_valueOf_119 rfl ?_
                          refine j_get X 0 11 hiX0 k_113 dX0_valueOf_120 rfl rfl (by decide) rfl ?_
                          refine j_get X 1 3 hiX2 k_86 dX0_valueOf_123 rfl rfl (by decide) rfl ?_
                          have hR := Option.some.inj hR
                          exact j_iret X hr dX0_valueOf_126 (by rw [← hR]) rfl
                        · replace hR := (if_neg c_12).symm.trans hR
                          refine j_tableOut X (tgt := 127) dX0_valueOf_1 (by have hc_1 := lv_neT c_1 (a := 0) rfl; have hc_2 := lv_neT c_2 (a := 1) rfl; have hc_3 := lv_neT c_3 (a := 2) rfl; have hc_4 := lv_neT c_4 (a := 3) rfl; have hc_5 := lv_neT c_5 (a := 4) rfl; have hc_6 := lv_neT c_6 (a := 5) rfl; have hc_7 := lv_neT c_7 (a := 6) rfl; have hc_8 := lv_neT c_8 (a := 7) rfl; have hc_9 := lv_neT c_9 (a := 8) rfl; have hc_10 := lv_neT c_10 (a := 9) rfl; have hc_11 := lv_neT c_11 (a := 10) rfl; have hc_12 := lv_neT c_12 (a := 11) rfl; omega) (by decide) ?_
                          refine j_sipush X (v := (-1000)) dX0_valueOf_127 (by decide) ?_
                          have hR := Option.some.inj hR
                          exact j_iret X hr dX0_valueOf_130 (by rw [← hR]) rfl

def rmX0_put : Room := { frames := 0, cells := 0, slots := 0, locals := 0 }
theorem hdX0_put : yX0_put.cls ≠ "java/lang/invoke/MethodHandle" ∧ yX0_put.cls ≠ "java/lang/invoke/VarHandle" ∧ (parseMethodDescriptor yX0_put.desc).map (fun d => d.parameters.length) = some 2 := by decide +kernel
def fX0_put (x1 : Int32) (x2 : Int32) (b : Nat → Int32) (se : Int64) (z : Int32) : Option ((Nat → Int32)) :=
  if x1 = 0 then (lt' (upd b 0 x2) fun b_2 =>
  some b_2) else (if x1 = 1 then (lt' (upd b 1 x2) fun b_4 =>
  some b_4) else (if x1 = 2 then (lt' (upd b 2 x2) fun b_6 =>
  some b_6) else (if x1 = 3 then (lt' (upd b 3 x2) fun b_8 =>
  some b_8) else (if x1 = 4 then (lt' (upd b 4 x2) fun b_10 =>
  some b_10) else (if x1 = 5 then (lt' (upd b 5 x2) fun b_12 =>
  some b_12) else (if x1 = 6 then (lt' (upd b 6 x2) fun b_14 =>
  some b_14) else (some b)))))))
set_option maxHeartbeats 8000000 in
set_option maxRecDepth 100000 in
theorem mX0_put (l : Launch) (D : va_G) (cI cJ cB cT : ClassId) (tt : Nat → Nat) (r_ r_P r_A : Nat) {x1 : Int32} {x2 : Int32} {b : Nat → Int32} {se : Int64} {z : Int32} {out : (Nat → Int32)} (h : fX0_put x1 x2 b se z = some out) :
    jM l yX0_put (.code yX0_put cX0_put 3 none) rmX0_put D (wTy cI cJ cB cT) tt [.ref r_, .int x1, .int x2] [cBal r_ r_P r_A b se z] (none) [cBal r_ r_P r_A out se z] := by
  refine jM.of (by decide) (Nat.le_of_ble_eq_true rfl) ?_
  intro p e s m below meth c A X hr
  refine j_sub (lv2 := [(0, .ref r_), (1, .int x1), (2, .int x2)]) [0, 1, 2] rfl ?_
  have hR := h
  unfold fX0_put at hR
  refine j_iload_n X (q := 1) dX0_put_0 rfl ?_
  by_cases c_1 : x1 = 0
  · replace hR := (if_pos c_1).symm.trans hR
    refine j_tableIn X (tgt := 44) dX0_put_1 (by rw [c_1]; decide) (by rw [c_1]; decide) (by rw [c_1]; rfl) (by decide) ?_
    refine j_aload_n X (q := 0) dX0_put_44 rfl ?_
    refine j_iload_n X (q := 2) dX0_put_45 rfl ?_
    obtain ⟨b_2, eb_2, hR⟩ := lt_some hR
    refine j_put X (ws2 := [cBal r_ r_P r_A b_2 se z]) 0 0 hiX0 tyX0_ok nmX0 k_98 dX0_put_46 rfl rfl (by decide) (by decide) rfl rfl (Nat.le_of_ble_eq_true rfl) (by subst eb_2; rfl) ?_
    refine j_goto X (tgt := 100) dX0_put_49 (by decide) ?_
    have hR := Option.some.inj hR
    exact j_vret X hr dX0_put_100 rfl (by rw [← hR])
  · replace hR := (if_neg c_1).symm.trans hR
    by_cases c_3 : x1 = 1
    · replace hR := (if_pos c_3).symm.trans hR
      refine j_tableIn X (tgt := 52) dX0_put_1 (by rw [c_3]; decide) (by rw [c_3]; decide) (by rw [c_3]; rfl) (by decide) ?_
      refine j_aload_n X (q := 0) dX0_put_52 rfl ?_
      refine j_iload_n X (q := 2) dX0_put_53 rfl ?_
      obtain ⟨b_4, eb_4, hR⟩ := lt_some hR
      refine j_put X (ws2 := [cBal r_ r_P r_A b_4 se z]) 0 1 hiX0 tyX0_ok nmX0 k_100 dX0_put_54 rfl rfl (by decide) (by decide) rfl rfl (Nat.le_of_ble_eq_true rfl) (by subst eb_4; rfl) ?_
      refine j_goto X (tgt := 100) dX0_put_57 (by decide) ?_
      have hR := Option.some.inj hR
      exact j_vret X hr dX0_put_100 rfl (by rw [← hR])
    · replace hR := (if_neg c_3).symm.trans hR
      by_cases c_5 : x1 = 2
      · replace hR := (if_pos c_5).symm.trans hR
        refine j_tableIn X (tgt := 60) dX0_put_1 (by rw [c_5]; decide) (by rw [c_5]; decide) (by rw [c_5]; rfl) (by decide) ?_
        refine j_aload_n X (q := 0) dX0_put_60 rfl ?_
        refine j_iload_n X (q := 2) dX0_put_61 rfl ?_
        obtain ⟨b_6, eb_6, hR⟩ := lt_some hR
        refine j_put X (ws2 := [cBal r_ r_P r_A b_6 se z]) 0 8 hiX0 tyX0_ok nmX0 k_110 dX0_put_62 rfl rfl (by decide) (by decide) rfl rfl (Nat.le_of_ble_eq_true rfl) (by subst eb_6; rfl) ?_
        refine j_goto X (tgt := 100) dX0_put_65 (by decide) ?_
        have hR := Option.some.inj hR
        exact j_vret X hr dX0_put_100 rfl (by rw [← hR])
      · replace hR := (if_neg c_5).symm.trans hR
        by_cases c_7 : x1 = 3
        · replace hR := (if_pos c_7).symm.trans hR
          refine j_tableIn X (tgt := 68) dX0_put_1 (by rw [c_7]; decide) (by rw [c_7]; decide) (by rw [c_7]; rfl) (by decide) ?_
          refine j_aload_n X (q := 0) dX0_put_68 rfl ?_
          refine j_iload_n X (q := 2) dX0_put_69 rfl ?_
          obtain ⟨b_8, eb_8, hR⟩ := lt_some hR
          refine j_put X (ws2 := [cBal r_ r_P r_A b_8 se z]) 0 2 hiX0 tyX0_ok nmX0 k_101 dX0_put_70 rfl rfl (by decide) (by decide) rfl rfl (Nat.le_of_ble_eq_true rfl) (by subst eb_8; rfl) ?_
          refine j_goto X (tgt := 100) dX0_put_73 (by decide) ?_
          have hR := Option.some.inj hR
          exact j_vret X hr dX0_put_100 rfl (by rw [← hR])
        · replace hR := (if_neg c_7).symm.trans hR
          by_cases c_9 : x1 = 4
          · replace hR := (if_pos c_9).symm.trans hR
            refine j_tableIn X (tgt := 76) dX0_put_1 (by rw [c_9]; decide) (by rw [c_9]; decide) (by rw [c_9]; rfl) (by decide) ?_
            refine j_aload_n X (q := 0) dX0_put_76 rfl ?_
            refine j_iload_n X (q := 2) dX0_put_77 rfl ?_
            obtain ⟨b_10, eb_10, hR⟩ := lt_some hR
            refine j_put X (ws2 := [cBal r_ r_P r_A b_10 se z]) 0 3 hiX0 tyX0_ok nmX0 k_102 dX0_put_78 rfl rfl (by decide) (by decide) rfl rfl (Nat.le_of_ble_eq_true rfl) (by subst eb_10; rfl) ?_
            refine j_goto X (tgt := 100) dX0_put_81 (by decide) ?_
            have hR := Option.some.inj hR
            exact j_vret X hr dX0_put_100 rfl (by rw [← hR])
          · replace hR := (if_neg c_9).symm.trans hR
            by_cases c_11 : x1 = 5
            · replace hR := (if_pos c_11).symm.trans hR
              refine j_tableIn X (tgt := 84) dX0_put_1 (by rw [c_11]; decide) (by rw [c_11]; decide) (by rw [c_11]; rfl) (by decide) ?_
              refine j_aload_n X (q := 0) dX0_put_84 rfl ?_
              refine j_iload_n X (q := 2) dX0_put_85 rfl ?_
              obtain ⟨b_12, eb_12, hR⟩ := lt_some hR
              refine j_put X (ws2 := [cBal r_ r_P r_A b_12 se z]) 0 9 hiX0 tyX0_ok nmX0 k_111 dX0_put_86 rfl rfl (by decide) (by decide) rfl rfl (Nat.le_of_ble_eq_true rfl) (by subst eb_12; rfl) ?_
              refine j_goto X (tgt := 100) dX0_put_89 (by decide) ?_
              have hR := Option.some.inj hR
              exact j_vret X hr dX0_put_100 rfl (by rw [← hR])
            · replace hR := (if_neg c_11).symm.trans hR
              by_cases c_13 : x1 = 6
              · replace hR := (if_pos c_13).symm.trans hR
                refine j_tableIn X (tgt := 92) dX0_put_1 (by rw [c_13]; decide) (by rw [c_13]; decide) (by rw [c_13]; rfl) (by decide) ?_
                refine j_aload_n X (q := 0) dX0_put_92 rfl ?_
                refine j_iload_n X (q := 2) dX0_put_93 rfl ?_
                obtain ⟨b_14, eb_14, hR⟩ := lt_some hR
                refine j_put X (ws2 := [cBal r_ r_P r_A b_14 se z]) 0 10 hiX0 tyX0_ok nmX0 k_112 dX0_put_94 rfl rfl (by decide) (by decide) rfl rfl (Nat.le_of_ble_eq_true rfl) (by subst eb_14; rfl) ?_
                refine j_goto X (tgt := 100) dX0_put_97 (by decide) ?_
                have hR := Option.some.inj hR
                exact j_vret X hr dX0_put_100 rfl (by rw [← hR])
              · replace hR := (if_neg c_13).symm.trans hR
                refine j_tableOut X (tgt := 100) dX0_put_1 (by have hc_1 := lv_neT c_1 (a := 0) rfl; have hc_3 := lv_neT c_3 (a := 1) rfl; have hc_5 := lv_neT c_5 (a := 2) rfl; have hc_7 := lv_neT c_7 (a := 3) rfl; have hc_9 := lv_neT c_9 (a := 4) rfl; have hc_11 := lv_neT c_11 (a := 5) rfl; have hc_13 := lv_neT c_13 (a := 6) rfl; omega) (by decide) ?_
                have hR := Option.some.inj hR
                exact j_vret X hr dX0_put_100 rfl (by rw [← hR])

def rmX0_putByHand : Room := { frames := 2, cells := 0, slots := 0, locals := 43 }
theorem hdX0_putByHand : yX0_putByHand.cls ≠ "java/lang/invoke/MethodHandle" ∧ yX0_putByHand.cls ≠ "java/lang/invoke/VarHandle" ∧ (parseMethodDescriptor yX0_putByHand.desc).map (fun d => d.parameters.length) = some 2 := by decide +kernel
def fX0_putByHand (x1 : Int32) (x2 : Int32) (b : Nat → Int32) (se : Int64) (z : Int32) (f_A : Nat → Int64) : Option ((Nat → Int32) × Int64 × (Nat → Int64)) :=
  (fX0_put x1 x2 b se z).bind fun o_1 =>
  (fX0_settle 0 o_1 se z f_A).bind fun o_2 =>
  some (o_1, o_2.1, o_2.2)
set_option maxHeartbeats 8000000 in
set_option maxRecDepth 100000 in
theorem mX0_putByHand (l : Launch) (D : va_G) (cI cJ cB cT : ClassId) (tt : Nat → Nat) (r_ r_P r_A : Nat) {x1 : Int32} {x2 : Int32} {b : Nat → Int32} {se : Int64} {z : Int32} {f_A : Nat → Int64} {out : (Nat → Int32) × Int64 × (Nat → Int64)} (h : fX0_putByHand x1 x2 b se z f_A = some out) :
    jM l yX0_putByHand (.code yX0_putByHand cX0_putByHand 3 none) rmX0_putByHand D (wTy cI cJ cB cT) tt [.ref r_, .int x1, .int x2] [cBal r_ r_P r_A b se z, cJar cJ r_A 4 f_A] (none) [cBal r_ r_P r_A out.1 out.2.1 z, cJar cJ r_A 4 out.2.2] := by
  refine jM.of (by decide) (Nat.le_of_ble_eq_true rfl) ?_
  intro p e s m below meth c A X hr
  refine j_sub (lv2 := [(0, .ref r_), (1, .int x1), (2, .int x2)]) [0, 1, 2] rfl ?_
  have hR := h
  unfold fX0_putByHand at hR
  refine j_aload_n X (q := 0) dX0_putByHand_0 rfl ?_
  refine j_iload_n X (q := 1) dX0_putByHand_1 rfl ?_
  refine j_iload_n X (q := 2) dX0_putByHand_2 rfl ?_
  obtain ⟨o_1, ho_1, hR⟩ := bd_some hR
  refine j_callV X (As := [.int x1, .int x2]) (rest := []) (ws2 := [cBal r_ r_P r_A o_1 se z, cJar cJ r_A 4 f_A]) (q0 := 0) (ci := 0) (mX0_put l D cI cJ cB cT tt r_ r_P r_A ho_1) [0] [.inr 0, .inl 1] k_311 k_308 k_309 k_310 rfl rfl k_40 hdX0_put (by decide) (Nat.le_of_ble_eq_true rfl) dX0_putByHand_3 (by decide) rfl rfl (by decide) rfl rfl ?_
  refine j_aload_n X (q := 0) dX0_putByHand_6 rfl ?_
  refine j_iconst X (v := 0) dX0_putByHand_7 (by decide) ?_
  obtain ⟨o_2, ho_2, hR⟩ := bd_some hR
  refine j_callV X (As := [.int 0]) (rest := []) (ws2 := [cBal r_ r_P r_A o_1 o_2.1 z, cJar cJ r_A 4 o_2.2]) (q0 := 0) (ci := 0) (mX0_settle l D cI cJ cB cT tt r_ r_P r_A ho_2) [0, 1] [.inr 0, .inr 1] k_315 k_312 k_314 k_0 rfl rfl k_40 hdX0_settle (by decide) (Nat.le_of_ble_eq_true rfl) dX0_putByHand_8 (by decide) rfl rfl (by decide) rfl rfl ?_
  have hR := Option.some.inj hR
  exact j_vret X hr dX0_putByHand_11 rfl (by rw [← hR])

def rmX0_doPush : Room := { frames := 1, cells := 0, slots := 0, locals := 15 }
theorem hdX0_doPush : yX0_doPush.cls ≠ "java/lang/invoke/MethodHandle" ∧ yX0_doPush.cls ≠ "java/lang/invoke/VarHandle" ∧ (parseMethodDescriptor yX0_doPush.desc).map (fun d => d.parameters.length) = some 2 := by decide +kernel
def fX0_doPush (x1 : Int32) (x2 : Int32) (b : Nat → Int32) (se : Int64) (z : Int32) : Option ((Nat → Int32)) :=
  if x1 = 0 then (lt' (upd b 1 ((b 1) + x2)) fun b_2 =>
  some b_2) else (if x1 = 1 then (lt' ((b 5) + x2) fun u_4 =>
  lt' (if u_4 < 60 then u_4 else 60) fun u_5 =>
  lt' (upd b 5 (if (0 : Int32) < u_5 then u_5 else 0)) fun b_6 =>
  some b_6) else (if x1 = 2 then (lt' (upd b 4 x2) fun b_8 =>
  some b_8) else (if x1 = 3 then (lt' (upd b 3 x2) fun b_10 =>
  some b_10) else (some b))))
set_option maxHeartbeats 8000000 in
set_option maxRecDepth 100000 in
theorem mX0_doPush (l : Launch) (D : va_G) (cI cJ cB cT : ClassId) (tt : Nat → Nat) (r_ r_P r_A : Nat) {x1 : Int32} {x2 : Int32} {b : Nat → Int32} {se : Int64} {z : Int32} {out : (Nat → Int32)} (h : fX0_doPush x1 x2 b se z = some out) :
    jM l yX0_doPush (.code yX0_doPush cX0_doPush 3 none) rmX0_doPush D (wTy cI cJ cB cT) tt [.ref r_, .int x1, .int x2] [cBal r_ r_P r_A b se z] (none) [cBal r_ r_P r_A out se z] := by
  refine jM.of (by decide) (Nat.le_of_ble_eq_true rfl) ?_
  intro p e s m below meth c A X hr
  refine j_sub (lv2 := [(0, .ref r_), (1, .int x1), (2, .int x2)]) [0, 1, 2] rfl ?_
  have hR := h
  unfold fX0_doPush at hR
  refine j_iload_n X (q := 1) dX0_doPush_0 rfl ?_
  by_cases c_1 : x1 = 0
  · replace hR := (if_pos c_1).symm.trans hR
    refine j_tableIn X (tgt := 32) dX0_doPush_1 (by rw [c_1]; decide) (by rw [c_1]; decide) (by rw [c_1]; rfl) (by decide) ?_
    refine j_aload_n X (q := 0) dX0_doPush_32 rfl ?_
    refine j_dup X dX0_doPush_33 rfl ?_
    refine j_get X 0 1 hiX0 k_100 dX0_doPush_34 rfl rfl (by decide) rfl ?_
    refine j_iload_n X (q := 2) dX0_doPush_37 rfl ?_
    refine j_iadd X dX0_doPush_38 ?_
    obtain ⟨b_2, eb_2, hR⟩ := lt_some hR
    refine j_put X (ws2 := [cBal r_ r_P r_A b_2 se z]) 0 1 hiX0 tyX0_ok nmX0 k_100 dX0_doPush_39 rfl rfl (by decide) (by decide) rfl rfl (Nat.le_of_ble_eq_true rfl) (by subst eb_2; rfl) ?_
    refine j_goto X (tgt := 83) dX0_doPush_42 (by decide) ?_
    have hR := Option.some.inj hR
    exact j_vret X hr dX0_doPush_83 rfl (by rw [← hR])
  · replace hR := (if_neg c_1).symm.trans hR
    by_cases c_3 : x1 = 1
    · replace hR := (if_pos c_3).symm.trans hR
      refine j_tableIn X (tgt := 45) dX0_doPush_1 (by rw [c_3]; decide) (by rw [c_3]; decide) (by rw [c_3]; rfl) (by decide) ?_
      refine j_aload_n X (q := 0) dX0_doPush_45 rfl ?_
      refine j_iconst X (v := 0) dX0_doPush_46 (by decide) ?_
      refine j_bipush X (v := 60) dX0_doPush_47 (by decide) ?_
      refine j_aload_n X (q := 0) dX0_doPush_49 rfl ?_
      refine j_get X 0 9 hiX0 k_111 dX0_doPush_50 rfl rfl (by decide) rfl ?_
      refine j_iload_n X (q := 2) dX0_doPush_53 rfl ?_
      refine j_iadd X dX0_doPush_54 ?_
      obtain ⟨u_4, eu_4, hR⟩ := lt_some hR
      refine j_eq (congrArg (fun z => Value.int z :: _) eu_4) rfl ?_
      refine j_mmin X k_361 k_362 k_48 k_363 ⟨by decide, Nat.le_of_ble_eq_true rfl, Nat.zero_le _, Nat.zero_le _⟩ dX0_doPush_55 ?_
      obtain ⟨u_5, eu_5, hR⟩ := lt_some hR
      refine j_eq (congrArg (fun z => Value.int z :: _) eu_5) rfl ?_
      refine j_mmax X k_364 k_365 k_48 k_366 ⟨by decide, Nat.le_of_ble_eq_true rfl, Nat.zero_le _, Nat.zero_le _⟩ dX0_doPush_58 ?_
      obtain ⟨b_6, eb_6, hR⟩ := lt_some hR
      refine j_put X (ws2 := [cBal r_ r_P r_A b_6 se z]) 0 9 hiX0 tyX0_ok nmX0 k_111 dX0_doPush_61 rfl rfl (by decide) (by decide) rfl rfl (Nat.le_of_ble_eq_true rfl) (by subst eb_6; rfl) ?_
      refine j_goto X (tgt := 83) dX0_doPush_64 (by decide) ?_
      have hR := Option.some.inj hR
      exact j_vret X hr dX0_doPush_83 rfl (by rw [← hR])
    · replace hR := (if_neg c_3).symm.trans hR
      by_cases c_7 : x1 = 2
      · replace hR := (if_pos c_7).symm.trans hR
        refine j_tableIn X (tgt := 67) dX0_doPush_1 (by rw [c_7]; decide) (by rw [c_7]; decide) (by rw [c_7]; rfl) (by decide) ?_
        refine j_aload_n X (q := 0) dX0_doPush_67 rfl ?_
        refine j_iload_n X (q := 2) dX0_doPush_68 rfl ?_
        obtain ⟨b_8, eb_8, hR⟩ := lt_some hR
        refine j_put X (ws2 := [cBal r_ r_P r_A b_8 se z]) 0 3 hiX0 tyX0_ok nmX0 k_102 dX0_doPush_69 rfl rfl (by decide) (by decide) rfl rfl (Nat.le_of_ble_eq_true rfl) (by subst eb_8; rfl) ?_
        refine j_goto X (tgt := 83) dX0_doPush_72 (by decide) ?_
        have hR := Option.some.inj hR
        exact j_vret X hr dX0_doPush_83 rfl (by rw [← hR])
      · replace hR := (if_neg c_7).symm.trans hR
        by_cases c_9 : x1 = 3
        · replace hR := (if_pos c_9).symm.trans hR
          refine j_tableIn X (tgt := 75) dX0_doPush_1 (by rw [c_9]; decide) (by rw [c_9]; decide) (by rw [c_9]; rfl) (by decide) ?_
          refine j_aload_n X (q := 0) dX0_doPush_75 rfl ?_
          refine j_iload_n X (q := 2) dX0_doPush_76 rfl ?_
          obtain ⟨b_10, eb_10, hR⟩ := lt_some hR
          refine j_put X (ws2 := [cBal r_ r_P r_A b_10 se z]) 0 2 hiX0 tyX0_ok nmX0 k_101 dX0_doPush_77 rfl rfl (by decide) (by decide) rfl rfl (Nat.le_of_ble_eq_true rfl) (by subst eb_10; rfl) ?_
          refine j_goto X (tgt := 83) dX0_doPush_80 (by decide) ?_
          have hR := Option.some.inj hR
          exact j_vret X hr dX0_doPush_83 rfl (by rw [← hR])
        · replace hR := (if_neg c_9).symm.trans hR
          refine j_tableOut X (tgt := 83) dX0_doPush_1 (by have hc_1 := lv_neT c_1 (a := 0) rfl; have hc_3 := lv_neT c_3 (a := 1) rfl; have hc_7 := lv_neT c_7 (a := 2) rfl; have hc_9 := lv_neT c_9 (a := 3) rfl; omega) (by decide) ?_
          have hR := Option.some.inj hR
          exact j_vret X hr dX0_doPush_83 rfl (by rw [← hR])

def rmX0_beDragged : Room := { frames := 1, cells := 0, slots := 0, locals := 14 }
theorem hdX0_beDragged : yX0_beDragged.cls ≠ "java/lang/invoke/MethodHandle" ∧ yX0_beDragged.cls ≠ "java/lang/invoke/VarHandle" ∧ (parseMethodDescriptor yX0_beDragged.desc).map (fun d => d.parameters.length) = some 0 := by decide +kernel
def fX0_beDragged (b : Nat → Int32) (se : Int64) (z : Int32) : Option ((Nat → Int32)) :=
  if (b 1) ≤ 0 then (lt' ((b 1) + (b 3)) fun u_2 =>
  lt' (upd b 1 (if u_2 < 0 then u_2 else 0)) fun b_3 =>
  some b_3) else (lt' ((b 1) - (b 3)) fun u_4 =>
  lt' (upd b 1 (if (0 : Int32) < u_4 then u_4 else 0)) fun b_5 =>
  some b_5)
set_option maxHeartbeats 8000000 in
set_option maxRecDepth 100000 in
theorem mX0_beDragged (l : Launch) (D : va_G) (cI cJ cB cT : ClassId) (tt : Nat → Nat) (r_ r_P r_A : Nat)  {b : Nat → Int32} {se : Int64} {z : Int32} {out : (Nat → Int32)} (h : fX0_beDragged b se z = some out) :
    jM l yX0_beDragged (.code yX0_beDragged cX0_beDragged 1 none) rmX0_beDragged D (wTy cI cJ cB cT) tt [.ref r_] [cBal r_ r_P r_A b se z] (none) [cBal r_ r_P r_A out se z] := by
  refine jM.of (by decide) (Nat.le_of_ble_eq_true rfl) ?_
  intro p e s m below meth c A X hr
  refine j_sub (lv2 := [(0, .ref r_)]) [0] rfl ?_
  have hR := h
  unfold fX0_beDragged at hR
  refine j_aload_n X (q := 0) dX0_beDragged_0 rfl ?_
  refine j_get X 0 1 hiX0 k_100 dX0_beDragged_1 rfl rfl (by decide) rfl ?_
  refine j_if_le X (tgt := 27) dX0_beDragged_4 (by decide) (fun c_1 => ?_) (fun c_1 => ?_)
  · replace hR := (if_pos c_1).symm.trans hR
    refine j_aload_n X (q := 0) dX0_beDragged_27 rfl ?_
    refine j_iconst X (v := 0) dX0_beDragged_28 (by decide) ?_
    refine j_aload_n X (q := 0) dX0_beDragged_29 rfl ?_
    refine j_get X 0 1 hiX0 k_100 dX0_beDragged_30 rfl rfl (by decide) rfl ?_
    refine j_aload_n X (q := 0) dX0_beDragged_33 rfl ?_
    refine j_get X 0 2 hiX0 k_101 dX0_beDragged_34 rfl rfl (by decide) rfl ?_
    refine j_iadd X dX0_beDragged_37 ?_
    obtain ⟨u_2, eu_2, hR⟩ := lt_some hR
    refine j_eq (congrArg (fun z => Value.int z :: _) eu_2) rfl ?_
    refine j_mmin X k_361 k_362 k_48 k_363 ⟨by decide, Nat.le_of_ble_eq_true rfl, Nat.zero_le _, Nat.zero_le _⟩ dX0_beDragged_38 ?_
    obtain ⟨b_3, eb_3, hR⟩ := lt_some hR
    refine j_put X (ws2 := [cBal r_ r_P r_A b_3 se z]) 0 1 hiX0 tyX0_ok nmX0 k_100 dX0_beDragged_41 rfl rfl (by decide) (by decide) rfl rfl (Nat.le_of_ble_eq_true rfl) (by subst eb_3; rfl) ?_
    have hR := Option.some.inj hR
    exact j_vret X hr dX0_beDragged_44 rfl (by rw [← hR])
  · replace hR := (if_neg c_1).symm.trans hR
    refine j_aload_n X (q := 0) dX0_beDragged_7 rfl ?_
    refine j_iconst X (v := 0) dX0_beDragged_8 (by decide) ?_
    refine j_aload_n X (q := 0) dX0_beDragged_9 rfl ?_
    refine j_get X 0 1 hiX0 k_100 dX0_beDragged_10 rfl rfl (by decide) rfl ?_
    refine j_aload_n X (q := 0) dX0_beDragged_13 rfl ?_
    refine j_get X 0 2 hiX0 k_101 dX0_beDragged_14 rfl rfl (by decide) rfl ?_
    refine j_isub X dX0_beDragged_17 ?_
    obtain ⟨u_4, eu_4, hR⟩ := lt_some hR
    refine j_eq (congrArg (fun z => Value.int z :: _) eu_4) rfl ?_
    refine j_mmax X k_364 k_365 k_48 k_366 ⟨by decide, Nat.le_of_ble_eq_true rfl, Nat.zero_le _, Nat.zero_le _⟩ dX0_beDragged_18 ?_
    obtain ⟨b_5, eb_5, hR⟩ := lt_some hR
    refine j_put X (ws2 := [cBal r_ r_P r_A b_5 se z]) 0 1 hiX0 tyX0_ok nmX0 k_100 dX0_beDragged_21 rfl rfl (by decide) (by decide) rfl rfl (Nat.le_of_ble_eq_true rfl) (by subst eb_5; rfl) ?_
    refine j_goto X (tgt := 44) dX0_beDragged_24 (by decide) ?_
    have hR := Option.some.inj hR
    exact j_vret X hr dX0_beDragged_44 rfl (by rw [← hR])

def rmX0_swing : Room := { frames := 0, cells := 0, slots := 0, locals := 0 }
theorem hdX0_swing : yX0_swing.cls ≠ "java/lang/invoke/MethodHandle" ∧ yX0_swing.cls ≠ "java/lang/invoke/VarHandle" ∧ (parseMethodDescriptor yX0_swing.desc).map (fun d => d.parameters.length) = some 0 := by decide +kernel
def fX0_swing_50 (se : Int64) (z : Int32) : Int32 → (Nat → Int32) → Option ((Nat → Int32)) := fun y0 b =>
    lt' (upd b 0 y0) fun b_6 =>
  lt' (upd b_6 1 0) fun b_7 =>
  lt' (upd b_7 10 ((b_7 10) + 1)) fun b_8 =>
  some b_8
def fX0_swing (b : Nat → Int32) (se : Int64) (z : Int32) : Option ((Nat → Int32)) :=
  lt' (upd b 0 ((b 0) + (b 1))) fun b_1 =>
  if (300 : Int32) < (b_1 0) then (if (b_1 0) ≤ 0 then (fX0_swing_50 se z (-300) b_1) else (fX0_swing_50 se z 300 b_1)) else (if ((-300) : Int32) ≤ (b_1 0) then (some b_1) else (if (b_1 0) ≤ 0 then (fX0_swing_50 se z (-300) b_1) else (fX0_swing_50 se z 300 b_1)))
set_option maxHeartbeats 8000000 in
set_option maxRecDepth 100000 in
theorem mX0_swing (l : Launch) (D : va_G) (cI cJ cB cT : ClassId) (tt : Nat → Nat) (r_ r_P r_A : Nat)  {b : Nat → Int32} {se : Int64} {z : Int32} {out : (Nat → Int32)} (h : fX0_swing b se z = some out) :
    jM l yX0_swing (.code yX0_swing cX0_swing 1 none) rmX0_swing D (wTy cI cJ cB cT) tt [.ref r_] [cBal r_ r_P r_A b se z] (none) [cBal r_ r_P r_A out se z] := by
  refine jM.of (by decide) (Nat.le_of_ble_eq_true rfl) ?_
  intro p e s m below meth c A X hr
  have L_50 : ∀ (y0 : Int32) (b : Nat → Int32), fX0_swing_50 se z  y0 b = some out → jW p l e rmX0_swing s m ([.ref r_] : List Value).toArray below meth c D A 1 (MQ below (jQ D (none) [cBal r_ r_P r_A out se z] A) ([.ref r_] : List Value).toArray s 0 0 A) 0 0 50 [(0, .ref r_)] [.int y0, .ref r_] [cBal r_ r_P r_A b se z] := by
    intro  y0 b hR
    unfold fX0_swing_50 at hR
    obtain ⟨b_6, eb_6, hR⟩ := lt_some hR
    refine j_put X (ws2 := [cBal r_ r_P r_A b_6 se z]) 0 0 hiX0 tyX0_ok nmX0 k_98 dX0_swing_50 rfl rfl (by decide) (by decide) rfl rfl (Nat.le_of_ble_eq_true rfl) (by subst eb_6; rfl) ?_
    refine j_aload_n X (q := 0) dX0_swing_53 rfl ?_
    refine j_iconst X (v := 0) dX0_swing_54 (by decide) ?_
    obtain ⟨b_7, eb_7, hR⟩ := lt_some hR
    refine j_put X (ws2 := [cBal r_ r_P r_A b_7 se z]) 0 1 hiX0 tyX0_ok nmX0 k_100 dX0_swing_55 rfl rfl (by decide) (by decide) rfl rfl (Nat.le_of_ble_eq_true rfl) (by subst eb_7; rfl) ?_
    refine j_aload_n X (q := 0) dX0_swing_58 rfl ?_
    refine j_dup X dX0_swing_59 rfl ?_
    refine j_get X 0 7 hiX0 k_109 dX0_swing_60 rfl rfl (by decide) rfl ?_
    refine j_iconst X (v := 1) dX0_swing_63 (by decide) ?_
    refine j_iadd X dX0_swing_64 ?_
    obtain ⟨b_8, eb_8, hR⟩ := lt_some hR
    refine j_put X (ws2 := [cBal r_ r_P r_A b_8 se z]) 0 7 hiX0 tyX0_ok nmX0 k_109 dX0_swing_65 rfl rfl (by decide) (by decide) rfl rfl (Nat.le_of_ble_eq_true rfl) (by subst eb_8; rfl) ?_
    have hR := Option.some.inj hR
    exact j_vret X hr dX0_swing_68 rfl (by rw [← hR])
  refine j_sub (lv2 := [(0, .ref r_)]) [0] rfl ?_
  have hR := h
  unfold fX0_swing at hR
  refine j_aload_n X (q := 0) dX0_swing_0 rfl ?_
  refine j_dup X dX0_swing_1 rfl ?_
  refine j_get X 0 0 hiX0 k_98 dX0_swing_2 rfl rfl (by decide) rfl ?_
  refine j_aload_n X (q := 0) dX0_swing_5 rfl ?_
  refine j_get X 0 1 hiX0 k_100 dX0_swing_6 rfl rfl (by decide) rfl ?_
  refine j_iadd X dX0_swing_9 ?_
  obtain ⟨b_1, eb_1, hR⟩ := lt_some hR
  refine j_put X (ws2 := [cBal r_ r_P r_A b_1 se z]) 0 0 hiX0 tyX0_ok nmX0 k_98 dX0_swing_10 rfl rfl (by decide) (by decide) rfl rfl (Nat.le_of_ble_eq_true rfl) (by subst eb_1; rfl) ?_
  refine j_aload_n X (q := 0) dX0_swing_13 rfl ?_
  refine j_get X 0 0 hiX0 k_98 dX0_swing_14 rfl rfl (by decide) rfl ?_
  refine j_sipush X (v := 300) dX0_swing_17 (by decide) ?_
  refine j_icmp_gt X (tgt := 33) dX0_swing_20 (by decide) (fun c_2 => ?_) (fun c_2 => ?_)
  · replace hR := (if_pos c_2).symm.trans hR
    refine j_aload_n X (q := 0) dX0_swing_33 rfl ?_
    refine j_aload_n X (q := 0) dX0_swing_34 rfl ?_
    refine j_get X 0 0 hiX0 k_98 dX0_swing_35 rfl rfl (by decide) rfl ?_
    refine j_if_le X (tgt := 47) dX0_swing_38 (by decide) (fun c_3 => ?_) (fun c_3 => ?_)
    · replace hR := (if_pos c_3).symm.trans hR
      refine j_sipush X (v := (-300)) dX0_swing_47 (by decide) ?_
      exact L_50 _ _ hR
    · replace hR := (if_neg c_3).symm.trans hR
      refine j_sipush X (v := 300) dX0_swing_41 (by decide) ?_
      refine j_goto X (tgt := 50) dX0_swing_44 (by decide) ?_
      exact L_50 _ _ hR
  · replace hR := (if_neg c_2).symm.trans hR
    refine j_aload_n X (q := 0) dX0_swing_23 rfl ?_
    refine j_get X 0 0 hiX0 k_98 dX0_swing_24 rfl rfl (by decide) rfl ?_
    refine j_sipush X (v := (-300)) dX0_swing_27 (by decide) ?_
    refine j_icmp_ge X (tgt := 68) dX0_swing_30 (by decide) (fun c_4 => ?_) (fun c_4 => ?_)
    · replace hR := (if_pos c_4).symm.trans hR
      have hR := Option.some.inj hR
      exact j_vret X hr dX0_swing_68 rfl (by rw [← hR])
    · replace hR := (if_neg c_4).symm.trans hR
      refine j_aload_n X (q := 0) dX0_swing_33 rfl ?_
      refine j_aload_n X (q := 0) dX0_swing_34 rfl ?_
      refine j_get X 0 0 hiX0 k_98 dX0_swing_35 rfl rfl (by decide) rfl ?_
      refine j_if_le X (tgt := 47) dX0_swing_38 (by decide) (fun c_5 => ?_) (fun c_5 => ?_)
      · replace hR := (if_pos c_5).symm.trans hR
        refine j_sipush X (v := (-300)) dX0_swing_47 (by decide) ?_
        exact L_50 _ _ hR
      · replace hR := (if_neg c_5).symm.trans hR
        refine j_sipush X (v := 300) dX0_swing_41 (by decide) ?_
        refine j_goto X (tgt := 50) dX0_swing_44 (by decide) ?_
        exact L_50 _ _ hR

def rmX0_isLetGo : Room := { frames := 0, cells := 0, slots := 0, locals := 0 }
theorem hdX0_isLetGo : yX0_isLetGo.cls ≠ "java/lang/invoke/MethodHandle" ∧ yX0_isLetGo.cls ≠ "java/lang/invoke/VarHandle" ∧ (parseMethodDescriptor yX0_isLetGo.desc).map (fun d => d.parameters.length) = some 1 := by decide +kernel
def fX0_isLetGo (x1 : Int32) (b : Nat → Int32) (se : Int64) (z : Int32) : Option (Int32) :=
  if (0 : Int32) < (b 5) then (if (b 7) = 0 then (if (b 4) < x1 then (some 0) else (if (b 0) ≤ (b 4) then (some 0) else (some 1))) else (if x1 < (b 4) then (some 0) else (if (b 4) ≤ (b 0) then (some 0) else (some 1)))) else (some 0)
set_option maxHeartbeats 8000000 in
set_option maxRecDepth 100000 in
theorem mX0_isLetGo (l : Launch) (D : va_G) (cI cJ cB cT : ClassId) (tt : Nat → Nat) (r_ r_P r_A : Nat) {x1 : Int32} {b : Nat → Int32} {se : Int64} {z : Int32} {out : Int32} (h : fX0_isLetGo x1 b se z = some out) :
    jM l yX0_isLetGo (.code yX0_isLetGo cX0_isLetGo 2 (some .boolean)) rmX0_isLetGo D (wTy cI cJ cB cT) tt [.ref r_, .int x1] [cBal r_ r_P r_A b se z] (some (.int out)) [cBal r_ r_P r_A b se z] := by
  refine jM.of (by decide) (Nat.le_of_ble_eq_true rfl) ?_
  intro p e s m below meth c A X hr
  refine j_sub (lv2 := [(0, .ref r_), (1, .int x1)]) [0, 1] rfl ?_
  have hR := h
  unfold fX0_isLetGo at hR
  refine j_aload_n X (q := 0) dX0_isLetGo_0 rfl ?_
  refine j_get X 0 9 hiX0 k_111 dX0_isLetGo_1 rfl rfl (by decide) rfl ?_
  refine j_if_gt X (tgt := 9) dX0_isLetGo_4 (by decide) (fun c_1 => ?_) (fun c_1 => ?_)
  · replace hR := (if_pos c_1).symm.trans hR
    refine j_aload_n X (q := 0) dX0_isLetGo_9 rfl ?_
    refine j_get X 0 4 hiX0 k_104 dX0_isLetGo_10 rfl rfl (by decide) rfl ?_
    refine j_if_ne X (tgt := 43) dX0_isLetGo_13 (by decide) (fun c_2 => ?_) (fun c_2 => ?_)
    · replace hR := (if_neg c_2).symm.trans hR
      refine j_iload_n X (q := 1) dX0_isLetGo_43 rfl ?_
      refine j_aload_n X (q := 0) dX0_isLetGo_44 rfl ?_
      refine j_get X 0 3 hiX0 k_102 dX0_isLetGo_45 rfl rfl (by decide) rfl ?_
      refine j_icmp_lt X (tgt := 66) dX0_isLetGo_48 (by decide) (fun c_3 => ?_) (fun c_3 => ?_)
      · replace hR := (if_pos c_3).symm.trans hR
        refine j_iconst X (v := 0) dX0_isLetGo_66 (by decide) ?_
        have hR := Option.some.inj hR
        exact j_zret X hr rfl dX0_isLetGo_67 (by rw [← hR]) rfl
      · replace hR := (if_neg c_3).symm.trans hR
        refine j_aload_n X (q := 0) dX0_isLetGo_51 rfl ?_
        refine j_get X 0 0 hiX0 k_98 dX0_isLetGo_52 rfl rfl (by decide) rfl ?_
        refine j_aload_n X (q := 0) dX0_isLetGo_55 rfl ?_
        refine j_get X 0 3 hiX0 k_102 dX0_isLetGo_56 rfl rfl (by decide) rfl ?_
        refine j_icmp_ge X (tgt := 66) dX0_isLetGo_59 (by decide) (fun c_4 => ?_) (fun c_4 => ?_)
        · replace hR := (if_pos c_4).symm.trans hR
          refine j_iconst X (v := 0) dX0_isLetGo_66 (by decide) ?_
          have hR := Option.some.inj hR
          exact j_zret X hr rfl dX0_isLetGo_67 (by rw [← hR]) rfl
        · replace hR := (if_neg c_4).symm.trans hR
          refine j_iconst X (v := 1) dX0_isLetGo_62 (by decide) ?_
          refine j_goto X (tgt := 67) dX0_isLetGo_63 (by decide) ?_
          have hR := Option.some.inj hR
          exact j_zret X hr rfl dX0_isLetGo_67 (by rw [← hR]) rfl
    · replace hR := (if_pos c_2).symm.trans hR
      refine j_iload_n X (q := 1) dX0_isLetGo_16 rfl ?_
      refine j_aload_n X (q := 0) dX0_isLetGo_17 rfl ?_
      refine j_get X 0 3 hiX0 k_102 dX0_isLetGo_18 rfl rfl (by decide) rfl ?_
      refine j_icmp_gt X (tgt := 39) dX0_isLetGo_21 (by decide) (fun c_5 => ?_) (fun c_5 => ?_)
      · replace hR := (if_pos c_5).symm.trans hR
        refine j_iconst X (v := 0) dX0_isLetGo_39 (by decide) ?_
        refine j_goto X (tgt := 67) dX0_isLetGo_40 (by decide) ?_
        have hR := Option.some.inj hR
        exact j_zret X hr rfl dX0_isLetGo_67 (by rw [← hR]) rfl
      · replace hR := (if_neg c_5).symm.trans hR
        refine j_aload_n X (q := 0) dX0_isLetGo_24 rfl ?_
        refine j_get X 0 0 hiX0 k_98 dX0_isLetGo_25 rfl rfl (by decide) rfl ?_
        refine j_aload_n X (q := 0) dX0_isLetGo_28 rfl ?_
        refine j_get X 0 3 hiX0 k_102 dX0_isLetGo_29 rfl rfl (by decide) rfl ?_
        refine j_icmp_le X (tgt := 39) dX0_isLetGo_32 (by decide) (fun c_6 => ?_) (fun c_6 => ?_)
        · replace hR := (if_pos c_6).symm.trans hR
          refine j_iconst X (v := 0) dX0_isLetGo_39 (by decide) ?_
          refine j_goto X (tgt := 67) dX0_isLetGo_40 (by decide) ?_
          have hR := Option.some.inj hR
          exact j_zret X hr rfl dX0_isLetGo_67 (by rw [← hR]) rfl
        · replace hR := (if_neg c_6).symm.trans hR
          refine j_iconst X (v := 1) dX0_isLetGo_35 (by decide) ?_
          refine j_goto X (tgt := 67) dX0_isLetGo_36 (by decide) ?_
          have hR := Option.some.inj hR
          exact j_zret X hr rfl dX0_isLetGo_67 (by rw [← hR]) rfl
  · replace hR := (if_neg c_1).symm.trans hR
    refine j_iconst X (v := 0) dX0_isLetGo_7 (by decide) ?_
    have hR := Option.some.inj hR
    exact j_zret X hr rfl dX0_isLetGo_8 (by rw [← hR]) rfl

def rmX0_beKicked : Room := { frames := 0, cells := 0, slots := 0, locals := 0 }
theorem hdX0_beKicked : yX0_beKicked.cls ≠ "java/lang/invoke/MethodHandle" ∧ yX0_beKicked.cls ≠ "java/lang/invoke/VarHandle" ∧ (parseMethodDescriptor yX0_beKicked.desc).map (fun d => d.parameters.length) = some 0 := by decide +kernel
def fX0_beKicked_49 (se : Int64) (z : Int32) : (Nat → Int32) → Option ((Nat → Int32)) := fun b =>
    lt' (upd b 9 ((b 9) + 1)) fun b_7 =>
  if (b_7 6) ≤ 0 then (some b_7) else (gd (!decide (b_7 6 = 0)) (if ((b_7 9) - (b_7 9) / (b_7 6) * (b_7 6)) = 0 then (lt' (upd b_7 5 ((b_7 5) - 1)) fun b_11 =>
  some b_11) else (some b_7)))
def fX0_beKicked (b : Nat → Int32) (se : Int64) (z : Int32) : Option ((Nat → Int32)) :=
  lt' (((b 5) + 3) / 4) fun x1_1 =>
  if (b 7) = 0 then (lt' (upd b 1 ((b 1) + x1_1)) fun b_5 =>
  lt' (upd b_5 7 1) fun b_6 =>
  fX0_beKicked_49 se z b_6) else (lt' (upd b 1 ((b 1) - x1_1)) fun b_3 =>
  lt' (upd b_3 7 0) fun b_4 =>
  fX0_beKicked_49 se z b_4)
set_option maxHeartbeats 8000000 in
set_option maxRecDepth 100000 in
theorem mX0_beKicked (l : Launch) (D : va_G) (cI cJ cB cT : ClassId) (tt : Nat → Nat) (r_ r_P r_A : Nat)  {b : Nat → Int32} {se : Int64} {z : Int32} {out : (Nat → Int32)} (h : fX0_beKicked b se z = some out) :
    jM l yX0_beKicked (.code yX0_beKicked cX0_beKicked 2 none) rmX0_beKicked D (wTy cI cJ cB cT) tt [.ref r_] [cBal r_ r_P r_A b se z] (none) [cBal r_ r_P r_A out se z] := by
  refine jM.of (by decide) (Nat.le_of_ble_eq_true rfl) ?_
  intro p e s m below meth c A X hr
  have L_49 : ∀ (b : Nat → Int32), fX0_beKicked_49 se z  b = some out → jW p l e rmX0_beKicked s m ([.ref r_] : List Value).toArray below meth c D A 2 (MQ below (jQ D (none) [cBal r_ r_P r_A out se z] A) ([.ref r_] : List Value).toArray s 0 0 A) 0 0 49 [(0, .ref r_)] [] [cBal r_ r_P r_A b se z] := by
    intro  b hR
    unfold fX0_beKicked_49 at hR
    refine j_aload_n X (q := 0) dX0_beKicked_49 rfl ?_
    refine j_dup X dX0_beKicked_50 rfl ?_
    refine j_get X 0 6 hiX0 k_107 dX0_beKicked_51 rfl rfl (by decide) rfl ?_
    refine j_iconst X (v := 1) dX0_beKicked_54 (by decide) ?_
    refine j_iadd X dX0_beKicked_55 ?_
    obtain ⟨b_7, eb_7, hR⟩ := lt_some hR
    refine j_put X (ws2 := [cBal r_ r_P r_A b_7 se z]) 0 6 hiX0 tyX0_ok nmX0 k_107 dX0_beKicked_56 rfl rfl (by decide) (by decide) rfl rfl (Nat.le_of_ble_eq_true rfl) (by subst eb_7; rfl) ?_
    refine j_aload_n X (q := 0) dX0_beKicked_59 rfl ?_
    refine j_get X 0 10 hiX0 k_112 dX0_beKicked_60 rfl rfl (by decide) rfl ?_
    refine j_if_le X (tgt := 88) dX0_beKicked_63 (by decide) (fun c_8 => ?_) (fun c_8 => ?_)
    · replace hR := (if_pos c_8).symm.trans hR
      have hR := Option.some.inj hR
      exact j_vret X hr dX0_beKicked_88 rfl (by rw [← hR])
    · replace hR := (if_neg c_8).symm.trans hR
      refine j_aload_n X (q := 0) dX0_beKicked_66 rfl ?_
      refine j_get X 0 6 hiX0 k_107 dX0_beKicked_67 rfl rfl (by decide) rfl ?_
      refine j_aload_n X (q := 0) dX0_beKicked_70 rfl ?_
      refine j_get X 0 10 hiX0 k_112 dX0_beKicked_71 rfl rfl (by decide) rfl ?_
      obtain ⟨g_9, hR⟩ := gd_some hR
      refine j_irem X dX0_beKicked_74 (by simpa using g_9) ?_
      refine j_if_ne X (tgt := 88) dX0_beKicked_75 (by decide) (fun c_10 => ?_) (fun c_10 => ?_)
      · replace hR := (if_neg c_10).symm.trans hR
        have hR := Option.some.inj hR
        exact j_vret X hr dX0_beKicked_88 rfl (by rw [← hR])
      · replace hR := (if_pos c_10).symm.trans hR
        refine j_aload_n X (q := 0) dX0_beKicked_78 rfl ?_
        refine j_dup X dX0_beKicked_79 rfl ?_
        refine j_get X 0 9 hiX0 k_111 dX0_beKicked_80 rfl rfl (by decide) rfl ?_
        refine j_iconst X (v := 1) dX0_beKicked_83 (by decide) ?_
        refine j_isub X dX0_beKicked_84 ?_
        obtain ⟨b_11, eb_11, hR⟩ := lt_some hR
        refine j_put X (ws2 := [cBal r_ r_P r_A b_11 se z]) 0 9 hiX0 tyX0_ok nmX0 k_111 dX0_beKicked_85 rfl rfl (by decide) (by decide) rfl rfl (Nat.le_of_ble_eq_true rfl) (by subst eb_11; rfl) ?_
        have hR := Option.some.inj hR
        exact j_vret X hr dX0_beKicked_88 rfl (by rw [← hR])
  refine j_sub (lv2 := [(0, .ref r_)]) [0] rfl ?_
  have hR := h
  unfold fX0_beKicked at hR
  refine j_aload_n X (q := 0) dX0_beKicked_0 rfl ?_
  refine j_get X 0 9 hiX0 k_111 dX0_beKicked_1 rfl rfl (by decide) rfl ?_
  refine j_iconst X (v := 3) dX0_beKicked_4 (by decide) ?_
  refine j_iadd X dX0_beKicked_5 ?_
  refine j_iconst X (v := 4) dX0_beKicked_6 (by decide) ?_
  refine j_idiv X dX0_beKicked_7 (by decide) ?_
  obtain ⟨x1_1, ex1_1, hR⟩ := lt_some hR
  refine j_eq (congrArg (fun z => Value.int z :: _) ex1_1) rfl ?_
  refine j_istore_n X (lv2 := [(1, .int x1_1), (0, .ref r_)]) dX0_beKicked_8 (by decide) rfl ?_
  refine j_aload_n X (q := 1) dX0_beKicked_9 rfl ?_
  refine j_get X 0 4 hiX0 k_104 dX0_beKicked_10 rfl rfl (by decide) rfl ?_
  refine j_if_ne X (tgt := 34) dX0_beKicked_13 (by decide) (fun c_2 => ?_) (fun c_2 => ?_)
  · replace hR := (if_neg c_2).symm.trans hR
    refine j_aload_n X (q := 1) dX0_beKicked_34 rfl ?_
    refine j_dup X dX0_beKicked_35 rfl ?_
    refine j_get X 0 1 hiX0 k_100 dX0_beKicked_36 rfl rfl (by decide) rfl ?_
    refine j_iload_n X (q := 0) dX0_beKicked_39 rfl ?_
    refine j_isub X dX0_beKicked_40 ?_
    obtain ⟨b_3, eb_3, hR⟩ := lt_some hR
    refine j_put X (ws2 := [cBal r_ r_P r_A b_3 se z]) 0 1 hiX0 tyX0_ok nmX0 k_100 dX0_beKicked_41 rfl rfl (by decide) (by decide) rfl rfl (Nat.le_of_ble_eq_true rfl) (by subst eb_3; rfl) ?_
    refine j_aload_n X (q := 1) dX0_beKicked_44 rfl ?_
    refine j_iconst X (v := 0) dX0_beKicked_45 (by decide) ?_
    obtain ⟨b_4, eb_4, hR⟩ := lt_some hR
    refine j_put X (ws2 := [cBal r_ r_P r_A b_4 se z]) 0 4 hiX0 tyX0_ok nmX0 k_104 dX0_beKicked_46 rfl rfl (by decide) (by decide) rfl rfl (Nat.le_of_ble_eq_true rfl) (by subst eb_4; rfl) ?_
    refine j_sub (lv2 := [(0, .ref r_)]) [1] rfl ?_
    exact L_49 _ hR
  · replace hR := (if_pos c_2).symm.trans hR
    refine j_aload_n X (q := 1) dX0_beKicked_16 rfl ?_
    refine j_dup X dX0_beKicked_17 rfl ?_
    refine j_get X 0 1 hiX0 k_100 dX0_beKicked_18 rfl rfl (by decide) rfl ?_
    refine j_iload_n X (q := 0) dX0_beKicked_21 rfl ?_
    refine j_iadd X dX0_beKicked_22 ?_
    obtain ⟨b_5, eb_5, hR⟩ := lt_some hR
    refine j_put X (ws2 := [cBal r_ r_P r_A b_5 se z]) 0 1 hiX0 tyX0_ok nmX0 k_100 dX0_beKicked_23 rfl rfl (by decide) (by decide) rfl rfl (Nat.le_of_ble_eq_true rfl) (by subst eb_5; rfl) ?_
    refine j_aload_n X (q := 1) dX0_beKicked_26 rfl ?_
    refine j_iconst X (v := 1) dX0_beKicked_27 (by decide) ?_
    obtain ⟨b_6, eb_6, hR⟩ := lt_some hR
    refine j_put X (ws2 := [cBal r_ r_P r_A b_6 se z]) 0 4 hiX0 tyX0_ok nmX0 k_104 dX0_beKicked_28 rfl rfl (by decide) (by decide) rfl rfl (Nat.le_of_ble_eq_true rfl) (by subst eb_6; rfl) ?_
    refine j_goto X (tgt := 49) dX0_beKicked_31 (by decide) ?_
    refine j_sub (lv2 := [(0, .ref r_)]) [1] rfl ?_
    exact L_49 _ hR

def rmX2_removeFirst : Room := { frames := 0, cells := 0, slots := 0, locals := 0 }
theorem hdX2_removeFirst : yX2_removeFirst.cls ≠ "java/lang/invoke/MethodHandle" ∧ yX2_removeFirst.cls ≠ "java/lang/invoke/VarHandle" ∧ (parseMethodDescriptor yX2_removeFirst.desc).map (fun d => d.parameters.length) = some 1 := by decide +kernel
def fX2_removeFirst_16 (x1 : Int32) : Nat → Int32 → Int32 → (Nat → Int32) → (Nat → Int32) → (Nat → Int32) → Option (Int32 × (Nat → Int32) × (Nat → Int32) × (Nat → Int32))
  | 0, _, _, _, _, _ => none
  | fu + 1, x2, k, f_s, f_t, f_w =>
    if k ≤ x2 then (lt' (k - x1) fun k_4 =>
  some (k_4, f_s, f_t, f_w)) else (if (8 : Int32) ≤ x2 then (lt' (k - x1) fun k_6 =>
  some (k_6, f_s, f_t, f_w)) else (gd (inb x2 8) (gd (inb (x2 - x1) 8) (lt' (upd f_t ((x2 - x1).toNatClampNeg) (f_t x2.toNatClampNeg)) fun f_t_9 =>
  gd (inb x2 8) (gd (inb (x2 - x1) 8) (lt' (upd f_w ((x2 - x1).toNatClampNeg) (f_w x2.toNatClampNeg)) fun f_w_12 =>
  gd (inb x2 8) (gd (inb (x2 - x1) 8) (lt' (upd f_s ((x2 - x1).toNatClampNeg) (f_s x2.toNatClampNeg)) fun f_s_15 =>
  lt' (x2 + 1) fun x2_16 =>
  fX2_removeFirst_16 x1 fu x2_16 k f_s_15 f_t_9 f_w_12))))))))
def fX2_removeFirst (x1 : Int32) (k : Int32) (f_s : Nat → Int32) (f_t : Nat → Int32) (f_w : Nat → Int32) : Option (Int32 × (Nat → Int32) × (Nat → Int32) × (Nat → Int32)) :=
  if x1 < 1 then (some (k, f_s, f_t, f_w)) else (if x1 ≤ k then (fX2_removeFirst_16 x1 500 x1 k f_s f_t f_w) else (some (k, f_s, f_t, f_w)))
set_option maxHeartbeats 8000000 in
set_option maxRecDepth 100000 in
theorem mX2_removeFirst (l : Launch) (D : va_G) (cI cJ cB cT : ClassId) (tt : Nat → Nat) (r_ r_t r_w r_s : Nat) {x1 : Int32} {k : Int32} {f_s : Nat → Int32} {f_t : Nat → Int32} {f_w : Nat → Int32} {out : Int32 × (Nat → Int32) × (Nat → Int32) × (Nat → Int32)} (h : fX2_removeFirst x1 k f_s f_t f_w = some out) :
    jM l yX2_removeFirst (.code yX2_removeFirst cX2_removeFirst 3 none) rmX2_removeFirst D (wTy cI cJ cB cT) tt [.ref r_, .int x1] [cPus r_ r_t r_w r_s k, cIar cI r_s 8 f_s, cIar cI r_t 8 f_t, cIar cI r_w 8 f_w] (none) [cPus r_ r_t r_w r_s out.1, cIar cI r_s 8 out.2.1, cIar cI r_t 8 out.2.2.1, cIar cI r_w 8 out.2.2.2] := by
  refine jM.of (by decide) (Nat.le_of_ble_eq_true rfl) ?_
  intro p e s m below meth c A X hr
  have L_16 : ∀ (fuel : Nat) (x2 : Int32) (k : Int32) (f_s : Nat → Int32) (f_t : Nat → Int32) (f_w : Nat → Int32), fX2_removeFirst_16 x1  fuel x2 k f_s f_t f_w = some out → jW p l e rmX2_removeFirst s m ([.ref r_, .int x1] : List Value).toArray below meth c D A 3 (MQ below (jQ D (none) [cPus r_ r_t r_w r_s out.1, cIar cI r_s 8 out.2.1, cIar cI r_t 8 out.2.2.1, cIar cI r_w 8 out.2.2.2] A) ([.ref r_, .int x1] : List Value).toArray s 0 0 A) 0 0 16 [(0, .ref r_), (1, .int x1), (2, .int x2)] [] [cPus r_ r_t r_w r_s k, cIar cI r_s 8 f_s, cIar cI r_t 8 f_t, cIar cI r_w 8 f_w] := by
    intro  fuel
    induction fuel with
    | zero =>
      intro x2 k f_s f_t f_w hR
      rw [fX2_removeFirst_16] at hR
      cases hR
    | succ fu ih =>
      intro x2 k f_s f_t f_w hR
      rw [fX2_removeFirst_16] at hR
      refine j_iload_n X (q := 2) dX2_removeFirst_16 rfl ?_
      refine j_aload_n X (q := 0) dX2_removeFirst_17 rfl ?_
      refine j_get X 0 3 hiX2 k_85 dX2_removeFirst_18 rfl rfl (by decide) rfl ?_
      refine j_icmp_ge X (tgt := 78) dX2_removeFirst_21 (by decide) (fun c_3 => ?_) (fun c_3 => ?_)
      · replace hR := (if_pos c_3).symm.trans hR
        refine j_aload_n X (q := 0) dX2_removeFirst_78 rfl ?_
        refine j_dup X dX2_removeFirst_79 rfl ?_
        refine j_get X 0 3 hiX2 k_85 dX2_removeFirst_80 rfl rfl (by decide) rfl ?_
        refine j_iload_n X (q := 1) dX2_removeFirst_83 rfl ?_
        refine j_isub X dX2_removeFirst_84 ?_
        obtain ⟨k_4, ek_4, hR⟩ := lt_some hR
        refine j_put X (ws2 := [cPus r_ r_t r_w r_s k_4, cIar cI r_s 8 f_s, cIar cI r_t 8 f_t, cIar cI r_w 8 f_w]) 0 3 hiX2 tyX2_ok nmX2 k_85 dX2_removeFirst_85 rfl rfl (by decide) (by decide) rfl rfl (Nat.le_of_ble_eq_true rfl) (by subst ek_4; rfl) ?_
        have hR := Option.some.inj hR
        exact j_vret X hr dX2_removeFirst_88 rfl (by rw [← hR])
      · replace hR := (if_neg c_3).symm.trans hR
        refine j_iload_n X (q := 2) dX2_removeFirst_24 rfl ?_
        refine j_bipush X (v := 8) dX2_removeFirst_25 (by decide) ?_
        refine j_icmp_ge X (tgt := 78) dX2_removeFirst_27 (by decide) (fun c_5 => ?_) (fun c_5 => ?_)
        · replace hR := (if_pos c_5).symm.trans hR
          refine j_aload_n X (q := 0) dX2_removeFirst_78 rfl ?_
          refine j_dup X dX2_removeFirst_79 rfl ?_
          refine j_get X 0 3 hiX2 k_85 dX2_removeFirst_80 rfl rfl (by decide) rfl ?_
          refine j_iload_n X (q := 1) dX2_removeFirst_83 rfl ?_
          refine j_isub X dX2_removeFirst_84 ?_
          obtain ⟨k_6, ek_6, hR⟩ := lt_some hR
          refine j_put X (ws2 := [cPus r_ r_t r_w r_s k_6, cIar cI r_s 8 f_s, cIar cI r_t 8 f_t, cIar cI r_w 8 f_w]) 0 3 hiX2 tyX2_ok nmX2 k_85 dX2_removeFirst_85 rfl rfl (by decide) (by decide) rfl rfl (Nat.le_of_ble_eq_true rfl) (by subst ek_6; rfl) ?_
          have hR := Option.some.inj hR
          exact j_vret X hr dX2_removeFirst_88 rfl (by rw [← hR])
        · replace hR := (if_neg c_5).symm.trans hR
          refine j_aload_n X (q := 0) dX2_removeFirst_30 rfl ?_
          refine j_get X 0 0 hiX2 k_76 dX2_removeFirst_31 rfl rfl (by decide) rfl ?_
          refine j_iload_n X (q := 2) dX2_removeFirst_34 rfl ?_
          refine j_iload_n X (q := 1) dX2_removeFirst_35 rfl ?_
          refine j_isub X dX2_removeFirst_36 ?_
          refine j_aload_n X (q := 0) dX2_removeFirst_37 rfl ?_
          refine j_get X 0 0 hiX2 k_76 dX2_removeFirst_38 rfl rfl (by decide) rfl ?_
          refine j_iload_n X (q := 2) dX2_removeFirst_41 rfl ?_
          obtain ⟨g_7, hR⟩ := gd_some hR
          refine j_iald X 2 0 rfl dX2_removeFirst_42 rfl rfl g_7 ?_
          obtain ⟨g_8, hR⟩ := gd_some hR
          obtain ⟨f_t_9, ef_t_9, hR⟩ := lt_some hR
          refine j_iast X (ws2 := [cPus r_ r_t r_w r_s k, cIar cI r_s 8 f_s, cIar cI r_t 8 f_t_9, cIar cI r_w 8 f_w]) 2 0 rfl dX2_removeFirst_43 rfl rfl g_8 ef_t_9 rfl ?_
          refine j_aload_n X (q := 0) dX2_removeFirst_44 rfl ?_
          refine j_get X 0 1 hiX2 k_79 dX2_removeFirst_45 rfl rfl (by decide) rfl ?_
          refine j_iload_n X (q := 2) dX2_removeFirst_48 rfl ?_
          refine j_iload_n X (q := 1) dX2_removeFirst_49 rfl ?_
          refine j_isub X dX2_removeFirst_50 ?_
          refine j_aload_n X (q := 0) dX2_removeFirst_51 rfl ?_
          refine j_get X 0 1 hiX2 k_79 dX2_removeFirst_52 rfl rfl (by decide) rfl ?_
          refine j_iload_n X (q := 2) dX2_removeFirst_55 rfl ?_
          obtain ⟨g_10, hR⟩ := gd_some hR
          refine j_iald X 3 0 rfl dX2_removeFirst_56 rfl rfl g_10 ?_
          obtain ⟨g_11, hR⟩ := gd_some hR
          obtain ⟨f_w_12, ef_w_12, hR⟩ := lt_some hR
          refine j_iast X (ws2 := [cPus r_ r_t r_w r_s k, cIar cI r_s 8 f_s, cIar cI r_t 8 f_t_9, cIar cI r_w 8 f_w_12]) 3 0 rfl dX2_removeFirst_57 rfl rfl g_11 ef_w_12 rfl ?_
          refine j_aload_n X (q := 0) dX2_removeFirst_58 rfl ?_
          refine j_get X 0 2 hiX2 k_82 dX2_removeFirst_59 rfl rfl (by decide) rfl ?_
          refine j_iload_n X (q := 2) dX2_removeFirst_62 rfl ?_
          refine j_iload_n X (q := 1) dX2_removeFirst_63 rfl ?_
          refine j_isub X dX2_removeFirst_64 ?_
          refine j_aload_n X (q := 0) dX2_removeFirst_65 rfl ?_
          refine j_get X 0 2 hiX2 k_82 dX2_removeFirst_66 rfl rfl (by decide) rfl ?_
          refine j_iload_n X (q := 2) dX2_removeFirst_69 rfl ?_
          obtain ⟨g_13, hR⟩ := gd_some hR
          refine j_iald X 1 0 rfl dX2_removeFirst_70 rfl rfl g_13 ?_
          obtain ⟨g_14, hR⟩ := gd_some hR
          obtain ⟨f_s_15, ef_s_15, hR⟩ := lt_some hR
          refine j_iast X (ws2 := [cPus r_ r_t r_w r_s k, cIar cI r_s 8 f_s_15, cIar cI r_t 8 f_t_9, cIar cI r_w 8 f_w_12]) 1 0 rfl dX2_removeFirst_71 rfl rfl g_14 ef_s_15 rfl ?_
          obtain ⟨x2_16, ex2_16, hR⟩ := lt_some hR
          refine j_iinc X (k := 2) (v := x2_16) (lv2 := [(2, .int x2_16), (0, .ref r_), (1, .int x1)]) dX2_removeFirst_72 rfl (by rw [← ex2_16]; rfl) (by decide) rfl ?_
          refine j_goto X (tgt := 16) dX2_removeFirst_75 (by decide) ?_
          refine j_sub (lv2 := [(0, .ref r_), (1, .int x1), (2, .int x2_16)]) [1, 2, 0] rfl ?_
          exact ih _ _ _ _ _ hR
  refine j_sub (lv2 := [(0, .ref r_), (1, .int x1)]) [0, 1] rfl ?_
  have hR := h
  unfold fX2_removeFirst at hR
  refine j_iload_n X (q := 1) dX2_removeFirst_0 rfl ?_
  refine j_iconst X (v := 1) dX2_removeFirst_1 (by decide) ?_
  refine j_icmp_lt X (tgt := 13) dX2_removeFirst_2 (by decide) (fun c_1 => ?_) (fun c_1 => ?_)
  · replace hR := (if_pos c_1).symm.trans hR
    have hR := Option.some.inj hR
    exact j_vret X hr dX2_removeFirst_13 rfl (by rw [← hR])
  · replace hR := (if_neg c_1).symm.trans hR
    refine j_iload_n X (q := 1) dX2_removeFirst_5 rfl ?_
    refine j_aload_n X (q := 0) dX2_removeFirst_6 rfl ?_
    refine j_get X 0 3 hiX2 k_85 dX2_removeFirst_7 rfl rfl (by decide) rfl ?_
    refine j_icmp_le X (tgt := 14) dX2_removeFirst_10 (by decide) (fun c_2 => ?_) (fun c_2 => ?_)
    · replace hR := (if_pos c_2).symm.trans hR
      refine j_iload_n X (q := 1) dX2_removeFirst_14 rfl ?_
      refine j_istore_n X (lv2 := [(2, .int x1), (0, .ref r_), (1, .int x1)]) dX2_removeFirst_15 (by decide) rfl ?_
      refine j_sub (lv2 := [(0, .ref r_), (1, .int x1), (2, .int x1)]) [1, 2, 0] rfl ?_
      exact L_16 _ _ _ _ _ _ hR
    · replace hR := (if_neg c_2).symm.trans hR
      have hR := Option.some.inj hR
      exact j_vret X hr dX2_removeFirst_13 rfl (by rw [← hR])

def rmX0_bePushed : Room := { frames := 2, cells := 0, slots := 0, locals := 37 }
theorem hdX0_bePushed : yX0_bePushed.cls ≠ "java/lang/invoke/MethodHandle" ∧ yX0_bePushed.cls ≠ "java/lang/invoke/VarHandle" ∧ (parseMethodDescriptor yX0_bePushed.desc).map (fun d => d.parameters.length) = some 0 := by decide +kernel
def fX0_bePushed_2 (se : Int64) (z : Int32) : Nat → Int32 → (Nat → Int32) → Int32 → (Nat → Int32) → (Nat → Int32) → (Nat → Int32) → Option ((Nat → Int32) × Int32 × (Nat → Int32) × (Nat → Int32) × (Nat → Int32))
  | 0, _, _, _, _, _, _ => none
  | fu + 1, x1, b, k_P, f_Ps, f_Pt, f_Pw =>
    if k_P ≤ x1 then ((fX2_removeFirst x1 k_P f_Ps f_Pt f_Pw).bind fun o_2 =>
  some (b, o_2.1, o_2.2.1, o_2.2.2.1, o_2.2.2.2)) else (if (8 : Int32) ≤ x1 then ((fX2_removeFirst x1 k_P f_Ps f_Pt f_Pw).bind fun o_4 =>
  some (b, o_4.1, o_4.2.1, o_4.2.2.1, o_4.2.2.2)) else (gd (inb x1 8) (if (f_Pt x1.toNatClampNeg) = (b 8) then (gd (inb x1 8) (gd (inb x1 8) ((fX0_doPush (f_Pw x1.toNatClampNeg) (f_Ps x1.toNatClampNeg) b se z).bind fun o_10 =>
  lt' (x1 + 1) fun x1_11 =>
  fX0_bePushed_2 se z fu x1_11 o_10 k_P f_Ps f_Pt f_Pw))) else ((fX2_removeFirst x1 k_P f_Ps f_Pt f_Pw).bind fun o_7 =>
  some (b, o_7.1, o_7.2.1, o_7.2.2.1, o_7.2.2.2)))))
def fX0_bePushed (b : Nat → Int32) (se : Int64) (z : Int32) (k_P : Int32) (f_Ps : Nat → Int32) (f_Pt : Nat → Int32) (f_Pw : Nat → Int32) : Option ((Nat → Int32) × Int32 × (Nat → Int32) × (Nat → Int32) × (Nat → Int32)) :=
  fX0_bePushed_2 se z 500 0 b k_P f_Ps f_Pt f_Pw
set_option maxHeartbeats 8000000 in
set_option maxRecDepth 100000 in
theorem mX0_bePushed (l : Launch) (D : va_G) (cI cJ cB cT : ClassId) (tt : Nat → Nat) (r_ r_P r_A r_Pt r_Pw r_Ps : Nat)  {b : Nat → Int32} {se : Int64} {z : Int32} {k_P : Int32} {f_Ps : Nat → Int32} {f_Pt : Nat → Int32} {f_Pw : Nat → Int32} {out : (Nat → Int32) × Int32 × (Nat → Int32) × (Nat → Int32) × (Nat → Int32)} (h : fX0_bePushed b se z k_P f_Ps f_Pt f_Pw = some out) :
    jM l yX0_bePushed (.code yX0_bePushed cX0_bePushed 2 none) rmX0_bePushed D (wTy cI cJ cB cT) tt [.ref r_] [cBal r_ r_P r_A b se z, cPus r_P r_Pt r_Pw r_Ps k_P, cIar cI r_Ps 8 f_Ps, cIar cI r_Pt 8 f_Pt, cIar cI r_Pw 8 f_Pw] (none) [cBal r_ r_P r_A out.1 se z, cPus r_P r_Pt r_Pw r_Ps out.2.1, cIar cI r_Ps 8 out.2.2.1, cIar cI r_Pt 8 out.2.2.2.1, cIar cI r_Pw 8 out.2.2.2.2] := by
  refine jM.of (by decide) (Nat.le_of_ble_eq_true rfl) ?_
  intro p e s m below meth c A X hr
  have L_2 : ∀ (fuel : Nat) (x1 : Int32) (b : Nat → Int32) (k_P : Int32) (f_Ps : Nat → Int32) (f_Pt : Nat → Int32) (f_Pw : Nat → Int32), fX0_bePushed_2 se z  fuel x1 b k_P f_Ps f_Pt f_Pw = some out → jW p l e rmX0_bePushed s m ([.ref r_] : List Value).toArray below meth c D A 2 (MQ below (jQ D (none) [cBal r_ r_P r_A out.1 se z, cPus r_P r_Pt r_Pw r_Ps out.2.1, cIar cI r_Ps 8 out.2.2.1, cIar cI r_Pt 8 out.2.2.2.1, cIar cI r_Pw 8 out.2.2.2.2] A) ([.ref r_] : List Value).toArray s 0 0 A) 0 0 2 [(0, .ref r_), (1, .int x1)] [] [cBal r_ r_P r_A b se z, cPus r_P r_Pt r_Pw r_Ps k_P, cIar cI r_Ps 8 f_Ps, cIar cI r_Pt 8 f_Pt, cIar cI r_Pw 8 f_Pw] := by
    intro  fuel
    induction fuel with
    | zero =>
      intro x1 b k_P f_Ps f_Pt f_Pw hR
      rw [fX0_bePushed_2] at hR
      cases hR
    | succ fu ih =>
      intro x1 b k_P f_Ps f_Pt f_Pw hR
      rw [fX0_bePushed_2] at hR
      refine j_iload_n X (q := 1) dX0_bePushed_2 rfl ?_
      refine j_aload_n X (q := 0) dX0_bePushed_3 rfl ?_
      refine j_get X 0 11 hiX0 k_113 dX0_bePushed_4 rfl rfl (by decide) rfl ?_
      refine j_get X 1 3 hiX2 k_86 dX0_bePushed_7 rfl rfl (by decide) rfl ?_
      refine j_icmp_ge X (tgt := 63) dX0_bePushed_10 (by decide) (fun c_1 => ?_) (fun c_1 => ?_)
      · replace hR := (if_pos c_1).symm.trans hR
        refine j_aload_n X (q := 0) dX0_bePushed_63 rfl ?_
        refine j_get X 0 11 hiX0 k_113 dX0_bePushed_64 rfl rfl (by decide) rfl ?_
        refine j_iload_n X (q := 1) dX0_bePushed_67 rfl ?_
        obtain ⟨o_2, ho_2, hR⟩ := bd_some hR
        refine j_callV X (As := [.int x1]) (rest := []) (ws2 := [cBal r_ r_P r_A b se z, cPus r_P r_Pt r_Pw r_Ps o_2.1, cIar cI r_Ps 8 o_2.2.1, cIar cI r_Pt 8 o_2.2.2.1, cIar cI r_Pw 8 o_2.2.2.2]) (q0 := 1) (ci := 2) (mX2_removeFirst l D cI cJ cB cT tt r_P r_Pt r_Pw r_Ps ho_2) [1, 2, 3, 4] [.inl 0, .inr 0, .inr 1, .inr 2, .inr 3] k_370 k_367 k_368 k_369 rfl rfl k_41 hdX2_removeFirst (by decide) (Nat.le_of_ble_eq_true rfl) dX0_bePushed_68 (by decide) rfl rfl (by decide) rfl rfl ?_
        have hR := Option.some.inj hR
        exact j_vret X hr dX0_bePushed_71 rfl (by rw [← hR])
      · replace hR := (if_neg c_1).symm.trans hR
        refine j_iload_n X (q := 1) dX0_bePushed_13 rfl ?_
        refine j_bipush X (v := 8) dX0_bePushed_14 (by decide) ?_
        refine j_icmp_ge X (tgt := 63) dX0_bePushed_16 (by decide) (fun c_3 => ?_) (fun c_3 => ?_)
        · replace hR := (if_pos c_3).symm.trans hR
          refine j_aload_n X (q := 0) dX0_bePushed_63 rfl ?_
          refine j_get X 0 11 hiX0 k_113 dX0_bePushed_64 rfl rfl (by decide) rfl ?_
          refine j_iload_n X (q := 1) dX0_bePushed_67 rfl ?_
          obtain ⟨o_4, ho_4, hR⟩ := bd_some hR
          refine j_callV X (As := [.int x1]) (rest := []) (ws2 := [cBal r_ r_P r_A b se z, cPus r_P r_Pt r_Pw r_Ps o_4.1, cIar cI r_Ps 8 o_4.2.1, cIar cI r_Pt 8 o_4.2.2.1, cIar cI r_Pw 8 o_4.2.2.2]) (q0 := 1) (ci := 2) (mX2_removeFirst l D cI cJ cB cT tt r_P r_Pt r_Pw r_Ps ho_4) [1, 2, 3, 4] [.inl 0, .inr 0, .inr 1, .inr 2, .inr 3] k_370 k_367 k_368 k_369 rfl rfl k_41 hdX2_removeFirst (by decide) (Nat.le_of_ble_eq_true rfl) dX0_bePushed_68 (by decide) rfl rfl (by decide) rfl rfl ?_
          have hR := Option.some.inj hR
          exact j_vret X hr dX0_bePushed_71 rfl (by rw [← hR])
        · replace hR := (if_neg c_3).symm.trans hR
          refine j_aload_n X (q := 0) dX0_bePushed_19 rfl ?_
          refine j_get X 0 11 hiX0 k_113 dX0_bePushed_20 rfl rfl (by decide) rfl ?_
          refine j_get X 1 0 hiX2 k_78 dX0_bePushed_23 rfl rfl (by decide) rfl ?_
          refine j_iload_n X (q := 1) dX0_bePushed_26 rfl ?_
          obtain ⟨g_5, hR⟩ := gd_some hR
          refine j_iald X 3 0 rfl dX0_bePushed_27 rfl rfl g_5 ?_
          refine j_aload_n X (q := 0) dX0_bePushed_28 rfl ?_
          refine j_get X 0 5 hiX0 k_105 dX0_bePushed_29 rfl rfl (by decide) rfl ?_
          refine j_icmp_ne X (tgt := 63) dX0_bePushed_32 (by decide) (fun c_6 => ?_) (fun c_6 => ?_)
          · replace hR := (if_neg c_6).symm.trans hR
            refine j_aload_n X (q := 0) dX0_bePushed_63 rfl ?_
            refine j_get X 0 11 hiX0 k_113 dX0_bePushed_64 rfl rfl (by decide) rfl ?_
            refine j_iload_n X (q := 1) dX0_bePushed_67 rfl ?_
            obtain ⟨o_7, ho_7, hR⟩ := bd_some hR
            refine j_callV X (As := [.int x1]) (rest := []) (ws2 := [cBal r_ r_P r_A b se z, cPus r_P r_Pt r_Pw r_Ps o_7.1, cIar cI r_Ps 8 o_7.2.1, cIar cI r_Pt 8 o_7.2.2.1, cIar cI r_Pw 8 o_7.2.2.2]) (q0 := 1) (ci := 2) (mX2_removeFirst l D cI cJ cB cT tt r_P r_Pt r_Pw r_Ps ho_7) [1, 2, 3, 4] [.inl 0, .inr 0, .inr 1, .inr 2, .inr 3] k_370 k_367 k_368 k_369 rfl rfl k_41 hdX2_removeFirst (by decide) (Nat.le_of_ble_eq_true rfl) dX0_bePushed_68 (by decide) rfl rfl (by decide) rfl rfl ?_
            have hR := Option.some.inj hR
            exact j_vret X hr dX0_bePushed_71 rfl (by rw [← hR])
          · replace hR := (if_pos c_6).symm.trans hR
            refine j_aload_n X (q := 0) dX0_bePushed_35 rfl ?_
            refine j_aload_n X (q := 0) dX0_bePushed_36 rfl ?_
            refine j_get X 0 11 hiX0 k_113 dX0_bePushed_37 rfl rfl (by decide) rfl ?_
            refine j_get X 1 1 hiX2 k_81 dX0_bePushed_40 rfl rfl (by decide) rfl ?_
            refine j_iload_n X (q := 1) dX0_bePushed_43 rfl ?_
            obtain ⟨g_8, hR⟩ := gd_some hR
            refine j_iald X 4 0 rfl dX0_bePushed_44 rfl rfl g_8 ?_
            refine j_aload_n X (q := 0) dX0_bePushed_45 rfl ?_
            refine j_get X 0 11 hiX0 k_113 dX0_bePushed_46 rfl rfl (by decide) rfl ?_
            refine j_get X 1 2 hiX2 k_84 dX0_bePushed_49 rfl rfl (by decide) rfl ?_
            refine j_iload_n X (q := 1) dX0_bePushed_52 rfl ?_
            obtain ⟨g_9, hR⟩ := gd_some hR
            refine j_iald X 2 0 rfl dX0_bePushed_53 rfl rfl g_9 ?_
            obtain ⟨o_10, ho_10, hR⟩ := bd_some hR
            refine j_callV X (As := [.int (f_Pw x1.toNatClampNeg), .int (f_Ps x1.toNatClampNeg)]) (rest := []) (ws2 := [cBal r_ r_P r_A o_10 se z, cPus r_P r_Pt r_Pw r_Ps k_P, cIar cI r_Ps 8 f_Ps, cIar cI r_Pt 8 f_Pt, cIar cI r_Pw 8 f_Pw]) (q0 := 0) (ci := 0) (mX0_doPush l D cI cJ cB cT tt r_ r_P r_A ho_10) [0] [.inr 0, .inl 1, .inl 2, .inl 3, .inl 4] k_360 k_357 k_359 k_2 rfl rfl k_40 hdX0_doPush (by decide) (Nat.le_of_ble_eq_true rfl) dX0_bePushed_54 (by decide) rfl rfl (by decide) rfl rfl ?_
            obtain ⟨x1_11, ex1_11, hR⟩ := lt_some hR
            refine j_iinc X (k := 1) (v := x1_11) (lv2 := [(1, .int x1_11), (0, .ref r_)]) dX0_bePushed_57 rfl (by rw [← ex1_11]; rfl) (by decide) rfl ?_
            refine j_goto X (tgt := 2) dX0_bePushed_60 (by decide) ?_
            refine j_sub (lv2 := [(0, .ref r_), (1, .int x1_11)]) [1, 0] rfl ?_
            exact ih _ _ _ _ _ _ hR
  refine j_sub (lv2 := [(0, .ref r_)]) [0] rfl ?_
  have hR := h
  unfold fX0_bePushed at hR
  refine j_iconst X (v := 0) dX0_bePushed_0 (by decide) ?_
  refine j_istore_n X (lv2 := [(1, .int 0), (0, .ref r_)]) dX0_bePushed_1 (by decide) rfl ?_
  refine j_sub (lv2 := [(0, .ref r_), (1, .int 0)]) [1, 0] rfl ?_
  exact L_2 _ _ _ _ _ _ _ hR

def rmX0_tick : Room := { frames := 3, cells := 0, slots := 0, locals := 58 }
theorem hdX0_tick : yX0_tick.cls ≠ "java/lang/invoke/MethodHandle" ∧ yX0_tick.cls ≠ "java/lang/invoke/VarHandle" ∧ (parseMethodDescriptor yX0_tick.desc).map (fun d => d.parameters.length) = some 0 := by decide +kernel
def fX0_tick_72 (z : Int32) : Int32 → (Nat → Int32) → Int64 → (Nat → Int64) → Int32 → (Nat → Int32) → (Nat → Int32) → (Nat → Int32) → Option (Int32 × (Nat → Int32) × Int64 × (Nat → Int64) × Int32 × (Nat → Int32) × (Nat → Int32) × (Nat → Int32)) := fun x2 b se f_A k_P f_Ps f_Pt f_Pw =>
    (fX0_settle 3 b se z f_A).bind fun o_13 =>
  lt' (upd b 8 ((b 8) + 1)) fun b_14 =>
  gd (zb x2) (some (x2, b_14, o_13.1, o_13.2, k_P, f_Ps, f_Pt, f_Pw))
def fX0_tick (b : Nat → Int32) (se : Int64) (z : Int32) (f_A : Nat → Int64) (k_P : Int32) (f_Ps : Nat → Int32) (f_Pt : Nat → Int32) (f_Pw : Nat → Int32) : Option (Int32 × (Nat → Int32) × Int64 × (Nat → Int64) × Int32 × (Nat → Int32) × (Nat → Int32) × (Nat → Int32)) :=
  (fX0_bePushed b se z k_P f_Ps f_Pt f_Pw).bind fun o_1 =>
  (fX0_settle 0 o_1.1 se z f_A).bind fun o_2 =>
  lt' (upd o_1.1 1 ((o_1.1 1) - (((o_1.1 0) * (o_1.1 2)) / 32))) fun b_3 =>
  (fX0_settle 1 b_3 o_2.1 z o_2.2).bind fun o_4 =>
  (fX0_beDragged b_3 o_4.1 z).bind fun o_5 =>
  (fX0_settle 2 o_5 o_4.1 z o_4.2).bind fun o_6 =>
  lt' (o_5 0) fun x1_7 =>
  (fX0_swing o_5 o_6.1 z).bind fun o_8 =>
  (fX0_settle 1 o_8 o_6.1 z o_6.2).bind fun o_9 =>
  (fX0_isLetGo x1_7 o_8 o_9.1 z).bind fun o_10 =>
  if o_10 = 0 then (fX0_tick_72 z o_10 o_8 o_9.1 o_9.2 o_1.2.1 o_1.2.2.1 o_1.2.2.2.1 o_1.2.2.2.2) else ((fX0_beKicked o_8 o_9.1 z).bind fun o_12 =>
  fX0_tick_72 z o_10 o_12 o_9.1 o_9.2 o_1.2.1 o_1.2.2.1 o_1.2.2.2.1 o_1.2.2.2.2)
set_option maxHeartbeats 8000000 in
set_option maxRecDepth 100000 in
theorem mX0_tick (l : Launch) (D : va_G) (cI cJ cB cT : ClassId) (tt : Nat → Nat) (r_ r_P r_A r_Pt r_Pw r_Ps : Nat)  {b : Nat → Int32} {se : Int64} {z : Int32} {f_A : Nat → Int64} {k_P : Int32} {f_Ps : Nat → Int32} {f_Pt : Nat → Int32} {f_Pw : Nat → Int32} {out : Int32 × (Nat → Int32) × Int64 × (Nat → Int64) × Int32 × (Nat → Int32) × (Nat → Int32) × (Nat → Int32)} (h : fX0_tick b se z f_A k_P f_Ps f_Pt f_Pw = some out) :
    jM l yX0_tick (.code yX0_tick cX0_tick 3 (some .boolean)) rmX0_tick D (wTy cI cJ cB cT) tt [.ref r_] [cBal r_ r_P r_A b se z, cJar cJ r_A 4 f_A, cPus r_P r_Pt r_Pw r_Ps k_P, cIar cI r_Ps 8 f_Ps, cIar cI r_Pt 8 f_Pt, cIar cI r_Pw 8 f_Pw] (some (.int out.1)) [cBal r_ r_P r_A out.2.1 out.2.2.1 z, cJar cJ r_A 4 out.2.2.2.1, cPus r_P r_Pt r_Pw r_Ps out.2.2.2.2.1, cIar cI r_Ps 8 out.2.2.2.2.2.1, cIar cI r_Pt 8 out.2.2.2.2.2.2.1, cIar cI r_Pw 8 out.2.2.2.2.2.2.2] := by
  refine jM.of (by decide) (Nat.le_of_ble_eq_true rfl) ?_
  intro p e s m below meth c A X hr
  have L_72 : ∀ (x2 : Int32) (b : Nat → Int32) (se : Int64) (f_A : Nat → Int64) (k_P : Int32) (f_Ps : Nat → Int32) (f_Pt : Nat → Int32) (f_Pw : Nat → Int32), fX0_tick_72 z  x2 b se f_A k_P f_Ps f_Pt f_Pw = some out → jW p l e rmX0_tick s m ([.ref r_] : List Value).toArray below meth c D A 3 (MQ below (jQ D (some (.int out.1)) [cBal r_ r_P r_A out.2.1 out.2.2.1 z, cJar cJ r_A 4 out.2.2.2.1, cPus r_P r_Pt r_Pw r_Ps out.2.2.2.2.1, cIar cI r_Ps 8 out.2.2.2.2.2.1, cIar cI r_Pt 8 out.2.2.2.2.2.2.1, cIar cI r_Pw 8 out.2.2.2.2.2.2.2] A) ([.ref r_] : List Value).toArray s 0 0 A) 0 0 72 [(0, .ref r_), (2, .int x2)] [] [cBal r_ r_P r_A b se z, cJar cJ r_A 4 f_A, cPus r_P r_Pt r_Pw r_Ps k_P, cIar cI r_Ps 8 f_Ps, cIar cI r_Pt 8 f_Pt, cIar cI r_Pw 8 f_Pw] := by
    intro  x2 b se f_A k_P f_Ps f_Pt f_Pw hR
    unfold fX0_tick_72 at hR
    refine j_aload_n X (q := 0) dX0_tick_72 rfl ?_
    refine j_iconst X (v := 3) dX0_tick_73 (by decide) ?_
    obtain ⟨o_13, ho_13, hR⟩ := bd_some hR
    refine j_callV X (As := [.int 3]) (rest := []) (ws2 := [cBal r_ r_P r_A b o_13.1 z, cJar cJ r_A 4 o_13.2, cPus r_P r_Pt r_Pw r_Ps k_P, cIar cI r_Ps 8 f_Ps, cIar cI r_Pt 8 f_Pt, cIar cI r_Pw 8 f_Pw]) (q0 := 0) (ci := 0) (mX0_settle l D cI cJ cB cT tt r_ r_P r_A ho_13) [0, 1] [.inr 0, .inr 1, .inl 2, .inl 3, .inl 4, .inl 5] k_315 k_312 k_314 k_0 rfl rfl k_40 hdX0_settle (by decide) (Nat.le_of_ble_eq_true rfl) dX0_tick_74 (by decide) rfl rfl (by decide) rfl rfl ?_
    refine j_aload_n X (q := 0) dX0_tick_77 rfl ?_
    refine j_dup X dX0_tick_78 rfl ?_
    refine j_get X 0 5 hiX0 k_105 dX0_tick_79 rfl rfl (by decide) rfl ?_
    refine j_iconst X (v := 1) dX0_tick_82 (by decide) ?_
    refine j_iadd X dX0_tick_83 ?_
    obtain ⟨b_14, eb_14, hR⟩ := lt_some hR
    refine j_put X (ws2 := [cBal r_ r_P r_A b_14 o_13.1 z, cJar cJ r_A 4 o_13.2, cPus r_P r_Pt r_Pw r_Ps k_P, cIar cI r_Ps 8 f_Ps, cIar cI r_Pt 8 f_Pt, cIar cI r_Pw 8 f_Pw]) 0 5 hiX0 tyX0_ok nmX0 k_105 dX0_tick_84 rfl rfl (by decide) (by decide) rfl rfl (Nat.le_of_ble_eq_true rfl) (by subst eb_14; rfl) ?_
    refine j_iload_n X (q := 1) dX0_tick_87 rfl ?_
    obtain ⟨g_15, hR⟩ := gd_some hR
    have hR := Option.some.inj hR
    exact j_zret X hr (zb_nar g_15) dX0_tick_88 (by rw [← hR]) (by rw [← hR])
  refine j_sub (lv2 := [(0, .ref r_)]) [0] rfl ?_
  have hR := h
  unfold fX0_tick at hR
  refine j_aload_n X (q := 0) dX0_tick_0 rfl ?_
  obtain ⟨o_1, ho_1, hR⟩ := bd_some hR
  refine j_callV X (As := []) (rest := []) (ws2 := [cBal r_ r_P r_A o_1.1 se z, cJar cJ r_A 4 f_A, cPus r_P r_Pt r_Pw r_Ps o_1.2.1, cIar cI r_Ps 8 o_1.2.2.1, cIar cI r_Pt 8 o_1.2.2.2.1, cIar cI r_Pw 8 o_1.2.2.2.2]) (q0 := 0) (ci := 0) (mX0_bePushed l D cI cJ cB cT tt r_ r_P r_A r_Pt r_Pw r_Ps ho_1) [0, 2, 3, 4, 5] [.inr 0, .inl 1, .inr 1, .inr 2, .inr 3, .inr 4] k_356 k_353 k_355 k_1 rfl rfl k_40 hdX0_bePushed (by decide) (Nat.le_of_ble_eq_true rfl) dX0_tick_1 (by decide) rfl rfl (by decide) rfl rfl ?_
  refine j_aload_n X (q := 0) dX0_tick_4 rfl ?_
  refine j_iconst X (v := 0) dX0_tick_5 (by decide) ?_
  obtain ⟨o_2, ho_2, hR⟩ := bd_some hR
  refine j_callV X (As := [.int 0]) (rest := []) (ws2 := [cBal r_ r_P r_A o_1.1 o_2.1 z, cJar cJ r_A 4 o_2.2, cPus r_P r_Pt r_Pw r_Ps o_1.2.1, cIar cI r_Ps 8 o_1.2.2.1, cIar cI r_Pt 8 o_1.2.2.2.1, cIar cI r_Pw 8 o_1.2.2.2.2]) (q0 := 0) (ci := 0) (mX0_settle l D cI cJ cB cT tt r_ r_P r_A ho_2) [0, 1] [.inr 0, .inr 1, .inl 2, .inl 3, .inl 4, .inl 5] k_315 k_312 k_314 k_0 rfl rfl k_40 hdX0_settle (by decide) (Nat.le_of_ble_eq_true rfl) dX0_tick_6 (by decide) rfl rfl (by decide) rfl rfl ?_
  refine j_aload_n X (q := 0) dX0_tick_9 rfl ?_
  refine j_dup X dX0_tick_10 rfl ?_
  refine j_get X 0 1 hiX0 k_100 dX0_tick_11 rfl rfl (by decide) rfl ?_
  refine j_aload_n X (q := 0) dX0_tick_14 rfl ?_
  refine j_get X 0 0 hiX0 k_98 dX0_tick_15 rfl rfl (by decide) rfl ?_
  refine j_aload_n X (q := 0) dX0_tick_18 rfl ?_
  refine j_get X 0 8 hiX0 k_110 dX0_tick_19 rfl rfl (by decide) rfl ?_
  refine j_imul X dX0_tick_22 ?_
  refine j_bipush X (v := 32) dX0_tick_23 (by decide) ?_
  refine j_idiv X dX0_tick_25 (by decide) ?_
  refine j_isub X dX0_tick_26 ?_
  obtain ⟨b_3, eb_3, hR⟩ := lt_some hR
  refine j_put X (ws2 := [cBal r_ r_P r_A b_3 o_2.1 z, cJar cJ r_A 4 o_2.2, cPus r_P r_Pt r_Pw r_Ps o_1.2.1, cIar cI r_Ps 8 o_1.2.2.1, cIar cI r_Pt 8 o_1.2.2.2.1, cIar cI r_Pw 8 o_1.2.2.2.2]) 0 1 hiX0 tyX0_ok nmX0 k_100 dX0_tick_27 rfl rfl (by decide) (by decide) rfl rfl (Nat.le_of_ble_eq_true rfl) (by subst eb_3; rfl) ?_
  refine j_aload_n X (q := 0) dX0_tick_30 rfl ?_
  refine j_iconst X (v := 1) dX0_tick_31 (by decide) ?_
  obtain ⟨o_4, ho_4, hR⟩ := bd_some hR
  refine j_callV X (As := [.int 1]) (rest := []) (ws2 := [cBal r_ r_P r_A b_3 o_4.1 z, cJar cJ r_A 4 o_4.2, cPus r_P r_Pt r_Pw r_Ps o_1.2.1, cIar cI r_Ps 8 o_1.2.2.1, cIar cI r_Pt 8 o_1.2.2.2.1, cIar cI r_Pw 8 o_1.2.2.2.2]) (q0 := 0) (ci := 0) (mX0_settle l D cI cJ cB cT tt r_ r_P r_A ho_4) [0, 1] [.inr 0, .inr 1, .inl 2, .inl 3, .inl 4, .inl 5] k_315 k_312 k_314 k_0 rfl rfl k_40 hdX0_settle (by decide) (Nat.le_of_ble_eq_true rfl) dX0_tick_32 (by decide) rfl rfl (by decide) rfl rfl ?_
  refine j_aload_n X (q := 0) dX0_tick_35 rfl ?_
  obtain ⟨o_5, ho_5, hR⟩ := bd_some hR
  refine j_callV X (As := []) (rest := []) (ws2 := [cBal r_ r_P r_A o_5 o_4.1 z, cJar cJ r_A 4 o_4.2, cPus r_P r_Pt r_Pw r_Ps o_1.2.1, cIar cI r_Ps 8 o_1.2.2.1, cIar cI r_Pt 8 o_1.2.2.2.1, cIar cI r_Pw 8 o_1.2.2.2.2]) (q0 := 0) (ci := 0) (mX0_beDragged l D cI cJ cB cT tt r_ r_P r_A ho_5) [0] [.inr 0, .inl 1, .inl 2, .inl 3, .inl 4, .inl 5] k_374 k_371 k_373 k_3 rfl rfl k_40 hdX0_beDragged (by decide) (Nat.le_of_ble_eq_true rfl) dX0_tick_36 (by decide) rfl rfl (by decide) rfl rfl ?_
  refine j_aload_n X (q := 0) dX0_tick_39 rfl ?_
  refine j_iconst X (v := 2) dX0_tick_40 (by decide) ?_
  obtain ⟨o_6, ho_6, hR⟩ := bd_some hR
  refine j_callV X (As := [.int 2]) (rest := []) (ws2 := [cBal r_ r_P r_A o_5 o_6.1 z, cJar cJ r_A 4 o_6.2, cPus r_P r_Pt r_Pw r_Ps o_1.2.1, cIar cI r_Ps 8 o_1.2.2.1, cIar cI r_Pt 8 o_1.2.2.2.1, cIar cI r_Pw 8 o_1.2.2.2.2]) (q0 := 0) (ci := 0) (mX0_settle l D cI cJ cB cT tt r_ r_P r_A ho_6) [0, 1] [.inr 0, .inr 1, .inl 2, .inl 3, .inl 4, .inl 5] k_315 k_312 k_314 k_0 rfl rfl k_40 hdX0_settle (by decide) (Nat.le_of_ble_eq_true rfl) dX0_tick_41 (by decide) rfl rfl (by decide) rfl rfl ?_
  refine j_aload_n X (q := 0) dX0_tick_44 rfl ?_
  refine j_get X 0 0 hiX0 k_98 dX0_tick_45 rfl rfl (by decide) rfl ?_
  obtain ⟨x1_7, ex1_7, hR⟩ := lt_some hR
  refine j_eq (congrArg (fun z => Value.int z :: _) ex1_7) rfl ?_
  refine j_istore_n X (lv2 := [(1, .int x1_7), (0, .ref r_)]) dX0_tick_48 (by decide) rfl ?_
  refine j_aload_n X (q := 1) dX0_tick_49 rfl ?_
  obtain ⟨o_8, ho_8, hR⟩ := bd_some hR
  refine j_callV X (As := []) (rest := []) (ws2 := [cBal r_ r_P r_A o_8 o_6.1 z, cJar cJ r_A 4 o_6.2, cPus r_P r_Pt r_Pw r_Ps o_1.2.1, cIar cI r_Ps 8 o_1.2.2.1, cIar cI r_Pt 8 o_1.2.2.2.1, cIar cI r_Pw 8 o_1.2.2.2.2]) (q0 := 0) (ci := 0) (mX0_swing l D cI cJ cB cT tt r_ r_P r_A ho_8) [0] [.inr 0, .inl 1, .inl 2, .inl 3, .inl 4, .inl 5] k_378 k_375 k_377 k_4 rfl rfl k_40 hdX0_swing (by decide) (Nat.le_of_ble_eq_true rfl) dX0_tick_50 (by decide) rfl rfl (by decide) rfl rfl ?_
  refine j_aload_n X (q := 1) dX0_tick_53 rfl ?_
  refine j_iconst X (v := 1) dX0_tick_54 (by decide) ?_
  obtain ⟨o_9, ho_9, hR⟩ := bd_some hR
  refine j_callV X (As := [.int 1]) (rest := []) (ws2 := [cBal r_ r_P r_A o_8 o_9.1 z, cJar cJ r_A 4 o_9.2, cPus r_P r_Pt r_Pw r_Ps o_1.2.1, cIar cI r_Ps 8 o_1.2.2.1, cIar cI r_Pt 8 o_1.2.2.2.1, cIar cI r_Pw 8 o_1.2.2.2.2]) (q0 := 0) (ci := 0) (mX0_settle l D cI cJ cB cT tt r_ r_P r_A ho_9) [0, 1] [.inr 0, .inr 1, .inl 2, .inl 3, .inl 4, .inl 5] k_315 k_312 k_314 k_0 rfl rfl k_40 hdX0_settle (by decide) (Nat.le_of_ble_eq_true rfl) dX0_tick_55 (by decide) rfl rfl (by decide) rfl rfl ?_
  refine j_aload_n X (q := 1) dX0_tick_58 rfl ?_
  refine j_iload_n X (q := 0) dX0_tick_59 rfl ?_
  obtain ⟨o_10, ho_10, hR⟩ := bd_some hR
  refine j_callV X (As := [.int x1_7]) (rest := []) (ws2 := [cBal r_ r_P r_A o_8 o_9.1 z, cJar cJ r_A 4 o_9.2, cPus r_P r_Pt r_Pw r_Ps o_1.2.1, cIar cI r_Ps 8 o_1.2.2.1, cIar cI r_Pt 8 o_1.2.2.2.1, cIar cI r_Pw 8 o_1.2.2.2.2]) (q0 := 0) (ci := 0) (mX0_isLetGo l D cI cJ cB cT tt r_ r_P r_A ho_10) [0] [.inr 0, .inl 1, .inl 2, .inl 3, .inl 4, .inl 5] k_382 k_379 k_381 k_5 rfl rfl k_40 hdX0_isLetGo (by decide) (Nat.le_of_ble_eq_true rfl) dX0_tick_60 (by decide) rfl rfl (by decide) rfl rfl ?_
  refine j_istore_n X (lv2 := [(2, .int o_10), (1, .int x1_7), (0, .ref r_)]) dX0_tick_63 (by decide) rfl ?_
  refine j_iload_n X (q := 0) dX0_tick_64 rfl ?_
  refine j_if_eq X (tgt := 72) dX0_tick_65 (by decide) (fun c_11 => ?_) (fun c_11 => ?_)
  · replace hR := (if_pos c_11).symm.trans hR
    refine j_sub (lv2 := [(0, .ref r_), (2, .int o_10)]) [2, 0] rfl ?_
    exact L_72 _ _ _ _ _ _ _ _ hR
  · replace hR := (if_neg c_11).symm.trans hR
    refine j_aload_n X (q := 2) dX0_tick_68 rfl ?_
    obtain ⟨o_12, ho_12, hR⟩ := bd_some hR
    refine j_callV X (As := []) (rest := []) (ws2 := [cBal r_ r_P r_A o_12 o_9.1 z, cJar cJ r_A 4 o_9.2, cPus r_P r_Pt r_Pw r_Ps o_1.2.1, cIar cI r_Ps 8 o_1.2.2.1, cIar cI r_Pt 8 o_1.2.2.2.1, cIar cI r_Pw 8 o_1.2.2.2.2]) (q0 := 0) (ci := 0) (mX0_beKicked l D cI cJ cB cT tt r_ r_P r_A ho_12) [0] [.inr 0, .inl 1, .inl 2, .inl 3, .inl 4, .inl 5] k_386 k_383 k_385 k_6 rfl rfl k_40 hdX0_beKicked (by decide) (Nat.le_of_ble_eq_true rfl) dX0_tick_69 (by decide) rfl rfl (by decide) rfl rfl ?_
    refine j_sub (lv2 := [(0, .ref r_), (2, .int o_10)]) [2, 0] rfl ?_
    exact L_72 _ _ _ _ _ _ _ _ hR
end
