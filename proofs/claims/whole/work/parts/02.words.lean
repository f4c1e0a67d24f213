/-- the tables' words that a callee may be handed -/
def GG : List Cond := lw_tbl.filter goodWord
theorem GG_tbl : ∀ w ∈ GG, w ∈ lw_tbl := fun _ h => (List.mem_filter.mp h).1
theorem GG_i (i : Nat) {w : Cond} (h : lw_tbl[i]? = some w) (g : goodWord w = true) : w ∈ GG := List.mem_filter.mpr ⟨List.mem_of_getElem? h, g⟩
theorem GG_good {w : Cond} (h : w ∈ GG) : goodWord w = true := (List.mem_filter.mp h).2
/-- a callee's words among a caller's: its own code, and all of GG -/
theorem GG_call {x c : Cond} (hc : c ∈ GG) : GoodIn (x :: GG) (c :: GG) := by
  intro w hw
  have h : w ∈ GG := (List.mem_cons.mp hw).elim (fun e => by rw [e]; exact hc) id
  exact ⟨List.mem_cons_of_mem _ h, good_of_word (GG_good h)⟩
theorem GG_top {c : Cond} (hc : c ∈ GG) : GoodIn lw_tbl (c :: GG) := by
  intro w hw
  have h : w ∈ GG := (List.mem_cons.mp hw).elim (fun e => by rw [e]; exact hc) id
  exact ⟨GG_tbl w h, good_of_word (GG_good h)⟩
theorem k_0 : (Cond.selects RX0 yX0_settle yX0_settle) ∈ GG := GG_i 0 (rfl) (by decide +kernel)
theorem k_1 : (Cond.selects RX0 yX0_bePushed yX0_bePushed) ∈ GG := GG_i 1 (rfl) (by decide +kernel)
theorem k_2 : (Cond.selects RX0 yX0_doPush yX0_doPush) ∈ GG := GG_i 2 (rfl) (by decide +kernel)
theorem k_3 : (Cond.selects RX0 yX0_beDragged yX0_beDragged) ∈ GG := GG_i 3 (rfl) (by decide +kernel)
theorem k_4 : (Cond.selects RX0 yX0_swing yX0_swing) ∈ GG := GG_i 4 (rfl) (by decide +kernel)
theorem k_5 : (Cond.selects RX0 yX0_isLetGo yX0_isLetGo) ∈ GG := GG_i 5 (rfl) (by decide +kernel)
theorem k_6 : (Cond.selects RX0 yX0_beKicked yX0_beKicked) ∈ GG := GG_i 6 (rfl) (by decide +kernel)
theorem k_7 : (Cond.selects RX5 yX5_letterAt yX5_letterAt) ∈ GG := GG_i 7 (rfl) (by decide +kernel)
theorem k_8 : (Cond.selects RX5 yX5_signAt yX5_signAt) ∈ GG := GG_i 8 (rfl) (by decide +kernel)
theorem k_9 : (Cond.selects RX5 yX5_digitsEnd yX5_digitsEnd) ∈ GG := GG_i 9 (rfl) (by decide +kernel)
theorem k_10 : (Cond.selects RX5 yX5_number yX5_number) ∈ GG := GG_i 10 (rfl) (by decide +kernel)
theorem k_11 : (Cond.selects RX8 yX8_isClauseDone yX8_isClauseDone) ∈ GG := GG_i 11 (rfl) (by decide +kernel)
theorem k_12 : (Cond.selects RX8 yX8_thinkAhead yX8_thinkAhead) ∈ GG := GG_i 12 (rfl) (by decide +kernel)
theorem k_13 : (Cond.selects RX8 yX8_listenFromNow yX8_listenFromNow) ∈ GG := GG_i 13 (rfl) (by decide +kernel)
theorem k_14 : (Cond.selects RX8 yX8_evenest yX8_evenest) ∈ GG := GG_i 14 (rfl) (by decide +kernel)
theorem k_15 : (Cond.selects RX8 yX8_listenWith yX8_listenWith) ∈ GG := GG_i 15 (rfl) (by decide +kernel)
theorem k_16 : (Cond.selects RX1 yX1_gapsAheadOf yX1_gapsAheadOf) ∈ GG := GG_i 16 (rfl) (by decide +kernel)
theorem k_17 : (Cond.selects RX8 yX8_goesAsSeen yX8_goesAsSeen) ∈ GG := GG_i 17 (rfl) (by decide +kernel)
theorem k_18 : (Cond.selects RX8 yX8_tapeAt yX8_tapeAt) ∈ GG := GG_i 18 (rfl) (by decide +kernel)
theorem k_19 : (Cond.selects RX8 yX8_judgement yX8_judgement) ∈ GG := GG_i 19 (rfl) (by decide +kernel)
theorem k_20 : (Cond.selects RX9 yX9_energyNow yX9_energyNow) ∈ GG := GG_i 20 (rfl) (by decide +kernel)
theorem k_21 : (Cond.selects RX9 yX9_goes yX9_goes) ∈ GG := GG_i 21 (rfl) (by decide +kernel)
theorem k_22 : (Cond.selects RX9 yX9_tick yX9_tick) ∈ GG := GG_i 22 (rfl) (by decide +kernel)
theorem k_23 : (Cond.selects RX9 yX9_pushes yX9_pushes) ∈ GG := GG_i 23 (rfl) (by decide +kernel)
theorem k_24 : (Cond.selects RX9 yX9_accounts yX9_accounts) ∈ GG := GG_i 24 (rfl) (by decide +kernel)
theorem k_25 : (Cond.selects RX9 yX9_reads yX9_reads) ∈ GG := GG_i 25 (rfl) (by decide +kernel)
theorem k_26 : (Cond.selects RX9 yX9_isFrom yX9_isFrom) ∈ GG := GG_i 26 (rfl) (by decide +kernel)
theorem k_27 : (Cond.selects RX9 yX9_does yX9_does) ∈ GG := GG_i 27 (rfl) (by decide +kernel)
theorem k_28 : (Cond.selects RX9 yX9_lays yX9_lays) ∈ GG := GG_i 28 (rfl) (by decide +kernel)
theorem k_29 : (Cond.selects RX9 yX9_back yX9_back) ∈ GG := GG_i 29 (rfl) (by decide +kernel)
theorem k_30 : (Cond.selects RX9 yX9_hears_ yX9_hears_) ∈ GG := GG_i 30 (rfl) (by decide +kernel)
theorem k_31 : (Cond.selects RX9 yX9_hears yX9_hears) ∈ GG := GG_i 31 (rfl) (by decide +kernel)
theorem k_32 : (Cond.selects RX9 yX9_evenest yX9_evenest) ∈ GG := GG_i 32 (rfl) (by decide +kernel)
theorem k_33 : (Cond.selects RX9 yX9_uneven yX9_uneven) ∈ GG := GG_i 33 (rfl) (by decide +kernel)
theorem k_34 : (Cond.selects RX9 yX9_gaps yX9_gaps) ∈ GG := GG_i 34 (rfl) (by decide +kernel)
theorem k_35 : (Cond.selects RX9 yX9_gapOf yX9_gapOf) ∈ GG := GG_i 35 (rfl) (by decide +kernel)
theorem k_36 : (Cond.selects RX9 yX9_isSeen yX9_isSeen) ∈ GG := GG_i 36 (rfl) (by decide +kernel)
theorem k_37 : (Cond.initialized RL) ∈ GG := GG_i 37 (rfl) (by decide +kernel)
theorem k_38 : (Cond.initialized RX8) ∈ GG := GG_i 38 (rfl) (by decide +kernel)
theorem k_39 : (Cond.initialized RX7) ∈ GG := GG_i 39 (rfl) (by decide +kernel)
theorem k_40 : (Cond.initialized RX0) ∈ GG := GG_i 40 (rfl) (by decide +kernel)
theorem k_41 : (Cond.initialized RX2) ∈ GG := GG_i 41 (rfl) (by decide +kernel)
theorem k_42 : (Cond.initialized RX6) ∈ GG := GG_i 42 (rfl) (by decide +kernel)
theorem k_43 : (Cond.initialized RX3) ∈ GG := GG_i 43 (rfl) (by decide +kernel)
theorem k_44 : (Cond.initialized RX1) ∈ GG := GG_i 44 (rfl) (by decide +kernel)
theorem k_45 : (Cond.initialized RX5) ∈ GG := GG_i 45 (rfl) (by decide +kernel)
theorem k_46 : (Cond.initialized RX4) ∈ GG := GG_i 46 (rfl) (by decide +kernel)
theorem k_47 : (Cond.initialized RX9) ∈ GG := GG_i 47 (rfl) (by decide +kernel)
theorem k_48 : (Cond.initialized RJ9) ∈ GG := GG_i 48 (rfl) (by decide +kernel)
theorem k_49 : (Cond.initialized RJ10) ∈ GG := GG_i 49 (rfl) (by decide +kernel)
theorem k_50 : (Cond.classLink RL 7 RX8) ∈ GG := GG_i 50 (rfl) (by decide +kernel)
theorem k_51 : (Cond.instantiable RX8 7) ∈ GG := GG_i 51 (rfl) (by decide +kernel)
theorem k_52 : (Cond.methodLink RL 9 yX8_init) ∈ GG := GG_i 52 (rfl) (by decide +kernel)
theorem k_53 : (Cond.instanceMethod yX8_init) ∈ GG := GG_i 53 (rfl) (by decide +kernel)
theorem k_54 : (Cond.code yX8_init cX8_init 2 none) ∈ GG := GG_i 54 (rfl) (by decide +kernel)
theorem k_55 : (Cond.methodLink RX8 3 objectInit) ∈ GG := GG_i 55 (rfl) (by decide +kernel)
theorem k_56 : (Cond.instanceMethod objectInit) ∈ GG := GG_i 56 (rfl) (by decide +kernel)
theorem k_57 : (Cond.code objectInit ⟨#[0xb1]⟩ 1 none) ∈ GG := GG_i 57 (rfl) (by decide +kernel)
theorem k_58 : (Cond.classLink RX8 9 RX7) ∈ GG := GG_i 58 (rfl) (by decide +kernel)
theorem k_59 : (Cond.instantiable RX7 4) ∈ GG := GG_i 59 (rfl) (by decide +kernel)
theorem k_61 : (Cond.instanceMethod yX7_init) ∈ GG := GG_i 61 (rfl) (by decide +kernel)
theorem k_62 : (Cond.code yX7_init cX7_init 1 none) ∈ GG := GG_i 62 (rfl) (by decide +kernel)
theorem k_63 : (Cond.methodLink RX7 1 objectInit) ∈ GG := GG_i 63 (rfl) (by decide +kernel)
theorem k_64 : (Cond.classLink RX7 7 RX0) ∈ GG := GG_i 64 (rfl) (by decide +kernel)
theorem k_65 : (Cond.instantiable RX0 15) ∈ GG := GG_i 65 (rfl) (by decide +kernel)
theorem k_66 : (Cond.methodLink RX7 9 yX0_init) ∈ GG := GG_i 66 (rfl) (by decide +kernel)
theorem k_67 : (Cond.instanceMethod yX0_init) ∈ GG := GG_i 67 (rfl) (by decide +kernel)
theorem k_68 : (Cond.code yX0_init cX0_init 2 none) ∈ GG := GG_i 68 (rfl) (by decide +kernel)
theorem k_69 : (Cond.methodLink RX0 3 objectInit) ∈ GG := GG_i 69 (rfl) (by decide +kernel)
theorem k_70 : (Cond.classLink RX0 21 RX2) ∈ GG := GG_i 70 (rfl) (by decide +kernel)
theorem k_71 : (Cond.instantiable RX2 4) ∈ GG := GG_i 71 (rfl) (by decide +kernel)
theorem k_73 : (Cond.instanceMethod yX2_init) ∈ GG := GG_i 73 (rfl) (by decide +kernel)
theorem k_74 : (Cond.code yX2_init cX2_init 1 none) ∈ GG := GG_i 74 (rfl) (by decide +kernel)
theorem k_75 : (Cond.methodLink RX2 3 objectInit) ∈ GG := GG_i 75 (rfl) (by decide +kernel)
theorem k_76 : (Cond.fieldLink RX2 9 "WatchBeats$Pushes" "times" "[I") ∈ GG := GG_i 76 (rfl) (by decide +kernel)
theorem k_77 : (Cond.fieldLink RX8 100 "WatchBeats$Pushes" "times" "[I") ∈ GG := GG_i 77 (rfl) (by decide +kernel)
theorem k_78 : (Cond.fieldLink RX0 101 "WatchBeats$Pushes" "times" "[I") ∈ GG := GG_i 78 (rfl) (by decide +kernel)
theorem k_79 : (Cond.fieldLink RX2 15 "WatchBeats$Pushes" "whats" "[I") ∈ GG := GG_i 79 (rfl) (by decide +kernel)
theorem k_80 : (Cond.fieldLink RX8 104 "WatchBeats$Pushes" "whats" "[I") ∈ GG := GG_i 80 (rfl) (by decide +kernel)
theorem k_81 : (Cond.fieldLink RX0 105 "WatchBeats$Pushes" "whats" "[I") ∈ GG := GG_i 81 (rfl) (by decide +kernel)
theorem k_82 : (Cond.fieldLink RX2 18 "WatchBeats$Pushes" "sizes" "[I") ∈ GG := GG_i 82 (rfl) (by decide +kernel)
theorem k_83 : (Cond.fieldLink RX8 107 "WatchBeats$Pushes" "sizes" "[I") ∈ GG := GG_i 83 (rfl) (by decide +kernel)
theorem k_84 : (Cond.fieldLink RX0 108 "WatchBeats$Pushes" "sizes" "[I") ∈ GG := GG_i 84 (rfl) (by decide +kernel)
theorem k_85 : (Cond.fieldLink RX2 21 "WatchBeats$Pushes" "waiting" "I") ∈ GG := GG_i 85 (rfl) (by decide +kernel)
theorem k_86 : (Cond.fieldLink RX0 68 "WatchBeats$Pushes" "waiting" "I") ∈ GG := GG_i 86 (rfl) (by decide +kernel)
theorem k_87 : (Cond.fieldLink RX8 91 "WatchBeats$Pushes" "waiting" "I") ∈ GG := GG_i 87 (rfl) (by decide +kernel)
theorem k_88 : (Cond.laysFinal "WatchBeats$Pushes" "WatchBeats$Pushes" "times" "[I") ∈ GG := GG_i 88 (rfl) (by decide +kernel)
theorem k_90 : (Cond.laysFinal "WatchBeats$Pushes" "WatchBeats$Pushes" "whats" "[I") ∈ GG := GG_i 90 (rfl) (by decide +kernel)
theorem k_92 : (Cond.laysFinal "WatchBeats$Pushes" "WatchBeats$Pushes" "sizes" "[I") ∈ GG := GG_i 92 (rfl) (by decide +kernel)
theorem k_94 : (Cond.lays "WatchBeats$Pushes" "WatchBeats$Pushes" "waiting" "I") ∈ GG := GG_i 94 (rfl) (by decide +kernel)
theorem k_97 : (Cond.arrayClass .int) ∈ GG := GG_i 97 (rfl) (by decide +kernel)
theorem k_98 : (Cond.fieldLink RX0 36 "WatchBeats$Balance" "angle" "I") ∈ GG := GG_i 98 (rfl) (by decide +kernel)
theorem k_99 : (Cond.fieldLink RX8 298 "WatchBeats$Balance" "angle" "I") ∈ GG := GG_i 99 (rfl) (by decide +kernel)
theorem k_100 : (Cond.fieldLink RX0 39 "WatchBeats$Balance" "speed" "I") ∈ GG := GG_i 100 (rfl) (by decide +kernel)
theorem k_101 : (Cond.fieldLink RX0 42 "WatchBeats$Balance" "drag" "I") ∈ GG := GG_i 101 (rfl) (by decide +kernel)
theorem k_102 : (Cond.fieldLink RX0 45 "WatchBeats$Balance" "offset" "I") ∈ GG := GG_i 102 (rfl) (by decide +kernel)
theorem k_103 : (Cond.fieldLink RX8 285 "WatchBeats$Balance" "offset" "I") ∈ GG := GG_i 103 (rfl) (by decide +kernel)
theorem k_104 : (Cond.fieldLink RX0 48 "WatchBeats$Balance" "pallets" "I") ∈ GG := GG_i 104 (rfl) (by decide +kernel)
theorem k_105 : (Cond.fieldLink RX0 51 "WatchBeats$Balance" "clock" "I") ∈ GG := GG_i 105 (rfl) (by decide +kernel)
theorem k_106 : (Cond.fieldLink RX8 76 "WatchBeats$Balance" "clock" "I") ∈ GG := GG_i 106 (rfl) (by decide +kernel)
theorem k_107 : (Cond.fieldLink RX0 54 "WatchBeats$Balance" "beats" "I") ∈ GG := GG_i 107 (rfl) (by decide +kernel)
theorem k_108 : (Cond.fieldLink RX8 119 "WatchBeats$Balance" "beats" "I") ∈ GG := GG_i 108 (rfl) (by decide +kernel)
theorem k_109 : (Cond.fieldLink RX0 57 "WatchBeats$Balance" "bangs" "I") ∈ GG := GG_i 109 (rfl) (by decide +kernel)
theorem k_110 : (Cond.fieldLink RX0 9 "WatchBeats$Balance" "stiff" "I") ∈ GG := GG_i 110 (rfl) (by decide +kernel)
theorem k_111 : (Cond.fieldLink RX0 15 "WatchBeats$Balance" "force" "I") ∈ GG := GG_i 111 (rfl) (by decide +kernel)
theorem k_112 : (Cond.fieldLink RX0 18 "WatchBeats$Balance" "life" "I") ∈ GG := GG_i 112 (rfl) (by decide +kernel)
theorem k_113 : (Cond.fieldLink RX0 24 "WatchBeats$Balance" "pushes" "LWatchBeats$Pushes;") ∈ GG := GG_i 113 (rfl) (by decide +kernel)
theorem k_114 : (Cond.fieldLink RX8 87 "WatchBeats$Balance" "pushes" "LWatchBeats$Pushes;") ∈ GG := GG_i 114 (rfl) (by decide +kernel)
theorem k_115 : (Cond.fieldLink RX0 28 "WatchBeats$Balance" "account" "[J") ∈ GG := GG_i 115 (rfl) (by decide +kernel)
theorem k_116 : (Cond.fieldLink RX8 134 "WatchBeats$Balance" "account" "[J") ∈ GG := GG_i 116 (rfl) (by decide +kernel)
theorem k_117 : (Cond.fieldLink RX0 60 "WatchBeats$Balance" "settled" "J") ∈ GG := GG_i 117 (rfl) (by decide +kernel)
theorem k_118 : (Cond.fieldLink RX0 32 "WatchBeats$Balance" "isAccounted" "Z") ∈ GG := GG_i 118 (rfl) (by decide +kernel)
theorem k_119 : (Cond.lays "WatchBeats$Balance" "WatchBeats$Balance" "angle" "I") ∈ GG := GG_i 119 (rfl) (by decide +kernel)
theorem k_121 : (Cond.lays "WatchBeats$Balance" "WatchBeats$Balance" "speed" "I") ∈ GG := GG_i 121 (rfl) (by decide +kernel)
theorem k_123 : (Cond.lays "WatchBeats$Balance" "WatchBeats$Balance" "drag" "I") ∈ GG := GG_i 123 (rfl) (by decide +kernel)
theorem k_125 : (Cond.lays "WatchBeats$Balance" "WatchBeats$Balance" "offset" "I") ∈ GG := GG_i 125 (rfl) (by decide +kernel)
theorem k_127 : (Cond.lays "WatchBeats$Balance" "WatchBeats$Balance" "pallets" "I") ∈ GG := GG_i 127 (rfl) (by decide +kernel)
theorem k_129 : (Cond.lays "WatchBeats$Balance" "WatchBeats$Balance" "clock" "I") ∈ GG := GG_i 129 (rfl) (by decide +kernel)
theorem k_131 : (Cond.lays "WatchBeats$Balance" "WatchBeats$Balance" "beats" "I") ∈ GG := GG_i 131 (rfl) (by decide +kernel)
theorem k_133 : (Cond.lays "WatchBeats$Balance" "WatchBeats$Balance" "bangs" "I") ∈ GG := GG_i 133 (rfl) (by decide +kernel)
theorem k_135 : (Cond.lays "WatchBeats$Balance" "WatchBeats$Balance" "stiff" "I") ∈ GG := GG_i 135 (rfl) (by decide +kernel)
theorem k_137 : (Cond.lays "WatchBeats$Balance" "WatchBeats$Balance" "force" "I") ∈ GG := GG_i 137 (rfl) (by decide +kernel)
theorem k_139 : (Cond.lays "WatchBeats$Balance" "WatchBeats$Balance" "life" "I") ∈ GG := GG_i 139 (rfl) (by decide +kernel)
theorem k_141 : (Cond.laysFinal "WatchBeats$Balance" "WatchBeats$Balance" "pushes" "LWatchBeats$Pushes;") ∈ GG := GG_i 141 (rfl) (by decide +kernel)
theorem k_143 : (Cond.laysFinal "WatchBeats$Balance" "WatchBeats$Balance" "account" "[J") ∈ GG := GG_i 143 (rfl) (by decide +kernel)
theorem k_145 : (Cond.lays "WatchBeats$Balance" "WatchBeats$Balance" "settled" "J") ∈ GG := GG_i 145 (rfl) (by decide +kernel)
theorem k_147 : (Cond.laysFinal "WatchBeats$Balance" "WatchBeats$Balance" "isAccounted" "Z") ∈ GG := GG_i 147 (rfl) (by decide +kernel)
theorem k_150 : (Cond.arrayClass .long) ∈ GG := GG_i 150 (rfl) (by decide +kernel)
theorem k_151 : (Cond.classLink RX7 18 RX6) ∈ GG := GG_i 151 (rfl) (by decide +kernel)
theorem k_152 : (Cond.instantiable RX6 2) ∈ GG := GG_i 152 (rfl) (by decide +kernel)
theorem k_154 : (Cond.instanceMethod yX6_init) ∈ GG := GG_i 154 (rfl) (by decide +kernel)
theorem k_155 : (Cond.code yX6_init cX6_init 1 none) ∈ GG := GG_i 155 (rfl) (by decide +kernel)
theorem k_156 : (Cond.methodLink RX6 3 objectInit) ∈ GG := GG_i 156 (rfl) (by decide +kernel)
theorem k_157 : (Cond.fieldLink RX6 9 "WatchBeats$Train" "teeth" "[I") ∈ GG := GG_i 157 (rfl) (by decide +kernel)
theorem k_158 : (Cond.fieldLink RX6 15 "WatchBeats$Train" "wheels" "I") ∈ GG := GG_i 158 (rfl) (by decide +kernel)
theorem k_159 : (Cond.fieldLink RX8 70 "WatchBeats$Train" "wheels" "I") ∈ GG := GG_i 159 (rfl) (by decide +kernel)
theorem k_160 : (Cond.laysFinal "WatchBeats$Train" "WatchBeats$Train" "teeth" "[I") ∈ GG := GG_i 160 (rfl) (by decide +kernel)
theorem k_162 : (Cond.lays "WatchBeats$Train" "WatchBeats$Train" "wheels" "I") ∈ GG := GG_i 162 (rfl) (by decide +kernel)
theorem k_165 : (Cond.classLink RX7 25 RX3) ∈ GG := GG_i 165 (rfl) (by decide +kernel)
theorem k_166 : (Cond.instantiable RX3 3) ∈ GG := GG_i 166 (rfl) (by decide +kernel)
theorem k_168 : (Cond.instanceMethod yX3_init) ∈ GG := GG_i 168 (rfl) (by decide +kernel)
theorem k_169 : (Cond.code yX3_init cX3_init 1 none) ∈ GG := GG_i 169 (rfl) (by decide +kernel)
theorem k_170 : (Cond.methodLink RX3 3 objectInit) ∈ GG := GG_i 170 (rfl) (by decide +kernel)
theorem k_171 : (Cond.fieldLink RX3 9 "WatchBeats$Rows" "first" "[I") ∈ GG := GG_i 171 (rfl) (by decide +kernel)
theorem k_172 : (Cond.fieldLink RX8 207 "WatchBeats$Rows" "first" "[I") ∈ GG := GG_i 172 (rfl) (by decide +kernel)
theorem k_173 : (Cond.fieldLink RX3 15 "WatchBeats$Rows" "second" "[I") ∈ GG := GG_i 173 (rfl) (by decide +kernel)
theorem k_174 : (Cond.fieldLink RX8 210 "WatchBeats$Rows" "second" "[I") ∈ GG := GG_i 174 (rfl) (by decide +kernel)
theorem k_175 : (Cond.fieldLink RX3 18 "WatchBeats$Rows" "held" "I") ∈ GG := GG_i 175 (rfl) (by decide +kernel)
theorem k_176 : (Cond.fieldLink RX8 188 "WatchBeats$Rows" "held" "I") ∈ GG := GG_i 176 (rfl) (by decide +kernel)
theorem k_177 : (Cond.laysFinal "WatchBeats$Rows" "WatchBeats$Rows" "first" "[I") ∈ GG := GG_i 177 (rfl) (by decide +kernel)
theorem k_179 : (Cond.laysFinal "WatchBeats$Rows" "WatchBeats$Rows" "second" "[I") ∈ GG := GG_i 179 (rfl) (by decide +kernel)
theorem k_181 : (Cond.lays "WatchBeats$Rows" "WatchBeats$Rows" "held" "I") ∈ GG := GG_i 181 (rfl) (by decide +kernel)
theorem k_184 : (Cond.fieldLink RX7 12 "WatchBeats$Whole" "balance" "LWatchBeats$Balance;") ∈ GG := GG_i 184 (rfl) (by decide +kernel)
theorem k_185 : (Cond.fieldLink RX8 55 "WatchBeats$Whole" "balance" "LWatchBeats$Balance;") ∈ GG := GG_i 185 (rfl) (by decide +kernel)
theorem k_186 : (Cond.fieldLink RX7 21 "WatchBeats$Whole" "train" "LWatchBeats$Train;") ∈ GG := GG_i 186 (rfl) (by decide +kernel)
theorem k_187 : (Cond.fieldLink RX8 66 "WatchBeats$Whole" "train" "LWatchBeats$Train;") ∈ GG := GG_i 187 (rfl) (by decide +kernel)
theorem k_188 : (Cond.fieldLink RX7 28 "WatchBeats$Whole" "seen" "LWatchBeats$Rows;") ∈ GG := GG_i 188 (rfl) (by decide +kernel)
theorem k_189 : (Cond.fieldLink RX8 184 "WatchBeats$Whole" "seen" "LWatchBeats$Rows;") ∈ GG := GG_i 189 (rfl) (by decide +kernel)
theorem k_190 : (Cond.fieldLink RX7 32 "WatchBeats$Whole" "book" "LWatchBeats$Rows;") ∈ GG := GG_i 190 (rfl) (by decide +kernel)
theorem k_191 : (Cond.fieldLink RX8 204 "WatchBeats$Whole" "book" "LWatchBeats$Rows;") ∈ GG := GG_i 191 (rfl) (by decide +kernel)
theorem k_192 : (Cond.laysFinal "WatchBeats$Whole" "WatchBeats$Whole" "balance" "LWatchBeats$Balance;") ∈ GG := GG_i 192 (rfl) (by decide +kernel)
theorem k_194 : (Cond.laysFinal "WatchBeats$Whole" "WatchBeats$Whole" "train" "LWatchBeats$Train;") ∈ GG := GG_i 194 (rfl) (by decide +kernel)
theorem k_196 : (Cond.laysFinal "WatchBeats$Whole" "WatchBeats$Whole" "seen" "LWatchBeats$Rows;") ∈ GG := GG_i 196 (rfl) (by decide +kernel)
theorem k_198 : (Cond.laysFinal "WatchBeats$Whole" "WatchBeats$Whole" "book" "LWatchBeats$Rows;") ∈ GG := GG_i 198 (rfl) (by decide +kernel)
theorem k_201 : (Cond.classLink RX8 21 RX0) ∈ GG := GG_i 201 (rfl) (by decide +kernel)
theorem k_202 : (Cond.methodLink RX8 23 yX0_init) ∈ GG := GG_i 202 (rfl) (by decide +kernel)
theorem k_203 : (Cond.classLink RX8 30 RX1) ∈ GG := GG_i 203 (rfl) (by decide +kernel)
theorem k_204 : (Cond.instantiable RX1 2) ∈ GG := GG_i 204 (rfl) (by decide +kernel)
theorem k_206 : (Cond.instanceMethod yX1_init) ∈ GG := GG_i 206 (rfl) (by decide +kernel)
theorem k_207 : (Cond.code yX1_init cX1_init 1 none) ∈ GG := GG_i 207 (rfl) (by decide +kernel)
theorem k_208 : (Cond.methodLink RX1 3 objectInit) ∈ GG := GG_i 208 (rfl) (by decide +kernel)
theorem k_209 : (Cond.fieldLink RX1 9 "WatchBeats$Heard" "at" "[I") ∈ GG := GG_i 209 (rfl) (by decide +kernel)
theorem k_210 : (Cond.fieldLink RX1 15 "WatchBeats$Heard" "beats" "I") ∈ GG := GG_i 210 (rfl) (by decide +kernel)
theorem k_211 : (Cond.fieldLink RX8 171 "WatchBeats$Heard" "beats" "I") ∈ GG := GG_i 211 (rfl) (by decide +kernel)
theorem k_212 : (Cond.laysFinal "WatchBeats$Heard" "WatchBeats$Heard" "at" "[I") ∈ GG := GG_i 212 (rfl) (by decide +kernel)
theorem k_214 : (Cond.lays "WatchBeats$Heard" "WatchBeats$Heard" "beats" "I") ∈ GG := GG_i 214 (rfl) (by decide +kernel)
theorem k_217 : (Cond.classLink RX8 37 RX5) ∈ GG := GG_i 217 (rfl) (by decide +kernel)
theorem k_218 : (Cond.instantiable RX5 5) ∈ GG := GG_i 218 (rfl) (by decide +kernel)
theorem k_220 : (Cond.instanceMethod yX5_init) ∈ GG := GG_i 220 (rfl) (by decide +kernel)
theorem k_221 : (Cond.code yX5_init cX5_init 1 none) ∈ GG := GG_i 221 (rfl) (by decide +kernel)
theorem k_222 : (Cond.methodLink RX5 3 objectInit) ∈ GG := GG_i 222 (rfl) (by decide +kernel)
theorem k_223 : (Cond.fieldLink RX5 9 "WatchBeats$Text" "signs" "[B") ∈ GG := GG_i 223 (rfl) (by decide +kernel)
theorem k_224 : (Cond.fieldLink RX5 22 "WatchBeats$Text" "length" "I") ∈ GG := GG_i 224 (rfl) (by decide +kernel)
theorem k_225 : (Cond.fieldLink RX8 138 "WatchBeats$Text" "length" "I") ∈ GG := GG_i 225 (rfl) (by decide +kernel)
theorem k_226 : (Cond.fieldLink RX5 15 "WatchBeats$Text" "whats" "[I") ∈ GG := GG_i 226 (rfl) (by decide +kernel)
theorem k_227 : (Cond.fieldLink RX8 149 "WatchBeats$Text" "whats" "[I") ∈ GG := GG_i 227 (rfl) (by decide +kernel)
theorem k_228 : (Cond.fieldLink RX5 19 "WatchBeats$Text" "numbers" "[I") ∈ GG := GG_i 228 (rfl) (by decide +kernel)
theorem k_229 : (Cond.fieldLink RX8 150 "WatchBeats$Text" "numbers" "[I") ∈ GG := GG_i 229 (rfl) (by decide +kernel)
theorem k_230 : (Cond.fieldLink RX5 26 "WatchBeats$Text" "clauses" "I") ∈ GG := GG_i 230 (rfl) (by decide +kernel)
theorem k_231 : (Cond.fieldLink RX8 146 "WatchBeats$Text" "clauses" "I") ∈ GG := GG_i 231 (rfl) (by decide +kernel)
theorem k_232 : (Cond.laysFinal "WatchBeats$Text" "WatchBeats$Text" "signs" "[B") ∈ GG := GG_i 232 (rfl) (by decide +kernel)
theorem k_234 : (Cond.lays "WatchBeats$Text" "WatchBeats$Text" "length" "I") ∈ GG := GG_i 234 (rfl) (by decide +kernel)
theorem k_236 : (Cond.laysFinal "WatchBeats$Text" "WatchBeats$Text" "whats" "[I") ∈ GG := GG_i 236 (rfl) (by decide +kernel)
theorem k_238 : (Cond.laysFinal "WatchBeats$Text" "WatchBeats$Text" "numbers" "[I") ∈ GG := GG_i 238 (rfl) (by decide +kernel)
theorem k_240 : (Cond.lays "WatchBeats$Text" "WatchBeats$Text" "clauses" "I") ∈ GG := GG_i 240 (rfl) (by decide +kernel)
theorem k_243 : (Cond.arrayClass .byte) ∈ GG := GG_i 243 (rfl) (by decide +kernel)
theorem k_244 : (Cond.classLink RX8 44 RX4) ∈ GG := GG_i 244 (rfl) (by decide +kernel)
theorem k_246 : (Cond.instantiable RX4 3) ∈ GG := GG_i 246 (rfl) (by decide +kernel)
theorem k_248 : (Cond.instanceMethod yX4_init) ∈ GG := GG_i 248 (rfl) (by decide +kernel)
theorem k_249 : (Cond.code yX4_init cX4_init 1 none) ∈ GG := GG_i 249 (rfl) (by decide +kernel)
theorem k_250 : (Cond.methodLink RX4 3 objectInit) ∈ GG := GG_i 250 (rfl) (by decide +kernel)
theorem k_251 : (Cond.fieldLink RX4 9 "WatchBeats$Tape" "sort" "I") ∈ GG := GG_i 251 (rfl) (by decide +kernel)
theorem k_252 : (Cond.fieldLink RX8 217 "WatchBeats$Tape" "sort" "I") ∈ GG := GG_i 252 (rfl) (by decide +kernel)
theorem k_253 : (Cond.fieldLink RX4 19 "WatchBeats$Tape" "size" "I") ∈ GG := GG_i 253 (rfl) (by decide +kernel)
theorem k_254 : (Cond.fieldLink RX8 304 "WatchBeats$Tape" "size" "I") ∈ GG := GG_i 254 (rfl) (by decide +kernel)
theorem k_255 : (Cond.fieldLink RX4 15 "WatchBeats$Tape" "items" "[J") ∈ GG := GG_i 255 (rfl) (by decide +kernel)
theorem k_256 : (Cond.fieldLink RX8 238 "WatchBeats$Tape" "items" "[J") ∈ GG := GG_i 256 (rfl) (by decide +kernel)
theorem k_257 : (Cond.lays "WatchBeats$Tape" "WatchBeats$Tape" "sort" "I") ∈ GG := GG_i 257 (rfl) (by decide +kernel)
theorem k_259 : (Cond.lays "WatchBeats$Tape" "WatchBeats$Tape" "size" "I") ∈ GG := GG_i 259 (rfl) (by decide +kernel)
theorem k_261 : (Cond.laysFinal "WatchBeats$Tape" "WatchBeats$Tape" "items" "[J") ∈ GG := GG_i 261 (rfl) (by decide +kernel)
theorem k_264 : (Cond.fieldLink RX8 12 "WatchBeats" "now" "LWatchBeats$Whole;") ∈ GG := GG_i 264 (rfl) (by decide +kernel)
theorem k_265 : (Cond.fieldLink RX8 18 "WatchBeats" "kept" "LWatchBeats$Whole;") ∈ GG := GG_i 265 (rfl) (by decide +kernel)
theorem k_266 : (Cond.fieldLink RX8 228 "WatchBeats" "isKept" "Z") ∈ GG := GG_i 266 (rfl) (by decide +kernel)
theorem k_267 : (Cond.fieldLink RX8 26 "WatchBeats" "thought" "LWatchBeats$Balance;") ∈ GG := GG_i 267 (rfl) (by decide +kernel)
theorem k_268 : (Cond.fieldLink RX8 33 "WatchBeats" "heardAhead" "LWatchBeats$Heard;") ∈ GG := GG_i 268 (rfl) (by decide +kernel)
theorem k_269 : (Cond.fieldLink RX8 40 "WatchBeats" "text" "LWatchBeats$Text;") ∈ GG := GG_i 269 (rfl) (by decide +kernel)
theorem k_270 : (Cond.fieldLink RX8 46 "WatchBeats" "tapes" "[LWatchBeats$Tape;") ∈ GG := GG_i 270 (rfl) (by decide +kernel)
theorem k_271 : (Cond.laysFinal "WatchBeats" "WatchBeats" "now" "LWatchBeats$Whole;") ∈ GG := GG_i 271 (rfl) (by decide +kernel)
theorem k_273 : (Cond.laysFinal "WatchBeats" "WatchBeats" "kept" "LWatchBeats$Whole;") ∈ GG := GG_i 273 (rfl) (by decide +kernel)
theorem k_275 : (Cond.lays "WatchBeats" "WatchBeats" "isKept" "Z") ∈ GG := GG_i 275 (rfl) (by decide +kernel)
theorem k_277 : (Cond.laysFinal "WatchBeats" "WatchBeats" "thought" "LWatchBeats$Balance;") ∈ GG := GG_i 277 (rfl) (by decide +kernel)
theorem k_279 : (Cond.laysFinal "WatchBeats" "WatchBeats" "heardAhead" "LWatchBeats$Heard;") ∈ GG := GG_i 279 (rfl) (by decide +kernel)
theorem k_281 : (Cond.laysFinal "WatchBeats" "WatchBeats" "text" "LWatchBeats$Text;") ∈ GG := GG_i 281 (rfl) (by decide +kernel)
theorem k_283 : (Cond.laysFinal "WatchBeats" "WatchBeats" "tapes" "[LWatchBeats$Tape;") ∈ GG := GG_i 283 (rfl) (by decide +kernel)
theorem k_286 : (Cond.methodLink RL 13 yX8_set) ∈ GG := GG_i 286 (rfl) (by decide +kernel)
theorem k_287 : (Cond.instanceMethod yX8_set) ∈ GG := GG_i 287 (rfl) (by decide +kernel)
theorem k_288 : (Cond.selects RX8 yX8_set yX8_set) ∈ GG := GG_i 288 (rfl) (by decide +kernel)
theorem k_289 : (Cond.code yX8_set cX8_set 4 (some .int)) ∈ GG := GG_i 289 (rfl) (by decide +kernel)
theorem k_290 : (Cond.methodLink RX8 51 yX8_isSettable) ∈ GG := GG_i 290 (rfl) (by decide +kernel)
theorem k_291 : (Cond.static yX8_isSettable) ∈ GG := GG_i 291 (rfl) (by decide +kernel)
theorem k_292 : (Cond.code yX8_isSettable cX8_isSettable 2 (some .boolean)) ∈ GG := GG_i 292 (rfl) (by decide +kernel)
theorem k_293 : (Cond.fieldLink RX8 254 "WatchBeats" "LEAST" "[I") ∈ GG := GG_i 293 (rfl) (by decide +kernel)
theorem k_295 : (Cond.fieldLink RX8 257 "WatchBeats" "MOST" "[I") ∈ GG := GG_i 295 (rfl) (by decide +kernel)
theorem k_297 : (Cond.methodLink RX8 80 yX8_isBetween) ∈ GG := GG_i 297 (rfl) (by decide +kernel)
theorem k_298 : (Cond.static yX8_isBetween) ∈ GG := GG_i 298 (rfl) (by decide +kernel)
theorem k_299 : (Cond.code yX8_isBetween cX8_isBetween 3 (some .boolean)) ∈ GG := GG_i 299 (rfl) (by decide +kernel)
theorem k_300 : (Cond.methodLink RX8 58 yX0_valueOf) ∈ GG := GG_i 300 (rfl) (by decide +kernel)
theorem k_301 : (Cond.instanceMethod yX0_valueOf) ∈ GG := GG_i 301 (rfl) (by decide +kernel)
theorem k_302 : (Cond.selects RX0 yX0_valueOf yX0_valueOf) ∈ GG := GG_i 302 (rfl) (by decide +kernel)
theorem k_303 : (Cond.code yX0_valueOf cX0_valueOf 2 (some .int)) ∈ GG := GG_i 303 (rfl) (by decide +kernel)
theorem k_304 : (Cond.methodLink RX8 62 yX0_putByHand) ∈ GG := GG_i 304 (rfl) (by decide +kernel)
theorem k_305 : (Cond.instanceMethod yX0_putByHand) ∈ GG := GG_i 305 (rfl) (by decide +kernel)
theorem k_306 : (Cond.selects RX0 yX0_putByHand yX0_putByHand) ∈ GG := GG_i 306 (rfl) (by decide +kernel)
theorem k_307 : (Cond.code yX0_putByHand cX0_putByHand 3 none) ∈ GG := GG_i 307 (rfl) (by decide +kernel)
theorem k_308 : (Cond.methodLink RX0 71 yX0_put) ∈ GG := GG_i 308 (rfl) (by decide +kernel)
theorem k_309 : (Cond.instanceMethod yX0_put) ∈ GG := GG_i 309 (rfl) (by decide +kernel)
theorem k_310 : (Cond.selects RX0 yX0_put yX0_put) ∈ GG := GG_i 310 (rfl) (by decide +kernel)
theorem k_311 : (Cond.code yX0_put cX0_put 3 none) ∈ GG := GG_i 311 (rfl) (by decide +kernel)
theorem k_312 : (Cond.methodLink RX0 75 yX0_settle) ∈ GG := GG_i 312 (rfl) (by decide +kernel)
theorem k_314 : (Cond.instanceMethod yX0_settle) ∈ GG := GG_i 314 (rfl) (by decide +kernel)
theorem k_315 : (Cond.code yX0_settle cX0_settle 4 none) ∈ GG := GG_i 315 (rfl) (by decide +kernel)
theorem k_316 : (Cond.methodLink RX0 81 yX0_energyNow) ∈ GG := GG_i 316 (rfl) (by decide +kernel)
theorem k_317 : (Cond.instanceMethod yX0_energyNow) ∈ GG := GG_i 317 (rfl) (by decide +kernel)
theorem k_318 : (Cond.selects RX0 yX0_energyNow yX0_energyNow) ∈ GG := GG_i 318 (rfl) (by decide +kernel)
theorem k_319 : (Cond.code yX0_energyNow cX0_energyNow 1 (some .long)) ∈ GG := GG_i 319 (rfl) (by decide +kernel)
theorem k_320 : (Cond.constantLong RX0 79 (32)) ∈ GG := GG_i 320 (rfl) (by decide +kernel)
theorem k_321 : (Cond.methodLink RL 18 yX8_told) ∈ GG := GG_i 321 (rfl) (by decide +kernel)
theorem k_322 : (Cond.instanceMethod yX8_told) ∈ GG := GG_i 322 (rfl) (by decide +kernel)
theorem k_323 : (Cond.selects RX8 yX8_told yX8_told) ∈ GG := GG_i 323 (rfl) (by decide +kernel)
theorem k_324 : (Cond.code yX8_told cX8_told 2 (some .int)) ∈ GG := GG_i 324 (rfl) (by decide +kernel)
theorem k_325 : (Cond.methodLink RL 23 yX8_push) ∈ GG := GG_i 325 (rfl) (by decide +kernel)
theorem k_326 : (Cond.instanceMethod yX8_push) ∈ GG := GG_i 326 (rfl) (by decide +kernel)
theorem k_327 : (Cond.selects RX8 yX8_push yX8_push) ∈ GG := GG_i 327 (rfl) (by decide +kernel)
theorem k_328 : (Cond.code yX8_push cX8_push 4 (some .int)) ∈ GG := GG_i 328 (rfl) (by decide +kernel)
theorem k_329 : (Cond.constant RX8 79 (99999)) ∈ GG := GG_i 329 (rfl) (by decide +kernel)
theorem k_330 : (Cond.methodLink RX8 84 yX8_isPushable) ∈ GG := GG_i 330 (rfl) (by decide +kernel)
theorem k_331 : (Cond.static yX8_isPushable) ∈ GG := GG_i 331 (rfl) (by decide +kernel)
theorem k_332 : (Cond.code yX8_isPushable cX8_isPushable 2 (some .boolean)) ∈ GG := GG_i 332 (rfl) (by decide +kernel)
theorem k_333 : (Cond.fieldLink RX8 260 "WatchBeats" "PUSH_LEAST" "[I") ∈ GG := GG_i 333 (rfl) (by decide +kernel)
theorem k_335 : (Cond.fieldLink RX8 263 "WatchBeats" "PUSH_MOST" "[I") ∈ GG := GG_i 335 (rfl) (by decide +kernel)
theorem k_337 : (Cond.methodLink RX8 96 yX2_add) ∈ GG := GG_i 337 (rfl) (by decide +kernel)
theorem k_338 : (Cond.instanceMethod yX2_add) ∈ GG := GG_i 338 (rfl) (by decide +kernel)
theorem k_339 : (Cond.selects RX2 yX2_add yX2_add) ∈ GG := GG_i 339 (rfl) (by decide +kernel)
theorem k_340 : (Cond.code yX2_add cX2_add 5 none) ∈ GG := GG_i 340 (rfl) (by decide +kernel)
theorem k_341 : (Cond.methodLink RL 28 yX8_pushOf) ∈ GG := GG_i 341 (rfl) (by decide +kernel)
theorem k_342 : (Cond.instanceMethod yX8_pushOf) ∈ GG := GG_i 342 (rfl) (by decide +kernel)
theorem k_343 : (Cond.selects RX8 yX8_pushOf yX8_pushOf) ∈ GG := GG_i 343 (rfl) (by decide +kernel)
theorem k_344 : (Cond.code yX8_pushOf cX8_pushOf 4 (some .int)) ∈ GG := GG_i 344 (rfl) (by decide +kernel)
theorem k_345 : (Cond.methodLink RL 32 yX8_go) ∈ GG := GG_i 345 (rfl) (by decide +kernel)
theorem k_346 : (Cond.instanceMethod yX8_go) ∈ GG := GG_i 346 (rfl) (by decide +kernel)
theorem k_347 : (Cond.selects RX8 yX8_go yX8_go) ∈ GG := GG_i 347 (rfl) (by decide +kernel)
theorem k_348 : (Cond.code yX8_go cX8_go 4 (some .int)) ∈ GG := GG_i 348 (rfl) (by decide +kernel)
theorem k_349 : (Cond.methodLink RX8 110 yX0_tick) ∈ GG := GG_i 349 (rfl) (by decide +kernel)
theorem k_350 : (Cond.instanceMethod yX0_tick) ∈ GG := GG_i 350 (rfl) (by decide +kernel)
theorem k_351 : (Cond.selects RX0 yX0_tick yX0_tick) ∈ GG := GG_i 351 (rfl) (by decide +kernel)
theorem k_352 : (Cond.code yX0_tick cX0_tick 3 (some .boolean)) ∈ GG := GG_i 352 (rfl) (by decide +kernel)
theorem k_353 : (Cond.methodLink RX0 85 yX0_bePushed) ∈ GG := GG_i 353 (rfl) (by decide +kernel)
theorem k_355 : (Cond.instanceMethod yX0_bePushed) ∈ GG := GG_i 355 (rfl) (by decide +kernel)
theorem k_356 : (Cond.code yX0_bePushed cX0_bePushed 2 none) ∈ GG := GG_i 356 (rfl) (by decide +kernel)
theorem k_357 : (Cond.methodLink RX0 111 yX0_doPush) ∈ GG := GG_i 357 (rfl) (by decide +kernel)
theorem k_359 : (Cond.instanceMethod yX0_doPush) ∈ GG := GG_i 359 (rfl) (by decide +kernel)
theorem k_360 : (Cond.code yX0_doPush cX0_doPush 3 none) ∈ GG := GG_i 360 (rfl) (by decide +kernel)
theorem k_361 : (Cond.methodLink RX0 117 Lib.Math.min.name) ∈ GG := GG_i 361 (rfl) (by decide +kernel)
theorem k_362 : (Cond.static Lib.Math.min.name) ∈ GG := GG_i 362 (rfl) (by decide +kernel)
theorem k_363 : (Cond.code Lib.Math.min.name Lib.Math.min.code 2 (some .int)) ∈ GG := GG_i 363 (rfl) (by decide +kernel)
theorem k_364 : (Cond.methodLink RX0 123 Lib.Math.max.name) ∈ GG := GG_i 364 (rfl) (by decide +kernel)
theorem k_365 : (Cond.static Lib.Math.max.name) ∈ GG := GG_i 365 (rfl) (by decide +kernel)
theorem k_366 : (Cond.code Lib.Math.max.name Lib.Math.max.code 2 (some .int)) ∈ GG := GG_i 366 (rfl) (by decide +kernel)
theorem k_367 : (Cond.methodLink RX0 114 yX2_removeFirst) ∈ GG := GG_i 367 (rfl) (by decide +kernel)
theorem k_368 : (Cond.instanceMethod yX2_removeFirst) ∈ GG := GG_i 368 (rfl) (by decide +kernel)
theorem k_369 : (Cond.selects RX2 yX2_removeFirst yX2_removeFirst) ∈ GG := GG_i 369 (rfl) (by decide +kernel)
theorem k_370 : (Cond.code yX2_removeFirst cX2_removeFirst 3 none) ∈ GG := GG_i 370 (rfl) (by decide +kernel)
theorem k_371 : (Cond.methodLink RX0 88 yX0_beDragged) ∈ GG := GG_i 371 (rfl) (by decide +kernel)
theorem k_373 : (Cond.instanceMethod yX0_beDragged) ∈ GG := GG_i 373 (rfl) (by decide +kernel)
theorem k_374 : (Cond.code yX0_beDragged cX0_beDragged 1 none) ∈ GG := GG_i 374 (rfl) (by decide +kernel)
theorem k_375 : (Cond.methodLink RX0 91 yX0_swing) ∈ GG := GG_i 375 (rfl) (by decide +kernel)
theorem k_377 : (Cond.instanceMethod yX0_swing) ∈ GG := GG_i 377 (rfl) (by decide +kernel)
theorem k_378 : (Cond.code yX0_swing cX0_swing 1 none) ∈ GG := GG_i 378 (rfl) (by decide +kernel)
theorem k_379 : (Cond.methodLink RX0 94 yX0_isLetGo) ∈ GG := GG_i 379 (rfl) (by decide +kernel)
set_option maxRecDepth 100000 in
theorem k_381 : (Cond.instanceMethod yX0_isLetGo) ∈ GG := GG_i 381 (rfl) (by decide +kernel)
set_option maxRecDepth 100000 in
theorem k_382 : (Cond.code yX0_isLetGo cX0_isLetGo 2 (some .boolean)) ∈ GG := GG_i 382 (rfl) (by decide +kernel)
set_option maxRecDepth 100000 in
theorem k_383 : (Cond.methodLink RX0 98 yX0_beKicked) ∈ GG := GG_i 383 (rfl) (by decide +kernel)
set_option maxRecDepth 100000 in
theorem k_385 : (Cond.instanceMethod yX0_beKicked) ∈ GG := GG_i 385 (rfl) (by decide +kernel)
set_option maxRecDepth 100000 in
theorem k_386 : (Cond.code yX0_beKicked cX0_beKicked 2 none) ∈ GG := GG_i 386 (rfl) (by decide +kernel)
set_option maxRecDepth 100000 in
theorem k_387 : (Cond.methodLink RL 36 yX8_wheel) ∈ GG := GG_i 387 (rfl) (by decide +kernel)
set_option maxRecDepth 100000 in
theorem k_388 : (Cond.instanceMethod yX8_wheel) ∈ GG := GG_i 388 (rfl) (by decide +kernel)
set_option maxRecDepth 100000 in
theorem k_389 : (Cond.selects RX8 yX8_wheel yX8_wheel) ∈ GG := GG_i 389 (rfl) (by decide +kernel)
set_option maxRecDepth 100000 in
theorem k_390 : (Cond.code yX8_wheel cX8_wheel 2 (some .int)) ∈ GG := GG_i 390 (rfl) (by decide +kernel)
set_option maxRecDepth 100000 in
theorem k_391 : (Cond.methodLink RX8 114 yX6_add) ∈ GG := GG_i 391 (rfl) (by decide +kernel)
set_option maxRecDepth 100000 in
theorem k_392 : (Cond.instanceMethod yX6_add) ∈ GG := GG_i 392 (rfl) (by decide +kernel)
set_option maxRecDepth 100000 in
theorem k_393 : (Cond.selects RX6 yX6_add yX6_add) ∈ GG := GG_i 393 (rfl) (by decide +kernel)
set_option maxRecDepth 100000 in
theorem k_394 : (Cond.code yX6_add cX6_add 2 none) ∈ GG := GG_i 394 (rfl) (by decide +kernel)
set_option maxRecDepth 100000 in
theorem k_395 : (Cond.methodLink RL 40 yX8_turns) ∈ GG := GG_i 395 (rfl) (by decide +kernel)
set_option maxRecDepth 100000 in
theorem k_396 : (Cond.instanceMethod yX8_turns) ∈ GG := GG_i 396 (rfl) (by decide +kernel)
set_option maxRecDepth 100000 in
theorem k_397 : (Cond.selects RX8 yX8_turns yX8_turns) ∈ GG := GG_i 397 (rfl) (by decide +kernel)
set_option maxRecDepth 100000 in
theorem k_398 : (Cond.code yX8_turns cX8_turns 3 (some .long)) ∈ GG := GG_i 398 (rfl) (by decide +kernel)
set_option maxRecDepth 100000 in
theorem k_399 : (Cond.constantLong RX8 117 (-9223372036854775808)) ∈ GG := GG_i 399 (rfl) (by decide +kernel)
set_option maxRecDepth 100000 in
theorem k_400 : (Cond.methodLink RX8 122 yX6_beatsOfOneTurn) ∈ GG := GG_i 400 (rfl) (by decide +kernel)
set_option maxRecDepth 100000 in
theorem k_401 : (Cond.instanceMethod yX6_beatsOfOneTurn) ∈ GG := GG_i 401 (rfl) (by decide +kernel)
set_option maxRecDepth 100000 in
theorem k_402 : (Cond.selects RX6 yX6_beatsOfOneTurn yX6_beatsOfOneTurn) ∈ GG := GG_i 402 (rfl) (by decide +kernel)
set_option maxRecDepth 100000 in
theorem k_403 : (Cond.code yX6_beatsOfOneTurn cX6_beatsOfOneTurn 5 (some .long)) ∈ GG := GG_i 403 (rfl) (by decide +kernel)
set_option maxRecDepth 100000 in
theorem k_404 : (Cond.constantLong RX6 19 (2)) ∈ GG := GG_i 404 (rfl) (by decide +kernel)
set_option maxRecDepth 100000 in
theorem k_405 : (Cond.methodLink RX8 126 yX8_partOfFraction) ∈ GG := GG_i 405 (rfl) (by decide +kernel)
set_option maxRecDepth 100000 in
theorem k_406 : (Cond.static yX8_partOfFraction) ∈ GG := GG_i 406 (rfl) (by decide +kernel)
set_option maxRecDepth 100000 in
theorem k_407 : (Cond.code yX8_partOfFraction cX8_partOfFraction 7 (some .long)) ∈ GG := GG_i 407 (rfl) (by decide +kernel)
set_option maxRecDepth 100000 in
theorem k_408 : (Cond.methodLink RX8 266 yX8_commonDivisor) ∈ GG := GG_i 408 (rfl) (by decide +kernel)
set_option maxRecDepth 100000 in
theorem k_409 : (Cond.static yX8_commonDivisor) ∈ GG := GG_i 409 (rfl) (by decide +kernel)
set_option maxRecDepth 100000 in
theorem k_410 : (Cond.code yX8_commonDivisor cX8_commonDivisor 7 (some .long)) ∈ GG := GG_i 410 (rfl) (by decide +kernel)
set_option maxRecDepth 100000 in
theorem k_411 : (Cond.methodLink RL 45 yX8_energy) ∈ GG := GG_i 411 (rfl) (by decide +kernel)
set_option maxRecDepth 100000 in
theorem k_412 : (Cond.instanceMethod yX8_energy) ∈ GG := GG_i 412 (rfl) (by decide +kernel)
set_option maxRecDepth 100000 in
theorem k_413 : (Cond.selects RX8 yX8_energy yX8_energy) ∈ GG := GG_i 413 (rfl) (by decide +kernel)
set_option maxRecDepth 100000 in
theorem k_414 : (Cond.code yX8_energy cX8_energy 2 (some .long)) ∈ GG := GG_i 414 (rfl) (by decide +kernel)
set_option maxRecDepth 100000 in
theorem k_415 : (Cond.methodLink RX8 130 yX0_energyNow) ∈ GG := GG_i 415 (rfl) (by decide +kernel)
set_option maxRecDepth 100000 in
theorem k_416 : (Cond.methodLink RL 50 yX8_feed) ∈ GG := GG_i 416 (rfl) (by decide +kernel)
set_option maxRecDepth 100000 in
theorem k_417 : (Cond.instanceMethod yX8_feed) ∈ GG := GG_i 417 (rfl) (by decide +kernel)
set_option maxRecDepth 100000 in
theorem k_418 : (Cond.selects RX8 yX8_feed yX8_feed) ∈ GG := GG_i 418 (rfl) (by decide +kernel)
set_option maxRecDepth 100000 in
theorem k_419 : (Cond.code yX8_feed cX8_feed 2 (some .int)) ∈ GG := GG_i 419 (rfl) (by decide +kernel)
set_option maxRecDepth 100000 in
theorem k_420 : (Cond.methodLink RX8 141 yX5_add) ∈ GG := GG_i 420 (rfl) (by decide +kernel)
set_option maxRecDepth 100000 in
theorem k_421 : (Cond.instanceMethod yX5_add) ∈ GG := GG_i 421 (rfl) (by decide +kernel)
set_option maxRecDepth 100000 in
theorem k_422 : (Cond.selects RX5 yX5_add yX5_add) ∈ GG := GG_i 422 (rfl) (by decide +kernel)
set_option maxRecDepth 100000 in
theorem k_423 : (Cond.code yX5_add cX5_add 2 none) ∈ GG := GG_i 423 (rfl) (by decide +kernel)
set_option maxRecDepth 100000 in
theorem k_424 : (Cond.methodLink RL 54 yX8_read) ∈ GG := GG_i 424 (rfl) (by decide +kernel)
set_option maxRecDepth 100000 in
theorem k_425 : (Cond.instanceMethod yX8_read) ∈ GG := GG_i 425 (rfl) (by decide +kernel)
set_option maxRecDepth 100000 in
theorem k_426 : (Cond.selects RX8 yX8_read yX8_read) ∈ GG := GG_i 426 (rfl) (by decide +kernel)
set_option maxRecDepth 100000 in
theorem k_427 : (Cond.code yX8_read cX8_read 4 (some .int)) ∈ GG := GG_i 427 (rfl) (by decide +kernel)
set_option maxRecDepth 100000 in
theorem k_428 : (Cond.methodLink RX8 142 yX5_parse) ∈ GG := GG_i 428 (rfl) (by decide +kernel)
set_option maxRecDepth 100000 in
theorem k_429 : (Cond.instanceMethod yX5_parse) ∈ GG := GG_i 429 (rfl) (by decide +kernel)
set_option maxRecDepth 100000 in
theorem k_430 : (Cond.selects RX5 yX5_parse yX5_parse) ∈ GG := GG_i 430 (rfl) (by decide +kernel)
set_option maxRecDepth 100000 in
theorem k_431 : (Cond.code yX5_parse cX5_parse 6 (some .int)) ∈ GG := GG_i 431 (rfl) (by decide +kernel)
set_option maxRecDepth 100000 in
theorem k_432 : (Cond.methodLink RX5 29 yX5_letterAt) ∈ GG := GG_i 432 (rfl) (by decide +kernel)
set_option maxRecDepth 100000 in
theorem k_434 : (Cond.instanceMethod yX5_letterAt) ∈ GG := GG_i 434 (rfl) (by decide +kernel)
set_option maxRecDepth 100000 in
theorem k_435 : (Cond.code yX5_letterAt cX5_letterAt 4 (some .int)) ∈ GG := GG_i 435 (rfl) (by decide +kernel)
set_option maxRecDepth 100000 in
theorem k_436 : (Cond.methodLink RX5 33 yX5_signAt) ∈ GG := GG_i 436 (rfl) (by decide +kernel)
set_option maxRecDepth 100000 in
theorem k_438 : (Cond.instanceMethod yX5_signAt) ∈ GG := GG_i 438 (rfl) (by decide +kernel)
set_option maxRecDepth 100000 in
theorem k_439 : (Cond.code yX5_signAt cX5_signAt 2 (some .int)) ∈ GG := GG_i 439 (rfl) (by decide +kernel)
set_option maxRecDepth 100000 in
theorem k_442 : (Cond.methodLink RX5 36 yX5_digitsEnd) ∈ GG := GG_i 442 (rfl) (by decide +kernel)
set_option maxRecDepth 100000 in
theorem k_444 : (Cond.instanceMethod yX5_digitsEnd) ∈ GG := GG_i 444 (rfl) (by decide +kernel)
set_option maxRecDepth 100000 in
theorem k_445 : (Cond.code yX5_digitsEnd cX5_digitsEnd 3 (some .int)) ∈ GG := GG_i 445 (rfl) (by decide +kernel)
set_option maxRecDepth 100000 in
theorem k_447 : (Cond.methodLink RX5 39 yX5_number) ∈ GG := GG_i 447 (rfl) (by decide +kernel)
set_option maxRecDepth 100000 in
theorem k_449 : (Cond.instanceMethod yX5_number) ∈ GG := GG_i 449 (rfl) (by decide +kernel)
set_option maxRecDepth 100000 in
theorem k_450 : (Cond.code yX5_number cX5_number 5 (some .int)) ∈ GG := GG_i 450 (rfl) (by decide +kernel)
set_option maxRecDepth 100000 in
theorem k_451 : (Cond.methodLink RX8 153 yX8_isClauseDone) ∈ GG := GG_i 451 (rfl) (by decide +kernel)
set_option maxRecDepth 100000 in
theorem k_453 : (Cond.instanceMethod yX8_isClauseDone) ∈ GG := GG_i 453 (rfl) (by decide +kernel)
set_option maxRecDepth 100000 in
theorem k_454 : (Cond.code yX8_isClauseDone cX8_isClauseDone 3 (some .boolean)) ∈ GG := GG_i 454 (rfl) (by decide +kernel)
set_option maxRecDepth 100000 in
theorem k_455 : (Cond.methodLink RX8 270 yX8_wheel) ∈ GG := GG_i 455 (rfl) (by decide +kernel)
set_option maxRecDepth 100000 in
theorem k_456 : (Cond.methodLink RX8 273 yX8_go) ∈ GG := GG_i 456 (rfl) (by decide +kernel)
set_option maxRecDepth 100000 in
theorem k_457 : (Cond.methodLink RL 59 yX8_ahead) ∈ GG := GG_i 457 (rfl) (by decide +kernel)
set_option maxRecDepth 100000 in
theorem k_458 : (Cond.instanceMethod yX8_ahead) ∈ GG := GG_i 458 (rfl) (by decide +kernel)
set_option maxRecDepth 100000 in
theorem k_459 : (Cond.selects RX8 yX8_ahead yX8_ahead) ∈ GG := GG_i 459 (rfl) (by decide +kernel)
set_option maxRecDepth 100000 in
theorem k_460 : (Cond.code yX8_ahead cX8_ahead 3 (some .int)) ∈ GG := GG_i 460 (rfl) (by decide +kernel)
set_option maxRecDepth 100000 in
theorem k_461 : (Cond.fieldLink RX8 156 "WatchBeats" "TOLD_AHEAD" "[I") ∈ GG := GG_i 461 (rfl) (by decide +kernel)
set_option maxRecDepth 100000 in
theorem k_463 : (Cond.methodLink RX8 159 yX8_thinkAhead) ∈ GG := GG_i 463 (rfl) (by decide +kernel)
set_option maxRecDepth 100000 in
theorem k_465 : (Cond.instanceMethod yX8_thinkAhead) ∈ GG := GG_i 465 (rfl) (by decide +kernel)
set_option maxRecDepth 100000 in
theorem k_466 : (Cond.code yX8_thinkAhead cX8_thinkAhead 3 none) ∈ GG := GG_i 466 (rfl) (by decide +kernel)
set_option maxRecDepth 100000 in
theorem k_467 : (Cond.methodLink RX8 276 yX0_copy) ∈ GG := GG_i 467 (rfl) (by decide +kernel)
set_option maxRecDepth 100000 in
theorem k_468 : (Cond.instanceMethod yX0_copy) ∈ GG := GG_i 468 (rfl) (by decide +kernel)
set_option maxRecDepth 100000 in
theorem k_469 : (Cond.selects RX0 yX0_copy yX0_copy) ∈ GG := GG_i 469 (rfl) (by decide +kernel)
set_option maxRecDepth 100000 in
theorem k_470 : (Cond.code yX0_copy cX0_copy 3 none) ∈ GG := GG_i 470 (rfl) (by decide +kernel)
set_option maxRecDepth 100000 in
theorem k_471 : (Cond.methodLink RX0 64 yX2_copy) ∈ GG := GG_i 471 (rfl) (by decide +kernel)
set_option maxRecDepth 100000 in
theorem k_472 : (Cond.instanceMethod yX2_copy) ∈ GG := GG_i 472 (rfl) (by decide +kernel)
set_option maxRecDepth 100000 in
theorem k_473 : (Cond.selects RX2 yX2_copy yX2_copy) ∈ GG := GG_i 473 (rfl) (by decide +kernel)
set_option maxRecDepth 100000 in
theorem k_474 : (Cond.code yX2_copy cX2_copy 3 none) ∈ GG := GG_i 474 (rfl) (by decide +kernel)
set_option maxRecDepth 100000 in
theorem k_475 : (Cond.methodLink RL 63 yX8_energyAt) ∈ GG := GG_i 475 (rfl) (by decide +kernel)
set_option maxRecDepth 100000 in
theorem k_476 : (Cond.instanceMethod yX8_energyAt) ∈ GG := GG_i 476 (rfl) (by decide +kernel)
set_option maxRecDepth 100000 in
theorem k_477 : (Cond.selects RX8 yX8_energyAt yX8_energyAt) ∈ GG := GG_i 477 (rfl) (by decide +kernel)
set_option maxRecDepth 100000 in
theorem k_478 : (Cond.code yX8_energyAt cX8_energyAt 2 (some .long)) ∈ GG := GG_i 478 (rfl) (by decide +kernel)
set_option maxRecDepth 100000 in
theorem k_479 : (Cond.methodLink RL 67 yX8_heard) ∈ GG := GG_i 479 (rfl) (by decide +kernel)
set_option maxRecDepth 100000 in
theorem k_480 : (Cond.instanceMethod yX8_heard) ∈ GG := GG_i 480 (rfl) (by decide +kernel)
set_option maxRecDepth 100000 in
theorem k_481 : (Cond.selects RX8 yX8_heard yX8_heard) ∈ GG := GG_i 481 (rfl) (by decide +kernel)
set_option maxRecDepth 100000 in
theorem k_482 : (Cond.code yX8_heard cX8_heard 2 (some .int)) ∈ GG := GG_i 482 (rfl) (by decide +kernel)
set_option maxRecDepth 100000 in
theorem k_483 : (Cond.methodLink RX8 162 yX8_listenFromNow) ∈ GG := GG_i 483 (rfl) (by decide +kernel)
set_option maxRecDepth 100000 in
theorem k_485 : (Cond.instanceMethod yX8_listenFromNow) ∈ GG := GG_i 485 (rfl) (by decide +kernel)
set_option maxRecDepth 100000 in
theorem k_486 : (Cond.code yX8_listenFromNow cX8_listenFromNow 1 none) ∈ GG := GG_i 486 (rfl) (by decide +kernel)
set_option maxRecDepth 100000 in
theorem k_487 : (Cond.methodLink RX8 279 yX1_listen) ∈ GG := GG_i 487 (rfl) (by decide +kernel)
set_option maxRecDepth 100000 in
theorem k_488 : (Cond.instanceMethod yX1_listen) ∈ GG := GG_i 488 (rfl) (by decide +kernel)
set_option maxRecDepth 100000 in
theorem k_489 : (Cond.selects RX1 yX1_listen yX1_listen) ∈ GG := GG_i 489 (rfl) (by decide +kernel)
set_option maxRecDepth 100000 in
theorem k_490 : (Cond.code yX1_listen cX1_listen 3 none) ∈ GG := GG_i 490 (rfl) (by decide +kernel)
set_option maxRecDepth 100000 in
theorem k_491 : (Cond.methodLink RX1 19 yX0_tick) ∈ GG := GG_i 491 (rfl) (by decide +kernel)
set_option maxRecDepth 100000 in
theorem k_492 : (Cond.methodLink RX8 165 yX1_beatAt) ∈ GG := GG_i 492 (rfl) (by decide +kernel)
set_option maxRecDepth 100000 in
theorem k_493 : (Cond.instanceMethod yX1_beatAt) ∈ GG := GG_i 493 (rfl) (by decide +kernel)
set_option maxRecDepth 100000 in
theorem k_494 : (Cond.selects RX1 yX1_beatAt yX1_beatAt) ∈ GG := GG_i 494 (rfl) (by decide +kernel)
set_option maxRecDepth 100000 in
theorem k_495 : (Cond.code yX1_beatAt cX1_beatAt 2 (some .int)) ∈ GG := GG_i 495 (rfl) (by decide +kernel)
set_option maxRecDepth 100000 in
theorem k_496 : (Cond.methodLink RL 71 yX8_beat) ∈ GG := GG_i 496 (rfl) (by decide +kernel)
set_option maxRecDepth 100000 in
theorem k_497 : (Cond.instanceMethod yX8_beat) ∈ GG := GG_i 497 (rfl) (by decide +kernel)
set_option maxRecDepth 100000 in
theorem k_498 : (Cond.selects RX8 yX8_beat yX8_beat) ∈ GG := GG_i 498 (rfl) (by decide +kernel)
set_option maxRecDepth 100000 in
theorem k_499 : (Cond.code yX8_beat cX8_beat 2 (some .int)) ∈ GG := GG_i 499 (rfl) (by decide +kernel)
set_option maxRecDepth 100000 in
theorem k_500 : (Cond.methodLink RX8 168 yX8_evenest) ∈ GG := GG_i 500 (rfl) (by decide +kernel)
set_option maxRecDepth 100000 in
theorem k_502 : (Cond.instanceMethod yX8_evenest) ∈ GG := GG_i 502 (rfl) (by decide +kernel)
set_option maxRecDepth 100000 in
theorem k_503 : (Cond.code yX8_evenest cX8_evenest 9 (some .int)) ∈ GG := GG_i 503 (rfl) (by decide +kernel)
set_option maxRecDepth 100000 in
theorem k_504 : (Cond.methodLink RX8 199 yX8_listenWith) ∈ GG := GG_i 504 (rfl) (by decide +kernel)
set_option maxRecDepth 100000 in
theorem k_506 : (Cond.instanceMethod yX8_listenWith) ∈ GG := GG_i 506 (rfl) (by decide +kernel)
set_option maxRecDepth 100000 in
theorem k_507 : (Cond.code yX8_listenWith cX8_listenWith 3 none) ∈ GG := GG_i 507 (rfl) (by decide +kernel)
set_option maxRecDepth 100000 in
theorem k_508 : (Cond.methodLink RX8 282 yX0_put) ∈ GG := GG_i 508 (rfl) (by decide +kernel)
set_option maxRecDepth 100000 in
theorem k_509 : (Cond.methodLink RX8 175 yX1_uneven) ∈ GG := GG_i 509 (rfl) (by decide +kernel)
set_option maxRecDepth 100000 in
theorem k_510 : (Cond.instanceMethod yX1_uneven) ∈ GG := GG_i 510 (rfl) (by decide +kernel)
set_option maxRecDepth 100000 in
theorem k_511 : (Cond.selects RX1 yX1_uneven yX1_uneven) ∈ GG := GG_i 511 (rfl) (by decide +kernel)
set_option maxRecDepth 100000 in
theorem k_512 : (Cond.code yX1_uneven cX1_uneven 4 (some .int)) ∈ GG := GG_i 512 (rfl) (by decide +kernel)
set_option maxRecDepth 100000 in
theorem k_513 : (Cond.methodLink RX1 31 yX1_gaps) ∈ GG := GG_i 513 (rfl) (by decide +kernel)
set_option maxRecDepth 100000 in
theorem k_514 : (Cond.instanceMethod yX1_gaps) ∈ GG := GG_i 514 (rfl) (by decide +kernel)
set_option maxRecDepth 100000 in
theorem k_515 : (Cond.selects RX1 yX1_gaps yX1_gaps) ∈ GG := GG_i 515 (rfl) (by decide +kernel)
set_option maxRecDepth 100000 in
theorem k_516 : (Cond.code yX1_gaps cX1_gaps 1 (some .int)) ∈ GG := GG_i 516 (rfl) (by decide +kernel)
set_option maxRecDepth 100000 in
theorem k_517 : (Cond.methodLink RX1 25 Lib.Math.max.name) ∈ GG := GG_i 517 (rfl) (by decide +kernel)
set_option maxRecDepth 100000 in
theorem k_518 : (Cond.methodLink RX1 39 yX1_gapAt) ∈ GG := GG_i 518 (rfl) (by decide +kernel)
set_option maxRecDepth 100000 in
theorem k_519 : (Cond.instanceMethod yX1_gapAt) ∈ GG := GG_i 519 (rfl) (by decide +kernel)
set_option maxRecDepth 100000 in
theorem k_520 : (Cond.selects RX1 yX1_gapAt yX1_gapAt) ∈ GG := GG_i 520 (rfl) (by decide +kernel)
set_option maxRecDepth 100000 in
theorem k_521 : (Cond.code yX1_gapAt cX1_gapAt 2 (some .int)) ∈ GG := GG_i 521 (rfl) (by decide +kernel)
set_option maxRecDepth 100000 in
theorem k_522 : (Cond.methodLink RX1 35 yX1_beatAt) ∈ GG := GG_i 522 (rfl) (by decide +kernel)
set_option maxRecDepth 100000 in
theorem k_523 : (Cond.methodLink RX8 288 Lib.Math.abs.name) ∈ GG := GG_i 523 (rfl) (by decide +kernel)
set_option maxRecDepth 100000 in
theorem k_524 : (Cond.static Lib.Math.abs.name) ∈ GG := GG_i 524 (rfl) (by decide +kernel)
set_option maxRecDepth 100000 in
theorem k_525 : (Cond.code Lib.Math.abs.name Lib.Math.abs.code 1 (some .int)) ∈ GG := GG_i 525 (rfl) (by decide +kernel)
set_option maxRecDepth 100000 in
theorem k_526 : (Cond.constantLong RX8 293 (1000)) ∈ GG := GG_i 526 (rfl) (by decide +kernel)
set_option maxRecDepth 100000 in
theorem k_527 : (Cond.methodLink RX8 172 yX1_gaps) ∈ GG := GG_i 527 (rfl) (by decide +kernel)
set_option maxRecDepth 100000 in
theorem k_528 : (Cond.methodLink RL 75 yX8_gap) ∈ GG := GG_i 528 (rfl) (by decide +kernel)
set_option maxRecDepth 100000 in
theorem k_529 : (Cond.instanceMethod yX8_gap) ∈ GG := GG_i 529 (rfl) (by decide +kernel)
set_option maxRecDepth 100000 in
theorem k_530 : (Cond.selects RX8 yX8_gap yX8_gap) ∈ GG := GG_i 530 (rfl) (by decide +kernel)
set_option maxRecDepth 100000 in
theorem k_531 : (Cond.code yX8_gap cX8_gap 2 (some .int)) ∈ GG := GG_i 531 (rfl) (by decide +kernel)
set_option maxRecDepth 100000 in
theorem k_532 : (Cond.methodLink RX8 178 yX1_gapAt) ∈ GG := GG_i 532 (rfl) (by decide +kernel)
set_option maxRecDepth 100000 in
theorem k_533 : (Cond.methodLink RL 79 yX8_longest) ∈ GG := GG_i 533 (rfl) (by decide +kernel)
set_option maxRecDepth 100000 in
theorem k_534 : (Cond.instanceMethod yX8_longest) ∈ GG := GG_i 534 (rfl) (by decide +kernel)
set_option maxRecDepth 100000 in
theorem k_535 : (Cond.selects RX8 yX8_longest yX8_longest) ∈ GG := GG_i 535 (rfl) (by decide +kernel)
set_option maxRecDepth 100000 in
theorem k_536 : (Cond.code yX8_longest cX8_longest 4 (some .int)) ∈ GG := GG_i 536 (rfl) (by decide +kernel)
set_option maxRecDepth 100000 in
theorem k_537 : (Cond.methodLink RX8 181 yX1_longestGap) ∈ GG := GG_i 537 (rfl) (by decide +kernel)
set_option maxRecDepth 100000 in
theorem k_538 : (Cond.instanceMethod yX1_longestGap) ∈ GG := GG_i 538 (rfl) (by decide +kernel)
set_option maxRecDepth 100000 in
theorem k_539 : (Cond.selects RX1 yX1_longestGap yX1_longestGap) ∈ GG := GG_i 539 (rfl) (by decide +kernel)
set_option maxRecDepth 100000 in
theorem k_540 : (Cond.code yX1_longestGap cX1_longestGap 4 (some .int)) ∈ GG := GG_i 540 (rfl) (by decide +kernel)
set_option maxRecDepth 100000 in
theorem k_541 : (Cond.methodLink RX1 42 yX1_gapsAheadOf) ∈ GG := GG_i 541 (rfl) (by decide +kernel)
set_option maxRecDepth 100000 in
theorem k_543 : (Cond.instanceMethod yX1_gapsAheadOf) ∈ GG := GG_i 543 (rfl) (by decide +kernel)
set_option maxRecDepth 100000 in
theorem k_544 : (Cond.code yX1_gapsAheadOf cX1_gapsAheadOf 7 (some .int)) ∈ GG := GG_i 544 (rfl) (by decide +kernel)
set_option maxRecDepth 100000 in
theorem k_545 : (Cond.methodLink RL 83 yX8_see) ∈ GG := GG_i 545 (rfl) (by decide +kernel)
set_option maxRecDepth 100000 in
theorem k_546 : (Cond.instanceMethod yX8_see) ∈ GG := GG_i 546 (rfl) (by decide +kernel)
set_option maxRecDepth 100000 in
theorem k_547 : (Cond.selects RX8 yX8_see yX8_see) ∈ GG := GG_i 547 (rfl) (by decide +kernel)
set_option maxRecDepth 100000 in
theorem k_548 : (Cond.code yX8_see cX8_see 3 (some .int)) ∈ GG := GG_i 548 (rfl) (by decide +kernel)
set_option maxRecDepth 100000 in
theorem k_549 : (Cond.methodLink RX8 193 yX3_add) ∈ GG := GG_i 549 (rfl) (by decide +kernel)
set_option maxRecDepth 100000 in
theorem k_550 : (Cond.instanceMethod yX3_add) ∈ GG := GG_i 550 (rfl) (by decide +kernel)
set_option maxRecDepth 100000 in
theorem k_551 : (Cond.selects RX3 yX3_add yX3_add) ∈ GG := GG_i 551 (rfl) (by decide +kernel)
set_option maxRecDepth 100000 in
theorem k_552 : (Cond.code yX3_add cX3_add 3 none) ∈ GG := GG_i 552 (rfl) (by decide +kernel)
set_option maxRecDepth 100000 in
theorem k_553 : (Cond.methodLink RL 87 yX8_fits) ∈ GG := GG_i 553 (rfl) (by decide +kernel)
set_option maxRecDepth 100000 in
theorem k_554 : (Cond.instanceMethod yX8_fits) ∈ GG := GG_i 554 (rfl) (by decide +kernel)
set_option maxRecDepth 100000 in
theorem k_555 : (Cond.selects RX8 yX8_fits yX8_fits) ∈ GG := GG_i 555 (rfl) (by decide +kernel)
set_option maxRecDepth 100000 in
theorem k_556 : (Cond.code yX8_fits cX8_fits 5 (some .int)) ∈ GG := GG_i 556 (rfl) (by decide +kernel)
set_option maxRecDepth 100000 in
theorem k_557 : (Cond.methodLink RX8 195 yX8_goesAsSeen) ∈ GG := GG_i 557 (rfl) (by decide +kernel)
set_option maxRecDepth 100000 in
theorem k_559 : (Cond.instanceMethod yX8_goesAsSeen) ∈ GG := GG_i 559 (rfl) (by decide +kernel)
set_option maxRecDepth 100000 in
theorem k_560 : (Cond.code yX8_goesAsSeen cX8_goesAsSeen 4 (some .boolean)) ∈ GG := GG_i 560 (rfl) (by decide +kernel)
set_option maxRecDepth 100000 in
theorem k_561 : (Cond.methodLink RX8 295 yX3_greatestFirst) ∈ GG := GG_i 561 (rfl) (by decide +kernel)
set_option maxRecDepth 100000 in
theorem k_562 : (Cond.instanceMethod yX3_greatestFirst) ∈ GG := GG_i 562 (rfl) (by decide +kernel)
set_option maxRecDepth 100000 in
theorem k_563 : (Cond.selects RX3 yX3_greatestFirst yX3_greatestFirst) ∈ GG := GG_i 563 (rfl) (by decide +kernel)
set_option maxRecDepth 100000 in
theorem k_564 : (Cond.code yX3_greatestFirst cX3_greatestFirst 3 (some .int)) ∈ GG := GG_i 564 (rfl) (by decide +kernel)
set_option maxRecDepth 100000 in
theorem k_565 : (Cond.methodLink RX3 22 Lib.Math.max.name) ∈ GG := GG_i 565 (rfl) (by decide +kernel)
set_option maxRecDepth 100000 in
theorem k_566 : (Cond.methodLink RX8 301 yX3_allows) ∈ GG := GG_i 566 (rfl) (by decide +kernel)
set_option maxRecDepth 100000 in
theorem k_567 : (Cond.instanceMethod yX3_allows) ∈ GG := GG_i 567 (rfl) (by decide +kernel)
set_option maxRecDepth 100000 in
theorem k_568 : (Cond.selects RX3 yX3_allows yX3_allows) ∈ GG := GG_i 568 (rfl) (by decide +kernel)
set_option maxRecDepth 100000 in
theorem k_569 : (Cond.code yX3_allows cX3_allows 4 (some .boolean)) ∈ GG := GG_i 569 (rfl) (by decide +kernel)
set_option maxRecDepth 100000 in
theorem k_570 : (Cond.methodLink RL 91 yX8_odds) ∈ GG := GG_i 570 (rfl) (by decide +kernel)
set_option maxRecDepth 100000 in
theorem k_571 : (Cond.instanceMethod yX8_odds) ∈ GG := GG_i 571 (rfl) (by decide +kernel)
set_option maxRecDepth 100000 in
theorem k_572 : (Cond.selects RX8 yX8_odds yX8_odds) ∈ GG := GG_i 572 (rfl) (by decide +kernel)
set_option maxRecDepth 100000 in
theorem k_573 : (Cond.code yX8_odds cX8_odds 5 (some .long)) ∈ GG := GG_i 573 (rfl) (by decide +kernel)
set_option maxRecDepth 100000 in
theorem k_574 : (Cond.constantLong RX8 202 (11)) ∈ GG := GG_i 574 (rfl) (by decide +kernel)
set_option maxRecDepth 100000 in
theorem k_575 : (Cond.methodLink RL 95 yX8_mean) ∈ GG := GG_i 575 (rfl) (by decide +kernel)
set_option maxRecDepth 100000 in
theorem k_576 : (Cond.instanceMethod yX8_mean) ∈ GG := GG_i 576 (rfl) (by decide +kernel)
set_option maxRecDepth 100000 in
theorem k_577 : (Cond.selects RX8 yX8_mean yX8_mean) ∈ GG := GG_i 577 (rfl) (by decide +kernel)
set_option maxRecDepth 100000 in
theorem k_578 : (Cond.code yX8_mean cX8_mean 3 (some .long)) ∈ GG := GG_i 578 (rfl) (by decide +kernel)
set_option maxRecDepth 100000 in
theorem k_579 : (Cond.methodLink RL 99 yX8_book) ∈ GG := GG_i 579 (rfl) (by decide +kernel)
set_option maxRecDepth 100000 in
theorem k_580 : (Cond.instanceMethod yX8_book) ∈ GG := GG_i 580 (rfl) (by decide +kernel)
set_option maxRecDepth 100000 in
theorem k_581 : (Cond.selects RX8 yX8_book yX8_book) ∈ GG := GG_i 581 (rfl) (by decide +kernel)
set_option maxRecDepth 100000 in
theorem k_582 : (Cond.code yX8_book cX8_book 3 (some .int)) ∈ GG := GG_i 582 (rfl) (by decide +kernel)
set_option maxRecDepth 100000 in
theorem k_583 : (Cond.methodLink RL 103 yX8_looked) ∈ GG := GG_i 583 (rfl) (by decide +kernel)
set_option maxRecDepth 100000 in
theorem k_584 : (Cond.instanceMethod yX8_looked) ∈ GG := GG_i 584 (rfl) (by decide +kernel)
set_option maxRecDepth 100000 in
theorem k_585 : (Cond.selects RX8 yX8_looked yX8_looked) ∈ GG := GG_i 585 (rfl) (by decide +kernel)
set_option maxRecDepth 100000 in
theorem k_586 : (Cond.code yX8_looked cX8_looked 2 (some .int)) ∈ GG := GG_i 586 (rfl) (by decide +kernel)
set_option maxRecDepth 100000 in
theorem k_587 : (Cond.methodLink RL 107 yX8_judge) ∈ GG := GG_i 587 (rfl) (by decide +kernel)
set_option maxRecDepth 100000 in
theorem k_588 : (Cond.instanceMethod yX8_judge) ∈ GG := GG_i 588 (rfl) (by decide +kernel)
set_option maxRecDepth 100000 in
theorem k_589 : (Cond.selects RX8 yX8_judge yX8_judge) ∈ GG := GG_i 589 (rfl) (by decide +kernel)
set_option maxRecDepth 100000 in
theorem k_590 : (Cond.code yX8_judge cX8_judge 4 (some .int)) ∈ GG := GG_i 590 (rfl) (by decide +kernel)
set_option maxRecDepth 100000 in
theorem k_591 : (Cond.methodLink RX8 213 yX8_tapeAt) ∈ GG := GG_i 591 (rfl) (by decide +kernel)
set_option maxRecDepth 100000 in
theorem k_593 : (Cond.instanceMethod yX8_tapeAt) ∈ GG := GG_i 593 (rfl) (by decide +kernel)
set_option maxRecDepth 100000 in
theorem k_594 : (Cond.code yX8_tapeAt cX8_tapeAt 2 (some (.object "WatchBeats$Tape"))) ∈ GG := GG_i 594 (rfl) (by decide +kernel)
set_option maxRecDepth 100000 in
theorem k_595 : (Cond.methodLink RX8 220 yX8_judgement) ∈ GG := GG_i 595 (rfl) (by decide +kernel)
set_option maxRecDepth 100000 in
theorem k_597 : (Cond.instanceMethod yX8_judgement) ∈ GG := GG_i 597 (rfl) (by decide +kernel)
set_option maxRecDepth 100000 in
theorem k_598 : (Cond.code yX8_judgement cX8_judgement 4 (some .int)) ∈ GG := GG_i 598 (rfl) (by decide +kernel)
set_option maxRecDepth 100000 in
theorem k_599 : (Cond.methodLink RX8 235 yX4_has) ∈ GG := GG_i 599 (rfl) (by decide +kernel)
set_option maxRecDepth 100000 in
theorem k_600 : (Cond.instanceMethod yX4_has) ∈ GG := GG_i 600 (rfl) (by decide +kernel)
set_option maxRecDepth 100000 in
theorem k_601 : (Cond.selects RX4 yX4_has yX4_has) ∈ GG := GG_i 601 (rfl) (by decide +kernel)
set_option maxRecDepth 100000 in
theorem k_602 : (Cond.code yX4_has cX4_has 2 (some .boolean)) ∈ GG := GG_i 602 (rfl) (by decide +kernel)
set_option maxRecDepth 100000 in
theorem k_603 : (Cond.methodLink RL 111 yX8_image) ∈ GG := GG_i 603 (rfl) (by decide +kernel)
set_option maxRecDepth 100000 in
theorem k_604 : (Cond.instanceMethod yX8_image) ∈ GG := GG_i 604 (rfl) (by decide +kernel)
set_option maxRecDepth 100000 in
theorem k_605 : (Cond.selects RX8 yX8_image yX8_image) ∈ GG := GG_i 605 (rfl) (by decide +kernel)
set_option maxRecDepth 100000 in
theorem k_606 : (Cond.code yX8_image cX8_image 1 (some .int)) ∈ GG := GG_i 606 (rfl) (by decide +kernel)
set_option maxRecDepth 100000 in
theorem k_607 : (Cond.methodLink RX8 224 yX7_copy) ∈ GG := GG_i 607 (rfl) (by decide +kernel)
set_option maxRecDepth 100000 in
theorem k_608 : (Cond.instanceMethod yX7_copy) ∈ GG := GG_i 608 (rfl) (by decide +kernel)
set_option maxRecDepth 100000 in
theorem k_609 : (Cond.selects RX7 yX7_copy yX7_copy) ∈ GG := GG_i 609 (rfl) (by decide +kernel)
set_option maxRecDepth 100000 in
theorem k_610 : (Cond.code yX7_copy cX7_copy 2 none) ∈ GG := GG_i 610 (rfl) (by decide +kernel)
set_option maxRecDepth 100000 in
theorem k_611 : (Cond.methodLink RX7 35 yX0_copy) ∈ GG := GG_i 611 (rfl) (by decide +kernel)
set_option maxRecDepth 100000 in
theorem k_612 : (Cond.methodLink RX7 39 yX6_copy) ∈ GG := GG_i 612 (rfl) (by decide +kernel)
set_option maxRecDepth 100000 in
theorem k_613 : (Cond.instanceMethod yX6_copy) ∈ GG := GG_i 613 (rfl) (by decide +kernel)
set_option maxRecDepth 100000 in
theorem k_614 : (Cond.selects RX6 yX6_copy yX6_copy) ∈ GG := GG_i 614 (rfl) (by decide +kernel)
set_option maxRecDepth 100000 in
theorem k_615 : (Cond.code yX6_copy cX6_copy 3 none) ∈ GG := GG_i 615 (rfl) (by decide +kernel)
set_option maxRecDepth 100000 in
theorem k_616 : (Cond.methodLink RX7 42 yX3_copy) ∈ GG := GG_i 616 (rfl) (by decide +kernel)
set_option maxRecDepth 100000 in
theorem k_617 : (Cond.instanceMethod yX3_copy) ∈ GG := GG_i 617 (rfl) (by decide +kernel)
set_option maxRecDepth 100000 in
theorem k_618 : (Cond.selects RX3 yX3_copy yX3_copy) ∈ GG := GG_i 618 (rfl) (by decide +kernel)
set_option maxRecDepth 100000 in
theorem k_619 : (Cond.code yX3_copy cX3_copy 3 none) ∈ GG := GG_i 619 (rfl) (by decide +kernel)
set_option maxRecDepth 100000 in
theorem k_620 : (Cond.methodLink RL 115 yX8_undo) ∈ GG := GG_i 620 (rfl) (by decide +kernel)
set_option maxRecDepth 100000 in
theorem k_621 : (Cond.instanceMethod yX8_undo) ∈ GG := GG_i 621 (rfl) (by decide +kernel)
set_option maxRecDepth 100000 in
theorem k_622 : (Cond.selects RX8 yX8_undo yX8_undo) ∈ GG := GG_i 622 (rfl) (by decide +kernel)
set_option maxRecDepth 100000 in
theorem k_623 : (Cond.code yX8_undo cX8_undo 1 (some .int)) ∈ GG := GG_i 623 (rfl) (by decide +kernel)
set_option maxRecDepth 100000 in
theorem k_624 : (Cond.methodLink RL 119 yX8_count) ∈ GG := GG_i 624 (rfl) (by decide +kernel)
set_option maxRecDepth 100000 in
theorem k_625 : (Cond.instanceMethod yX8_count) ∈ GG := GG_i 625 (rfl) (by decide +kernel)
set_option maxRecDepth 100000 in
theorem k_626 : (Cond.selects RX8 yX8_count yX8_count) ∈ GG := GG_i 626 (rfl) (by decide +kernel)
set_option maxRecDepth 100000 in
theorem k_627 : (Cond.code yX8_count cX8_count 2 (some .int)) ∈ GG := GG_i 627 (rfl) (by decide +kernel)
set_option maxRecDepth 100000 in
theorem k_628 : (Cond.methodLink RL 123 yX8_tape) ∈ GG := GG_i 628 (rfl) (by decide +kernel)
set_option maxRecDepth 100000 in
theorem k_629 : (Cond.instanceMethod yX8_tape) ∈ GG := GG_i 629 (rfl) (by decide +kernel)
set_option maxRecDepth 100000 in
theorem k_630 : (Cond.selects RX8 yX8_tape yX8_tape) ∈ GG := GG_i 630 (rfl) (by decide +kernel)
set_option maxRecDepth 100000 in
theorem k_631 : (Cond.code yX8_tape cX8_tape 5 (some .int)) ∈ GG := GG_i 631 (rfl) (by decide +kernel)
set_option maxRecDepth 100000 in
theorem k_632 : (Cond.methodLink RX8 232 yX4_clear) ∈ GG := GG_i 632 (rfl) (by decide +kernel)
set_option maxRecDepth 100000 in
theorem k_633 : (Cond.instanceMethod yX4_clear) ∈ GG := GG_i 633 (rfl) (by decide +kernel)
set_option maxRecDepth 100000 in
theorem k_634 : (Cond.selects RX4 yX4_clear yX4_clear) ∈ GG := GG_i 634 (rfl) (by decide +kernel)
set_option maxRecDepth 100000 in
theorem k_635 : (Cond.code yX4_clear cX4_clear 4 none) ∈ GG := GG_i 635 (rfl) (by decide +kernel)
set_option maxRecDepth 100000 in
theorem k_636 : (Cond.methodLink RL 129 yX8_item) ∈ GG := GG_i 636 (rfl) (by decide +kernel)
set_option maxRecDepth 100000 in
theorem k_637 : (Cond.instanceMethod yX8_item) ∈ GG := GG_i 637 (rfl) (by decide +kernel)
set_option maxRecDepth 100000 in
theorem k_638 : (Cond.selects RX8 yX8_item yX8_item) ∈ GG := GG_i 638 (rfl) (by decide +kernel)
set_option maxRecDepth 100000 in
theorem k_639 : (Cond.code yX8_item cX8_item 6 (some .int)) ∈ GG := GG_i 639 (rfl) (by decide +kernel)
set_option maxRecDepth 100000 in
theorem k_640 : (Cond.methodLink RX8 241 yX4_asItem) ∈ GG := GG_i 640 (rfl) (by decide +kernel)
set_option maxRecDepth 100000 in
theorem k_641 : (Cond.instanceMethod yX4_asItem) ∈ GG := GG_i 641 (rfl) (by decide +kernel)
set_option maxRecDepth 100000 in
theorem k_642 : (Cond.selects RX4 yX4_asItem yX4_asItem) ∈ GG := GG_i 642 (rfl) (by decide +kernel)
set_option maxRecDepth 100000 in
theorem k_643 : (Cond.code yX4_asItem cX4_asItem 3 (some .long)) ∈ GG := GG_i 643 (rfl) (by decide +kernel)
set_option maxRecDepth 100000 in
theorem k_644 : (Cond.methodLink RL 134 yX8_peek) ∈ GG := GG_i 644 (rfl) (by decide +kernel)
set_option maxRecDepth 100000 in
theorem k_645 : (Cond.instanceMethod yX8_peek) ∈ GG := GG_i 645 (rfl) (by decide +kernel)
set_option maxRecDepth 100000 in
theorem k_646 : (Cond.selects RX8 yX8_peek yX8_peek) ∈ GG := GG_i 646 (rfl) (by decide +kernel)
set_option maxRecDepth 100000 in
theorem k_647 : (Cond.code yX8_peek cX8_peek 4 (some .long)) ∈ GG := GG_i 647 (rfl) (by decide +kernel)
set_option maxRecDepth 100000 in
theorem k_648 : (Cond.methodLink RL 138 yX8_shift) ∈ GG := GG_i 648 (rfl) (by decide +kernel)
set_option maxRecDepth 100000 in
theorem k_649 : (Cond.instanceMethod yX8_shift) ∈ GG := GG_i 649 (rfl) (by decide +kernel)
set_option maxRecDepth 100000 in
theorem k_650 : (Cond.selects RX8 yX8_shift yX8_shift) ∈ GG := GG_i 650 (rfl) (by decide +kernel)
set_option maxRecDepth 100000 in
theorem k_651 : (Cond.code yX8_shift cX8_shift 8 (some .int)) ∈ GG := GG_i 651 (rfl) (by decide +kernel)
set_option maxRecDepth 100000 in
theorem k_652 : (Cond.methodLink RX8 245 yX4_hasRun) ∈ GG := GG_i 652 (rfl) (by decide +kernel)
set_option maxRecDepth 100000 in
theorem k_653 : (Cond.instanceMethod yX4_hasRun) ∈ GG := GG_i 653 (rfl) (by decide +kernel)
set_option maxRecDepth 100000 in
theorem k_654 : (Cond.selects RX4 yX4_hasRun yX4_hasRun) ∈ GG := GG_i 654 (rfl) (by decide +kernel)
set_option maxRecDepth 100000 in
theorem k_655 : (Cond.code yX4_hasRun cX4_hasRun 3 (some .boolean)) ∈ GG := GG_i 655 (rfl) (by decide +kernel)
set_option maxRecDepth 100000 in
theorem k_656 : (Cond.methodLink RX8 248 arraycopyName) ∈ GG := GG_i 656 (rfl) (by decide +kernel)
set_option maxRecDepth 100000 in
theorem k_657 : (Cond.static arraycopyName) ∈ GG := GG_i 657 (rfl) (by decide +kernel)
set_option maxRecDepth 100000 in
theorem k_658 : (Cond.native arraycopyName) ∈ GG := GG_i 658 (rfl) (by decide +kernel)
set_option maxRecDepth 100000 in
theorem k_659 : (Cond.classLink RL 10 RX9) ∈ GG := GG_i 659 (rfl) (by decide +kernel)
set_option maxRecDepth 100000 in
theorem k_660 : (Cond.instantiable RX9 21) ∈ GG := GG_i 660 (rfl) (by decide +kernel)
set_option maxRecDepth 100000 in
theorem k_661 : (Cond.methodLink RL 12 yX9_init) ∈ GG := GG_i 661 (rfl) (by decide +kernel)
set_option maxRecDepth 100000 in
theorem k_662 : (Cond.instanceMethod yX9_init) ∈ GG := GG_i 662 (rfl) (by decide +kernel)
set_option maxRecDepth 100000 in
theorem k_663 : (Cond.code yX9_init cX9_init 1 none) ∈ GG := GG_i 663 (rfl) (by decide +kernel)
set_option maxRecDepth 100000 in
theorem k_664 : (Cond.methodLink RX9 3 objectInit) ∈ GG := GG_i 664 (rfl) (by decide +kernel)
set_option maxRecDepth 100000 in
theorem k_665 : (Cond.fieldLink RX9 9 "WatchBeatsModel" "now" "[I") ∈ GG := GG_i 665 (rfl) (by decide +kernel)
set_option maxRecDepth 100000 in
theorem k_666 : (Cond.fieldLink RX9 15 "WatchBeatsModel" "old" "[I") ∈ GG := GG_i 666 (rfl) (by decide +kernel)
set_option maxRecDepth 100000 in
theorem k_667 : (Cond.fieldLink RX9 18 "WatchBeatsModel" "ahead" "[I") ∈ GG := GG_i 667 (rfl) (by decide +kernel)
set_option maxRecDepth 100000 in
theorem k_668 : (Cond.fieldLink RX9 188 "WatchBeatsModel" "imaged" "Z") ∈ GG := GG_i 668 (rfl) (by decide +kernel)
set_option maxRecDepth 100000 in
theorem k_669 : (Cond.fieldLink RX9 21 "WatchBeatsModel" "account" "[J") ∈ GG := GG_i 669 (rfl) (by decide +kernel)
set_option maxRecDepth 100000 in
theorem k_670 : (Cond.fieldLink RX9 25 "WatchBeatsModel" "oldAccount" "[J") ∈ GG := GG_i 670 (rfl) (by decide +kernel)
set_option maxRecDepth 100000 in
theorem k_671 : (Cond.fieldLink RX9 28 "WatchBeatsModel" "aheadAccount" "[J") ∈ GG := GG_i 671 (rfl) (by decide +kernel)
set_option maxRecDepth 100000 in
theorem k_672 : (Cond.fieldLink RX9 86 "WatchBeatsModel" "beats" "I") ∈ GG := GG_i 672 (rfl) (by decide +kernel)
set_option maxRecDepth 100000 in
theorem k_673 : (Cond.fieldLink RX9 90 "WatchBeatsModel" "begun" "I") ∈ GG := GG_i 673 (rfl) (by decide +kernel)
set_option maxRecDepth 100000 in
theorem k_674 : (Cond.fieldLink RX9 31 "WatchBeatsModel" "beatAt" "[I") ∈ GG := GG_i 674 (rfl) (by decide +kernel)
set_option maxRecDepth 100000 in
theorem k_675 : (Cond.fieldLink RX9 108 "WatchBeatsModel" "texts" "I") ∈ GG := GG_i 675 (rfl) (by decide +kernel)
set_option maxRecDepth 100000 in
theorem k_676 : (Cond.fieldLink RX9 34 "WatchBeatsModel" "text" "[I") ∈ GG := GG_i 676 (rfl) (by decide +kernel)
set_option maxRecDepth 100000 in
theorem k_677 : (Cond.fieldLink RX9 111 "WatchBeatsModel" "at" "I") ∈ GG := GG_i 677 (rfl) (by decide +kernel)
set_option maxRecDepth 100000 in
theorem k_678 : (Cond.fieldLink RX9 118 "WatchBeatsModel" "fault" "I") ∈ GG := GG_i 678 (rfl) (by decide +kernel)
set_option maxRecDepth 100000 in
theorem k_679 : (Cond.fieldLink RX9 124 "WatchBeatsModel" "clauses" "I") ∈ GG := GG_i 679 (rfl) (by decide +kernel)
set_option maxRecDepth 100000 in
theorem k_680 : (Cond.fieldLink RX9 37 "WatchBeatsModel" "clause" "[I") ∈ GG := GG_i 680 (rfl) (by decide +kernel)
set_option maxRecDepth 100000 in
theorem k_681 : (Cond.fieldLink RX9 40 "WatchBeatsModel" "number" "[I") ∈ GG := GG_i 681 (rfl) (by decide +kernel)
set_option maxRecDepth 100000 in
theorem k_682 : (Cond.fieldLink RX9 43 "WatchBeatsModel" "sort" "[I") ∈ GG := GG_i 682 (rfl) (by decide +kernel)
set_option maxRecDepth 100000 in
theorem k_683 : (Cond.fieldLink RX9 46 "WatchBeatsModel" "size" "[I") ∈ GG := GG_i 683 (rfl) (by decide +kernel)
set_option maxRecDepth 100000 in
theorem k_684 : (Cond.fieldLink RX9 49 "WatchBeatsModel" "items" "[J") ∈ GG := GG_i 684 (rfl) (by decide +kernel)
set_option maxRecDepth 100000 in
theorem k_685 : (Cond.fieldLink RX9 52 "WatchBeatsModel" "moved" "[J") ∈ GG := GG_i 685 (rfl) (by decide +kernel)
set_option maxRecDepth 100000 in
theorem k_686 : (Cond.laysFinal "WatchBeatsModel" "WatchBeatsModel" "now" "[I") ∈ GG := GG_i 686 (rfl) (by decide +kernel)
set_option maxRecDepth 100000 in
theorem k_688 : (Cond.laysFinal "WatchBeatsModel" "WatchBeatsModel" "old" "[I") ∈ GG := GG_i 688 (rfl) (by decide +kernel)
set_option maxRecDepth 100000 in
theorem k_690 : (Cond.laysFinal "WatchBeatsModel" "WatchBeatsModel" "ahead" "[I") ∈ GG := GG_i 690 (rfl) (by decide +kernel)
set_option maxRecDepth 100000 in
theorem k_692 : (Cond.lays "WatchBeatsModel" "WatchBeatsModel" "imaged" "Z") ∈ GG := GG_i 692 (rfl) (by decide +kernel)
set_option maxRecDepth 100000 in
theorem k_694 : (Cond.laysFinal "WatchBeatsModel" "WatchBeatsModel" "account" "[J") ∈ GG := GG_i 694 (rfl) (by decide +kernel)
set_option maxRecDepth 100000 in
theorem k_696 : (Cond.laysFinal "WatchBeatsModel" "WatchBeatsModel" "oldAccount" "[J") ∈ GG := GG_i 696 (rfl) (by decide +kernel)
set_option maxRecDepth 100000 in
theorem k_698 : (Cond.laysFinal "WatchBeatsModel" "WatchBeatsModel" "aheadAccount" "[J") ∈ GG := GG_i 698 (rfl) (by decide +kernel)
set_option maxRecDepth 100000 in
theorem k_700 : (Cond.lays "WatchBeatsModel" "WatchBeatsModel" "beats" "I") ∈ GG := GG_i 700 (rfl) (by decide +kernel)
set_option maxRecDepth 100000 in
theorem k_702 : (Cond.lays "WatchBeatsModel" "WatchBeatsModel" "begun" "I") ∈ GG := GG_i 702 (rfl) (by decide +kernel)
set_option maxRecDepth 100000 in
theorem k_704 : (Cond.laysFinal "WatchBeatsModel" "WatchBeatsModel" "beatAt" "[I") ∈ GG := GG_i 704 (rfl) (by decide +kernel)
set_option maxRecDepth 100000 in
theorem k_706 : (Cond.lays "WatchBeatsModel" "WatchBeatsModel" "texts" "I") ∈ GG := GG_i 706 (rfl) (by decide +kernel)
set_option maxRecDepth 100000 in
theorem k_708 : (Cond.laysFinal "WatchBeatsModel" "WatchBeatsModel" "text" "[I") ∈ GG := GG_i 708 (rfl) (by decide +kernel)
set_option maxRecDepth 100000 in
theorem k_710 : (Cond.lays "WatchBeatsModel" "WatchBeatsModel" "at" "I") ∈ GG := GG_i 710 (rfl) (by decide +kernel)
set_option maxRecDepth 100000 in
theorem k_712 : (Cond.lays "WatchBeatsModel" "WatchBeatsModel" "fault" "I") ∈ GG := GG_i 712 (rfl) (by decide +kernel)
set_option maxRecDepth 100000 in
theorem k_714 : (Cond.lays "WatchBeatsModel" "WatchBeatsModel" "clauses" "I") ∈ GG := GG_i 714 (rfl) (by decide +kernel)
set_option maxRecDepth 100000 in
theorem k_716 : (Cond.laysFinal "WatchBeatsModel" "WatchBeatsModel" "clause" "[I") ∈ GG := GG_i 716 (rfl) (by decide +kernel)
set_option maxRecDepth 100000 in
theorem k_718 : (Cond.laysFinal "WatchBeatsModel" "WatchBeatsModel" "number" "[I") ∈ GG := GG_i 718 (rfl) (by decide +kernel)
set_option maxRecDepth 100000 in
theorem k_720 : (Cond.laysFinal "WatchBeatsModel" "WatchBeatsModel" "sort" "[I") ∈ GG := GG_i 720 (rfl) (by decide +kernel)
set_option maxRecDepth 100000 in
theorem k_722 : (Cond.laysFinal "WatchBeatsModel" "WatchBeatsModel" "size" "[I") ∈ GG := GG_i 722 (rfl) (by decide +kernel)
set_option maxRecDepth 100000 in
theorem k_724 : (Cond.laysFinal "WatchBeatsModel" "WatchBeatsModel" "items" "[J") ∈ GG := GG_i 724 (rfl) (by decide +kernel)
set_option maxRecDepth 100000 in
theorem k_726 : (Cond.laysFinal "WatchBeatsModel" "WatchBeatsModel" "moved" "[J") ∈ GG := GG_i 726 (rfl) (by decide +kernel)
set_option maxRecDepth 100000 in
theorem k_729 : (Cond.methodLink RL 17 yX9_set) ∈ GG := GG_i 729 (rfl) (by decide +kernel)
set_option maxRecDepth 100000 in
theorem k_730 : (Cond.instanceMethod yX9_set) ∈ GG := GG_i 730 (rfl) (by decide +kernel)
set_option maxRecDepth 100000 in
theorem k_731 : (Cond.selects RX9 yX9_set yX9_set) ∈ GG := GG_i 731 (rfl) (by decide +kernel)
set_option maxRecDepth 100000 in
theorem k_732 : (Cond.code yX9_set cX9_set 6 (some .int)) ∈ GG := GG_i 732 (rfl) (by decide +kernel)
set_option maxRecDepth 100000 in
theorem k_733 : (Cond.methodLink RX9 55 yX9_within) ∈ GG := GG_i 733 (rfl) (by decide +kernel)
set_option maxRecDepth 100000 in
theorem k_734 : (Cond.static yX9_within) ∈ GG := GG_i 734 (rfl) (by decide +kernel)
set_option maxRecDepth 100000 in
theorem k_735 : (Cond.code yX9_within cX9_within 3 (some .boolean)) ∈ GG := GG_i 735 (rfl) (by decide +kernel)
set_option maxRecDepth 100000 in
theorem k_736 : (Cond.methodLink RX9 61 yX9_isSo) ∈ GG := GG_i 736 (rfl) (by decide +kernel)
set_option maxRecDepth 100000 in
theorem k_737 : (Cond.static yX9_isSo) ∈ GG := GG_i 737 (rfl) (by decide +kernel)
set_option maxRecDepth 100000 in
theorem k_738 : (Cond.code yX9_isSo cX9_isSo 2 (some .boolean)) ∈ GG := GG_i 738 (rfl) (by decide +kernel)
set_option maxRecDepth 100000 in
theorem k_739 : (Cond.methodLink RX9 65 yX9_energyNow) ∈ GG := GG_i 739 (rfl) (by decide +kernel)
set_option maxRecDepth 100000 in
theorem k_741 : (Cond.instanceMethod yX9_energyNow) ∈ GG := GG_i 741 (rfl) (by decide +kernel)
set_option maxRecDepth 100000 in
theorem k_742 : (Cond.code yX9_energyNow cX9_energyNow 1 (some .long)) ∈ GG := GG_i 742 (rfl) (by decide +kernel)
set_option maxRecDepth 100000 in
theorem k_743 : (Cond.constantLong RX9 59 (32)) ∈ GG := GG_i 743 (rfl) (by decide +kernel)
set_option maxRecDepth 100000 in
theorem k_744 : (Cond.methodLink RL 22 yX9_told) ∈ GG := GG_i 744 (rfl) (by decide +kernel)
set_option maxRecDepth 100000 in
theorem k_745 : (Cond.instanceMethod yX9_told) ∈ GG := GG_i 745 (rfl) (by decide +kernel)
set_option maxRecDepth 100000 in
theorem k_746 : (Cond.selects RX9 yX9_told yX9_told) ∈ GG := GG_i 746 (rfl) (by decide +kernel)
set_option maxRecDepth 100000 in
theorem k_747 : (Cond.code yX9_told cX9_told 2 (some .int)) ∈ GG := GG_i 747 (rfl) (by decide +kernel)
set_option maxRecDepth 100000 in
theorem k_748 : (Cond.methodLink RL 27 yX9_push) ∈ GG := GG_i 748 (rfl) (by decide +kernel)
set_option maxRecDepth 100000 in
theorem k_749 : (Cond.instanceMethod yX9_push) ∈ GG := GG_i 749 (rfl) (by decide +kernel)
set_option maxRecDepth 100000 in
theorem k_750 : (Cond.selects RX9 yX9_push yX9_push) ∈ GG := GG_i 750 (rfl) (by decide +kernel)
set_option maxRecDepth 100000 in
theorem k_751 : (Cond.code yX9_push cX9_push 5 (some .int)) ∈ GG := GG_i 751 (rfl) (by decide +kernel)
set_option maxRecDepth 100000 in
theorem k_752 : (Cond.constant RX9 69 (99999)) ∈ GG := GG_i 752 (rfl) (by decide +kernel)
set_option maxRecDepth 100000 in
theorem k_753 : (Cond.methodLink RL 31 yX9_pushOf) ∈ GG := GG_i 753 (rfl) (by decide +kernel)
set_option maxRecDepth 100000 in
theorem k_754 : (Cond.instanceMethod yX9_pushOf) ∈ GG := GG_i 754 (rfl) (by decide +kernel)
set_option maxRecDepth 100000 in
theorem k_755 : (Cond.selects RX9 yX9_pushOf yX9_pushOf) ∈ GG := GG_i 755 (rfl) (by decide +kernel)
set_option maxRecDepth 100000 in
theorem k_756 : (Cond.code yX9_pushOf cX9_pushOf 7 (some .int)) ∈ GG := GG_i 756 (rfl) (by decide +kernel)
set_option maxRecDepth 100000 in
theorem k_757 : (Cond.methodLink RL 35 yX9_go) ∈ GG := GG_i 757 (rfl) (by decide +kernel)
set_option maxRecDepth 100000 in
theorem k_758 : (Cond.instanceMethod yX9_go) ∈ GG := GG_i 758 (rfl) (by decide +kernel)
set_option maxRecDepth 100000 in
theorem k_759 : (Cond.selects RX9 yX9_go yX9_go) ∈ GG := GG_i 759 (rfl) (by decide +kernel)
set_option maxRecDepth 100000 in
theorem k_760 : (Cond.code yX9_go cX9_go 2 (some .int)) ∈ GG := GG_i 760 (rfl) (by decide +kernel)
set_option maxRecDepth 100000 in
theorem k_761 : (Cond.methodLink RX9 96 yX9_goes) ∈ GG := GG_i 761 (rfl) (by decide +kernel)
set_option maxRecDepth 100000 in
theorem k_763 : (Cond.instanceMethod yX9_goes) ∈ GG := GG_i 763 (rfl) (by decide +kernel)
set_option maxRecDepth 100000 in
theorem k_764 : (Cond.code yX9_goes cX9_goes 3 none) ∈ GG := GG_i 764 (rfl) (by decide +kernel)
set_option maxRecDepth 100000 in
theorem k_765 : (Cond.methodLink RX9 93 yX9_tick) ∈ GG := GG_i 765 (rfl) (by decide +kernel)
set_option maxRecDepth 100000 in
theorem k_767 : (Cond.instanceMethod yX9_tick) ∈ GG := GG_i 767 (rfl) (by decide +kernel)
set_option maxRecDepth 100000 in
theorem k_768 : (Cond.code yX9_tick cX9_tick 9 none) ∈ GG := GG_i 768 (rfl) (by decide +kernel)
set_option maxRecDepth 100000 in
theorem k_769 : (Cond.methodLink RX9 79 yX9_pushes) ∈ GG := GG_i 769 (rfl) (by decide +kernel)
set_option maxRecDepth 100000 in
theorem k_771 : (Cond.instanceMethod yX9_pushes) ∈ GG := GG_i 771 (rfl) (by decide +kernel)
set_option maxRecDepth 100000 in
theorem k_772 : (Cond.code yX9_pushes cX9_pushes 7 none) ∈ GG := GG_i 772 (rfl) (by decide +kernel)
set_option maxRecDepth 100000 in
theorem k_773 : (Cond.methodLink RX9 70 Lib.Math.min.name) ∈ GG := GG_i 773 (rfl) (by decide +kernel)
set_option maxRecDepth 100000 in
theorem k_774 : (Cond.methodLink RX9 76 Lib.Math.max.name) ∈ GG := GG_i 774 (rfl) (by decide +kernel)
set_option maxRecDepth 100000 in
theorem k_775 : (Cond.methodLink RX9 82 yX9_accounts) ∈ GG := GG_i 775 (rfl) (by decide +kernel)
set_option maxRecDepth 100000 in
theorem k_777 : (Cond.instanceMethod yX9_accounts) ∈ GG := GG_i 777 (rfl) (by decide +kernel)
set_option maxRecDepth 100000 in
theorem k_778 : (Cond.code yX9_accounts cX9_accounts 6 (some .long)) ∈ GG := GG_i 778 (rfl) (by decide +kernel)
set_option maxRecDepth 100000 in
theorem k_779 : (Cond.methodLink RL 39 yX9_wheel) ∈ GG := GG_i 779 (rfl) (by decide +kernel)
set_option maxRecDepth 100000 in
theorem k_780 : (Cond.instanceMethod yX9_wheel) ∈ GG := GG_i 780 (rfl) (by decide +kernel)
set_option maxRecDepth 100000 in
theorem k_781 : (Cond.selects RX9 yX9_wheel yX9_wheel) ∈ GG := GG_i 781 (rfl) (by decide +kernel)
set_option maxRecDepth 100000 in
theorem k_782 : (Cond.code yX9_wheel cX9_wheel 2 (some .int)) ∈ GG := GG_i 782 (rfl) (by decide +kernel)
set_option maxRecDepth 100000 in
theorem k_783 : (Cond.methodLink RL 44 yX9_turns) ∈ GG := GG_i 783 (rfl) (by decide +kernel)
set_option maxRecDepth 100000 in
theorem k_784 : (Cond.instanceMethod yX9_turns) ∈ GG := GG_i 784 (rfl) (by decide +kernel)
set_option maxRecDepth 100000 in
theorem k_785 : (Cond.selects RX9 yX9_turns yX9_turns) ∈ GG := GG_i 785 (rfl) (by decide +kernel)
set_option maxRecDepth 100000 in
theorem k_786 : (Cond.code yX9_turns cX9_turns 6 (some .long)) ∈ GG := GG_i 786 (rfl) (by decide +kernel)
set_option maxRecDepth 100000 in
theorem k_787 : (Cond.constantLong RX9 100 (-9223372036854775808)) ∈ GG := GG_i 787 (rfl) (by decide +kernel)
set_option maxRecDepth 100000 in
theorem k_788 : (Cond.constantLong RX9 102 (2)) ∈ GG := GG_i 788 (rfl) (by decide +kernel)
set_option maxRecDepth 100000 in
theorem k_789 : (Cond.methodLink RX9 104 yX9_lowest) ∈ GG := GG_i 789 (rfl) (by decide +kernel)
set_option maxRecDepth 100000 in
theorem k_790 : (Cond.static yX9_lowest) ∈ GG := GG_i 790 (rfl) (by decide +kernel)
set_option maxRecDepth 100000 in
theorem k_791 : (Cond.code yX9_lowest cX9_lowest 11 (some .long)) ∈ GG := GG_i 791 (rfl) (by decide +kernel)
set_option maxRecDepth 100000 in
theorem k_792 : (Cond.methodLink RL 49 yX9_energy) ∈ GG := GG_i 792 (rfl) (by decide +kernel)
set_option maxRecDepth 100000 in
theorem k_793 : (Cond.instanceMethod yX9_energy) ∈ GG := GG_i 793 (rfl) (by decide +kernel)
set_option maxRecDepth 100000 in
theorem k_794 : (Cond.selects RX9 yX9_energy yX9_energy) ∈ GG := GG_i 794 (rfl) (by decide +kernel)
set_option maxRecDepth 100000 in
theorem k_795 : (Cond.code yX9_energy cX9_energy 2 (some .long)) ∈ GG := GG_i 795 (rfl) (by decide +kernel)
set_option maxRecDepth 100000 in
theorem k_796 : (Cond.methodLink RL 53 yX9_feed) ∈ GG := GG_i 796 (rfl) (by decide +kernel)
set_option maxRecDepth 100000 in
theorem k_797 : (Cond.instanceMethod yX9_feed) ∈ GG := GG_i 797 (rfl) (by decide +kernel)
set_option maxRecDepth 100000 in
theorem k_798 : (Cond.selects RX9 yX9_feed yX9_feed) ∈ GG := GG_i 798 (rfl) (by decide +kernel)
set_option maxRecDepth 100000 in
theorem k_799 : (Cond.code yX9_feed cX9_feed 2 (some .int)) ∈ GG := GG_i 799 (rfl) (by decide +kernel)
set_option maxRecDepth 100000 in
theorem k_800 : (Cond.methodLink RL 58 yX9_read) ∈ GG := GG_i 800 (rfl) (by decide +kernel)
set_option maxRecDepth 100000 in
theorem k_801 : (Cond.instanceMethod yX9_read) ∈ GG := GG_i 801 (rfl) (by decide +kernel)
set_option maxRecDepth 100000 in
theorem k_802 : (Cond.selects RX9 yX9_read yX9_read) ∈ GG := GG_i 802 (rfl) (by decide +kernel)
set_option maxRecDepth 100000 in
theorem k_803 : (Cond.code yX9_read cX9_read 3 (some .int)) ∈ GG := GG_i 803 (rfl) (by decide +kernel)
set_option maxRecDepth 100000 in
theorem k_804 : (Cond.methodLink RX9 136 yX9_reads) ∈ GG := GG_i 804 (rfl) (by decide +kernel)
set_option maxRecDepth 100000 in
theorem k_806 : (Cond.instanceMethod yX9_reads) ∈ GG := GG_i 806 (rfl) (by decide +kernel)
set_option maxRecDepth 100000 in
theorem k_807 : (Cond.code yX9_reads cX9_reads 5 none) ∈ GG := GG_i 807 (rfl) (by decide +kernel)
set_option maxRecDepth 100000 in
theorem k_808 : (Cond.methodLink RX9 114 yX9_letter) ∈ GG := GG_i 808 (rfl) (by decide +kernel)
set_option maxRecDepth 100000 in
theorem k_809 : (Cond.static yX9_letter) ∈ GG := GG_i 809 (rfl) (by decide +kernel)
set_option maxRecDepth 100000 in
theorem k_810 : (Cond.code yX9_letter cX9_letter 1 (some .int)) ∈ GG := GG_i 810 (rfl) (by decide +kernel)
set_option maxRecDepth 100000 in
theorem k_811 : (Cond.methodLink RX9 121 yX9_isFrom) ∈ GG := GG_i 811 (rfl) (by decide +kernel)
set_option maxRecDepth 100000 in
theorem k_813 : (Cond.instanceMethod yX9_isFrom) ∈ GG := GG_i 813 (rfl) (by decide +kernel)
set_option maxRecDepth 100000 in
theorem k_814 : (Cond.code yX9_isFrom cX9_isFrom 3 (some .boolean)) ∈ GG := GG_i 814 (rfl) (by decide +kernel)
set_option maxRecDepth 100000 in
theorem k_815 : (Cond.methodLink RX9 139 yX9_does) ∈ GG := GG_i 815 (rfl) (by decide +kernel)
set_option maxRecDepth 100000 in
theorem k_817 : (Cond.instanceMethod yX9_does) ∈ GG := GG_i 817 (rfl) (by decide +kernel)
set_option maxRecDepth 100000 in
theorem k_818 : (Cond.code yX9_does cX9_does 3 (some .boolean)) ∈ GG := GG_i 818 (rfl) (by decide +kernel)
set_option maxRecDepth 100000 in
theorem k_819 : (Cond.methodLink RX9 127 yX9_set) ∈ GG := GG_i 819 (rfl) (by decide +kernel)
set_option maxRecDepth 100000 in
theorem k_820 : (Cond.methodLink RX9 130 yX9_wheel) ∈ GG := GG_i 820 (rfl) (by decide +kernel)
set_option maxRecDepth 100000 in
theorem k_821 : (Cond.methodLink RX9 133 yX9_go) ∈ GG := GG_i 821 (rfl) (by decide +kernel)
set_option maxRecDepth 100000 in
theorem k_822 : (Cond.methodLink RL 62 yX9_ahead) ∈ GG := GG_i 822 (rfl) (by decide +kernel)
set_option maxRecDepth 100000 in
theorem k_823 : (Cond.instanceMethod yX9_ahead) ∈ GG := GG_i 823 (rfl) (by decide +kernel)
set_option maxRecDepth 100000 in
theorem k_824 : (Cond.selects RX9 yX9_ahead yX9_ahead) ∈ GG := GG_i 824 (rfl) (by decide +kernel)
set_option maxRecDepth 100000 in
theorem k_825 : (Cond.code yX9_ahead cX9_ahead 4 (some .int)) ∈ GG := GG_i 825 (rfl) (by decide +kernel)
set_option maxRecDepth 100000 in
theorem k_826 : (Cond.methodLink RX9 151 yX9_lays) ∈ GG := GG_i 826 (rfl) (by decide +kernel)
set_option maxRecDepth 100000 in
theorem k_828 : (Cond.instanceMethod yX9_lays) ∈ GG := GG_i 828 (rfl) (by decide +kernel)
set_option maxRecDepth 100000 in
theorem k_829 : (Cond.code yX9_lays cX9_lays 1 none) ∈ GG := GG_i 829 (rfl) (by decide +kernel)
set_option maxRecDepth 100000 in
theorem k_830 : (Cond.methodLink RX9 143 yX9_pours) ∈ GG := GG_i 830 (rfl) (by decide +kernel)
set_option maxRecDepth 100000 in
theorem k_831 : (Cond.static yX9_pours) ∈ GG := GG_i 831 (rfl) (by decide +kernel)
set_option maxRecDepth 100000 in
theorem k_832 : (Cond.code yX9_pours cX9_pours 3 none) ∈ GG := GG_i 832 (rfl) (by decide +kernel)
set_option maxRecDepth 100000 in
theorem k_833 : (Cond.methodLink RX9 147 yX9_poursLongs) ∈ GG := GG_i 833 (rfl) (by decide +kernel)
set_option maxRecDepth 100000 in
theorem k_834 : (Cond.static yX9_poursLongs) ∈ GG := GG_i 834 (rfl) (by decide +kernel)
set_option maxRecDepth 100000 in
theorem k_835 : (Cond.code yX9_poursLongs cX9_poursLongs 3 none) ∈ GG := GG_i 835 (rfl) (by decide +kernel)
set_option maxRecDepth 100000 in
theorem k_836 : (Cond.methodLink RX9 154 yX9_back) ∈ GG := GG_i 836 (rfl) (by decide +kernel)
set_option maxRecDepth 100000 in
theorem k_838 : (Cond.instanceMethod yX9_back) ∈ GG := GG_i 838 (rfl) (by decide +kernel)
set_option maxRecDepth 100000 in
theorem k_839 : (Cond.code yX9_back cX9_back 1 none) ∈ GG := GG_i 839 (rfl) (by decide +kernel)
set_option maxRecDepth 100000 in
theorem k_840 : (Cond.methodLink RL 66 yX9_energyAt) ∈ GG := GG_i 840 (rfl) (by decide +kernel)
set_option maxRecDepth 100000 in
theorem k_841 : (Cond.instanceMethod yX9_energyAt) ∈ GG := GG_i 841 (rfl) (by decide +kernel)
set_option maxRecDepth 100000 in
theorem k_842 : (Cond.selects RX9 yX9_energyAt yX9_energyAt) ∈ GG := GG_i 842 (rfl) (by decide +kernel)
set_option maxRecDepth 100000 in
theorem k_843 : (Cond.code yX9_energyAt cX9_energyAt 4 (some .long)) ∈ GG := GG_i 843 (rfl) (by decide +kernel)
set_option maxRecDepth 100000 in
theorem k_844 : (Cond.methodLink RL 70 yX9_heard) ∈ GG := GG_i 844 (rfl) (by decide +kernel)
set_option maxRecDepth 100000 in
theorem k_845 : (Cond.instanceMethod yX9_heard) ∈ GG := GG_i 845 (rfl) (by decide +kernel)
set_option maxRecDepth 100000 in
theorem k_846 : (Cond.selects RX9 yX9_heard yX9_heard) ∈ GG := GG_i 846 (rfl) (by decide +kernel)
set_option maxRecDepth 100000 in
theorem k_847 : (Cond.code yX9_heard cX9_heard 2 (some .int)) ∈ GG := GG_i 847 (rfl) (by decide +kernel)
set_option maxRecDepth 100000 in
theorem k_848 : (Cond.methodLink RX9 161 yX9_hears_) ∈ GG := GG_i 848 (rfl) (by decide +kernel)
set_option maxRecDepth 100000 in
theorem k_850 : (Cond.instanceMethod yX9_hears_) ∈ GG := GG_i 850 (rfl) (by decide +kernel)
set_option maxRecDepth 100000 in
theorem k_851 : (Cond.code yX9_hears_ cX9_hears_ 1 none) ∈ GG := GG_i 851 (rfl) (by decide +kernel)
set_option maxRecDepth 100000 in
theorem k_852 : (Cond.methodLink RX9 157 yX9_hears) ∈ GG := GG_i 852 (rfl) (by decide +kernel)
set_option maxRecDepth 100000 in
theorem k_854 : (Cond.instanceMethod yX9_hears) ∈ GG := GG_i 854 (rfl) (by decide +kernel)
set_option maxRecDepth 100000 in
theorem k_855 : (Cond.code yX9_hears cX9_hears 3 none) ∈ GG := GG_i 855 (rfl) (by decide +kernel)
set_option maxRecDepth 100000 in
theorem k_856 : (Cond.methodLink RL 74 yX9_beat) ∈ GG := GG_i 856 (rfl) (by decide +kernel)
set_option maxRecDepth 100000 in
theorem k_857 : (Cond.instanceMethod yX9_beat) ∈ GG := GG_i 857 (rfl) (by decide +kernel)
set_option maxRecDepth 100000 in
theorem k_858 : (Cond.selects RX9 yX9_beat yX9_beat) ∈ GG := GG_i 858 (rfl) (by decide +kernel)
set_option maxRecDepth 100000 in
theorem k_859 : (Cond.code yX9_beat cX9_beat 2 (some .int)) ∈ GG := GG_i 859 (rfl) (by decide +kernel)
set_option maxRecDepth 100000 in
theorem k_860 : (Cond.methodLink RX9 176 yX9_evenest) ∈ GG := GG_i 860 (rfl) (by decide +kernel)
set_option maxRecDepth 100000 in
theorem k_862 : (Cond.instanceMethod yX9_evenest) ∈ GG := GG_i 862 (rfl) (by decide +kernel)
set_option maxRecDepth 100000 in
theorem k_863 : (Cond.code yX9_evenest cX9_evenest 8 (some .int)) ∈ GG := GG_i 863 (rfl) (by decide +kernel)
set_option maxRecDepth 100000 in
theorem k_864 : (Cond.methodLink RX9 170 yX9_uneven) ∈ GG := GG_i 864 (rfl) (by decide +kernel)
set_option maxRecDepth 100000 in
theorem k_866 : (Cond.instanceMethod yX9_uneven) ∈ GG := GG_i 866 (rfl) (by decide +kernel)
set_option maxRecDepth 100000 in
theorem k_867 : (Cond.code yX9_uneven cX9_uneven 3 (some .int)) ∈ GG := GG_i 867 (rfl) (by decide +kernel)
set_option maxRecDepth 100000 in
theorem k_868 : (Cond.methodLink RX9 163 yX9_gaps) ∈ GG := GG_i 868 (rfl) (by decide +kernel)
set_option maxRecDepth 100000 in
theorem k_870 : (Cond.instanceMethod yX9_gaps) ∈ GG := GG_i 870 (rfl) (by decide +kernel)
set_option maxRecDepth 100000 in
theorem k_871 : (Cond.code yX9_gaps cX9_gaps 1 (some .int)) ∈ GG := GG_i 871 (rfl) (by decide +kernel)
set_option maxRecDepth 100000 in
theorem k_872 : (Cond.methodLink RX9 167 yX9_gapOf) ∈ GG := GG_i 872 (rfl) (by decide +kernel)
set_option maxRecDepth 100000 in
theorem k_874 : (Cond.instanceMethod yX9_gapOf) ∈ GG := GG_i 874 (rfl) (by decide +kernel)
set_option maxRecDepth 100000 in
theorem k_875 : (Cond.code yX9_gapOf cX9_gapOf 2 (some .int)) ∈ GG := GG_i 875 (rfl) (by decide +kernel)
set_option maxRecDepth 100000 in
theorem k_876 : (Cond.methodLink RX9 173 Lib.Math.abs.name) ∈ GG := GG_i 876 (rfl) (by decide +kernel)
set_option maxRecDepth 100000 in
theorem k_877 : (Cond.methodLink RL 78 yX9_gap) ∈ GG := GG_i 877 (rfl) (by decide +kernel)
set_option maxRecDepth 100000 in
theorem k_878 : (Cond.instanceMethod yX9_gap) ∈ GG := GG_i 878 (rfl) (by decide +kernel)
set_option maxRecDepth 100000 in
theorem k_879 : (Cond.selects RX9 yX9_gap yX9_gap) ∈ GG := GG_i 879 (rfl) (by decide +kernel)
set_option maxRecDepth 100000 in
theorem k_880 : (Cond.code yX9_gap cX9_gap 2 (some .int)) ∈ GG := GG_i 880 (rfl) (by decide +kernel)
set_option maxRecDepth 100000 in
theorem k_881 : (Cond.methodLink RL 82 yX9_longest) ∈ GG := GG_i 881 (rfl) (by decide +kernel)
set_option maxRecDepth 100000 in
theorem k_882 : (Cond.instanceMethod yX9_longest) ∈ GG := GG_i 882 (rfl) (by decide +kernel)
set_option maxRecDepth 100000 in
theorem k_883 : (Cond.selects RX9 yX9_longest yX9_longest) ∈ GG := GG_i 883 (rfl) (by decide +kernel)
set_option maxRecDepth 100000 in
theorem k_884 : (Cond.code yX9_longest cX9_longest 6 (some .int)) ∈ GG := GG_i 884 (rfl) (by decide +kernel)
set_option maxRecDepth 100000 in
theorem k_885 : (Cond.methodLink RL 86 yX9_see) ∈ GG := GG_i 885 (rfl) (by decide +kernel)
set_option maxRecDepth 100000 in
theorem k_886 : (Cond.instanceMethod yX9_see) ∈ GG := GG_i 886 (rfl) (by decide +kernel)
set_option maxRecDepth 100000 in
theorem k_887 : (Cond.selects RX9 yX9_see yX9_see) ∈ GG := GG_i 887 (rfl) (by decide +kernel)
set_option maxRecDepth 100000 in
theorem k_888 : (Cond.code yX9_see cX9_see 3 (some .int)) ∈ GG := GG_i 888 (rfl) (by decide +kernel)
set_option maxRecDepth 100000 in
theorem k_889 : (Cond.methodLink RL 90 yX9_fits) ∈ GG := GG_i 889 (rfl) (by decide +kernel)
set_option maxRecDepth 100000 in
theorem k_890 : (Cond.instanceMethod yX9_fits) ∈ GG := GG_i 890 (rfl) (by decide +kernel)
set_option maxRecDepth 100000 in
theorem k_891 : (Cond.selects RX9 yX9_fits yX9_fits) ∈ GG := GG_i 891 (rfl) (by decide +kernel)
set_option maxRecDepth 100000 in
theorem k_892 : (Cond.code yX9_fits cX9_fits 6 (some .int)) ∈ GG := GG_i 892 (rfl) (by decide +kernel)
set_option maxRecDepth 100000 in
theorem k_893 : (Cond.methodLink RX9 179 yX9_isSeen) ∈ GG := GG_i 893 (rfl) (by decide +kernel)
set_option maxRecDepth 100000 in
theorem k_895 : (Cond.instanceMethod yX9_isSeen) ∈ GG := GG_i 895 (rfl) (by decide +kernel)
set_option maxRecDepth 100000 in
theorem k_896 : (Cond.code yX9_isSeen cX9_isSeen 4 (some .boolean)) ∈ GG := GG_i 896 (rfl) (by decide +kernel)
set_option maxRecDepth 100000 in
theorem k_897 : (Cond.methodLink RL 94 yX9_odds) ∈ GG := GG_i 897 (rfl) (by decide +kernel)
set_option maxRecDepth 100000 in
theorem k_898 : (Cond.instanceMethod yX9_odds) ∈ GG := GG_i 898 (rfl) (by decide +kernel)
set_option maxRecDepth 100000 in
theorem k_899 : (Cond.selects RX9 yX9_odds yX9_odds) ∈ GG := GG_i 899 (rfl) (by decide +kernel)
set_option maxRecDepth 100000 in
theorem k_900 : (Cond.code yX9_odds cX9_odds 5 (some .long)) ∈ GG := GG_i 900 (rfl) (by decide +kernel)
set_option maxRecDepth 100000 in
theorem k_901 : (Cond.constantLong RX9 183 (11)) ∈ GG := GG_i 901 (rfl) (by decide +kernel)
set_option maxRecDepth 100000 in
theorem k_902 : (Cond.methodLink RL 98 yX9_mean) ∈ GG := GG_i 902 (rfl) (by decide +kernel)
set_option maxRecDepth 100000 in
theorem k_903 : (Cond.instanceMethod yX9_mean) ∈ GG := GG_i 903 (rfl) (by decide +kernel)
set_option maxRecDepth 100000 in
theorem k_904 : (Cond.selects RX9 yX9_mean yX9_mean) ∈ GG := GG_i 904 (rfl) (by decide +kernel)
set_option maxRecDepth 100000 in
theorem k_905 : (Cond.code yX9_mean cX9_mean 2 (some .long)) ∈ GG := GG_i 905 (rfl) (by decide +kernel)
set_option maxRecDepth 100000 in
theorem k_906 : (Cond.methodLink RL 102 yX9_book) ∈ GG := GG_i 906 (rfl) (by decide +kernel)
set_option maxRecDepth 100000 in
theorem k_907 : (Cond.instanceMethod yX9_book) ∈ GG := GG_i 907 (rfl) (by decide +kernel)
set_option maxRecDepth 100000 in
theorem k_908 : (Cond.selects RX9 yX9_book yX9_book) ∈ GG := GG_i 908 (rfl) (by decide +kernel)
set_option maxRecDepth 100000 in
theorem k_909 : (Cond.code yX9_book cX9_book 3 (some .int)) ∈ GG := GG_i 909 (rfl) (by decide +kernel)
set_option maxRecDepth 100000 in
theorem k_910 : (Cond.methodLink RL 106 yX9_looked) ∈ GG := GG_i 910 (rfl) (by decide +kernel)
set_option maxRecDepth 100000 in
theorem k_911 : (Cond.instanceMethod yX9_looked) ∈ GG := GG_i 911 (rfl) (by decide +kernel)
set_option maxRecDepth 100000 in
theorem k_912 : (Cond.selects RX9 yX9_looked yX9_looked) ∈ GG := GG_i 912 (rfl) (by decide +kernel)
set_option maxRecDepth 100000 in
theorem k_913 : (Cond.code yX9_looked cX9_looked 3 (some .int)) ∈ GG := GG_i 913 (rfl) (by decide +kernel)
set_option maxRecDepth 100000 in
theorem k_914 : (Cond.methodLink RL 110 yX9_judge) ∈ GG := GG_i 914 (rfl) (by decide +kernel)
set_option maxRecDepth 100000 in
theorem k_915 : (Cond.instanceMethod yX9_judge) ∈ GG := GG_i 915 (rfl) (by decide +kernel)
set_option maxRecDepth 100000 in
theorem k_916 : (Cond.selects RX9 yX9_judge yX9_judge) ∈ GG := GG_i 916 (rfl) (by decide +kernel)
set_option maxRecDepth 100000 in
theorem k_917 : (Cond.code yX9_judge cX9_judge 4 (some .int)) ∈ GG := GG_i 917 (rfl) (by decide +kernel)
set_option maxRecDepth 100000 in
theorem k_918 : (Cond.methodLink RX9 185 yX9_isTape) ∈ GG := GG_i 918 (rfl) (by decide +kernel)
set_option maxRecDepth 100000 in
theorem k_919 : (Cond.static yX9_isTape) ∈ GG := GG_i 919 (rfl) (by decide +kernel)
set_option maxRecDepth 100000 in
theorem k_920 : (Cond.code yX9_isTape cX9_isTape 1 (some .boolean)) ∈ GG := GG_i 920 (rfl) (by decide +kernel)
set_option maxRecDepth 100000 in
theorem k_921 : (Cond.methodLink RL 114 yX9_image) ∈ GG := GG_i 921 (rfl) (by decide +kernel)
set_option maxRecDepth 100000 in
theorem k_922 : (Cond.instanceMethod yX9_image) ∈ GG := GG_i 922 (rfl) (by decide +kernel)
set_option maxRecDepth 100000 in
theorem k_923 : (Cond.selects RX9 yX9_image yX9_image) ∈ GG := GG_i 923 (rfl) (by decide +kernel)
set_option maxRecDepth 100000 in
theorem k_924 : (Cond.code yX9_image cX9_image 1 (some .int)) ∈ GG := GG_i 924 (rfl) (by decide +kernel)
set_option maxRecDepth 100000 in
theorem k_925 : (Cond.methodLink RL 118 yX9_undo) ∈ GG := GG_i 925 (rfl) (by decide +kernel)
set_option maxRecDepth 100000 in
theorem k_926 : (Cond.instanceMethod yX9_undo) ∈ GG := GG_i 926 (rfl) (by decide +kernel)
set_option maxRecDepth 100000 in
theorem k_927 : (Cond.selects RX9 yX9_undo yX9_undo) ∈ GG := GG_i 927 (rfl) (by decide +kernel)
set_option maxRecDepth 100000 in
theorem k_928 : (Cond.code yX9_undo cX9_undo 1 (some .int)) ∈ GG := GG_i 928 (rfl) (by decide +kernel)
set_option maxRecDepth 100000 in
theorem k_929 : (Cond.methodLink RL 122 yX9_count) ∈ GG := GG_i 929 (rfl) (by decide +kernel)
set_option maxRecDepth 100000 in
theorem k_930 : (Cond.instanceMethod yX9_count) ∈ GG := GG_i 930 (rfl) (by decide +kernel)
set_option maxRecDepth 100000 in
theorem k_931 : (Cond.selects RX9 yX9_count yX9_count) ∈ GG := GG_i 931 (rfl) (by decide +kernel)
set_option maxRecDepth 100000 in
theorem k_932 : (Cond.code yX9_count cX9_count 2 (some .int)) ∈ GG := GG_i 932 (rfl) (by decide +kernel)
set_option maxRecDepth 100000 in
theorem k_933 : (Cond.methodLink RL 126 yX9_tape) ∈ GG := GG_i 933 (rfl) (by decide +kernel)
set_option maxRecDepth 100000 in
theorem k_934 : (Cond.instanceMethod yX9_tape) ∈ GG := GG_i 934 (rfl) (by decide +kernel)
set_option maxRecDepth 100000 in
theorem k_935 : (Cond.selects RX9 yX9_tape yX9_tape) ∈ GG := GG_i 935 (rfl) (by decide +kernel)
set_option maxRecDepth 100000 in
theorem k_936 : (Cond.code yX9_tape cX9_tape 5 (some .int)) ∈ GG := GG_i 936 (rfl) (by decide +kernel)
set_option maxRecDepth 100000 in
theorem k_937 : (Cond.methodLink RL 133 yX9_item) ∈ GG := GG_i 937 (rfl) (by decide +kernel)
set_option maxRecDepth 100000 in
theorem k_938 : (Cond.instanceMethod yX9_item) ∈ GG := GG_i 938 (rfl) (by decide +kernel)
set_option maxRecDepth 100000 in
theorem k_939 : (Cond.selects RX9 yX9_item yX9_item) ∈ GG := GG_i 939 (rfl) (by decide +kernel)
set_option maxRecDepth 100000 in
theorem k_940 : (Cond.code yX9_item cX9_item 6 (some .int)) ∈ GG := GG_i 940 (rfl) (by decide +kernel)
set_option maxRecDepth 100000 in
theorem k_941 : (Cond.methodLink RL 137 yX9_peek) ∈ GG := GG_i 941 (rfl) (by decide +kernel)
set_option maxRecDepth 100000 in
theorem k_942 : (Cond.instanceMethod yX9_peek) ∈ GG := GG_i 942 (rfl) (by decide +kernel)
set_option maxRecDepth 100000 in
theorem k_943 : (Cond.selects RX9 yX9_peek yX9_peek) ∈ GG := GG_i 943 (rfl) (by decide +kernel)
set_option maxRecDepth 100000 in
theorem k_944 : (Cond.code yX9_peek cX9_peek 3 (some .long)) ∈ GG := GG_i 944 (rfl) (by decide +kernel)
set_option maxRecDepth 100000 in
theorem k_945 : (Cond.methodLink RL 142 yX9_shift) ∈ GG := GG_i 945 (rfl) (by decide +kernel)
set_option maxRecDepth 100000 in
theorem k_946 : (Cond.instanceMethod yX9_shift) ∈ GG := GG_i 946 (rfl) (by decide +kernel)
set_option maxRecDepth 100000 in
theorem k_947 : (Cond.selects RX9 yX9_shift yX9_shift) ∈ GG := GG_i 947 (rfl) (by decide +kernel)
set_option maxRecDepth 100000 in
theorem k_948 : (Cond.code yX9_shift cX9_shift 7 (some .int)) ∈ GG := GG_i 948 (rfl) (by decide +kernel)
set_option maxRecDepth 100000 in
theorem k_949 : (Cond.constantLong RL 127 (4294967295)) ∈ GG := GG_i 949 (rfl) (by decide +kernel)
set_option maxRecDepth 100000 in
theorem k_950 : (Cond.arrayClass .char) ∈ GG := GG_i 950 (rfl) (by decide +kernel)

