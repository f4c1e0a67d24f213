def rmX0_energyNow : Room := { frames := 0, cells := 0, slots := 0, locals := 0 }
theorem hdX0_energyNow : yX0_energyNow.cls ≠ "java/lang/invoke/MethodHandle" ∧ yX0_energyNow.cls ≠ "java/lang/invoke/VarHandle" ∧ (parseMethodDescriptor yX0_energyNow.desc).map (fun d => d.parameters.length) = some 0 := by decide +kernel
def fX0_energyNow (b : Nat → Int32) (se : Int64) (z : Int32) : Option (Int64) :=
  some ((((32 : Int64) * ((b 1).toInt64)) * ((b 1).toInt64)) + ((((b 2).toInt64) * ((b 0).toInt64)) * ((b 0).toInt64)))
set_option maxHeartbeats 8000000 in
set_option maxRecDepth 100000 in
theorem mX0_energyNow (l : Launch) (D : va_G) (cI cJ cB cT : ClassId) (tt : Nat → Nat) (r_ r_P r_A : Nat)  {b : Nat → Int32} {se : Int64} {z : Int32} {out : Int64} (h : fX0_energyNow b se z = some out) :
    jM l yX0_energyNow (.code yX0_energyNow cX0_energyNow 1 (some .long)) rmX0_energyNow D (wTy cI cJ cB cT) tt [.ref r_] [cBal r_ r_P r_A b se z] (some (.long out)) [cBal r_ r_P r_A b se z] := by
  refine jM.of (by decide) (Nat.le_of_ble_eq_true rfl) ?_
  intro p e s m below meth c A X hr
  refine j_sub (lv2 := [(0, .ref r_)]) [0] rfl ?_
  have hR := h
  unfold fX0_energyNow at hR
  refine j_ldc2 X k_320 dX0_energyNow_0 ?_
  refine j_aload_n X (q := 0) dX0_energyNow_3 rfl ?_
  refine j_get X 0 1 hiX0 k_100 dX0_energyNow_4 rfl rfl (by decide) rfl ?_
  refine j_i2l X dX0_energyNow_7 ?_
  refine j_lmul X dX0_energyNow_8 ?_
  refine j_aload_n X (q := 0) dX0_energyNow_9 rfl ?_
  refine j_get X 0 1 hiX0 k_100 dX0_energyNow_10 rfl rfl (by decide) rfl ?_
  refine j_i2l X dX0_energyNow_13 ?_
  refine j_lmul X dX0_energyNow_14 ?_
  refine j_aload_n X (q := 0) dX0_energyNow_15 rfl ?_
  refine j_get X 0 8 hiX0 k_110 dX0_energyNow_16 rfl rfl (by decide) rfl ?_
  refine j_i2l X dX0_energyNow_19 ?_
  refine j_aload_n X (q := 0) dX0_energyNow_20 rfl ?_
  refine j_get X 0 0 hiX0 k_98 dX0_energyNow_21 rfl rfl (by decide) rfl ?_
  refine j_i2l X dX0_energyNow_24 ?_
  refine j_lmul X dX0_energyNow_25 ?_
  refine j_aload_n X (q := 0) dX0_energyNow_26 rfl ?_
  refine j_get X 0 0 hiX0 k_98 dX0_energyNow_27 rfl rfl (by decide) rfl ?_
  refine j_i2l X dX0_energyNow_30 ?_
  refine j_lmul X dX0_energyNow_31 ?_
  refine j_ladd X dX0_energyNow_32 ?_
  have hR := Option.some.inj hR
  exact j_lret X hr dX0_energyNow_33 (by rw [← hR]) rfl

def rmX0_settle : Room := { frames := 1, cells := 0, slots := 0, locals := 20 }
theorem hdX0_settle : yX0_settle.cls ≠ "java/lang/invoke/MethodHandle" ∧ yX0_settle.cls ≠ "java/lang/invoke/VarHandle" ∧ (parseMethodDescriptor yX0_settle.desc).map (fun d => d.parameters.length) = some 1 := by decide +kernel
def fX0_settle (x1 : Int32) (b : Nat → Int32) (se : Int64) (z : Int32) (f_A : Nat → Int64) : Option (Int64 × (Nat → Int64)) :=
  if z = 0 then (some (se, f_A)) else (if x1 < 0 then (some (se, f_A)) else (if x1 < 4 then ((fX0_energyNow b se z).bind fun o_4 =>
  gd (inb x1 4) (gd (inb x1 4) (lt' (vp_updL f_A x1.toNatClampNeg ((f_A x1.toNatClampNeg) + (o_4 - se))) fun f_A_7 =>
  some (o_4, f_A_7)))) else (some (se, f_A))))
set_option maxHeartbeats 8000000 in
set_option maxRecDepth 100000 in
theorem mX0_settle (l : Launch) (D : va_G) (cI cJ cB cT : ClassId) (tt : Nat → Nat) (r_ r_P r_A : Nat) {x1 : Int32} {b : Nat → Int32} {se : Int64} {z : Int32} {f_A : Nat → Int64} {out : Int64 × (Nat → Int64)} (h : fX0_settle x1 b se z f_A = some out) :
    jM l yX0_settle (.code yX0_settle cX0_settle 4 none) rmX0_settle D (wTy cI cJ cB cT) tt [.ref r_, .int x1] [cBal r_ r_P r_A b se z, cJar cJ r_A 4 f_A] (none) [cBal r_ r_P r_A b out.1 z, cJar cJ r_A 4 out.2] := by
  refine jM.of (by decide) (Nat.le_of_ble_eq_true rfl) ?_
  intro p e s m below meth c A X hr
  refine j_sub (lv2 := [(0, .ref r_), (1, .int x1)]) [0, 1] rfl ?_
  have hR := h
  unfold fX0_settle at hR
  refine j_aload_n X (q := 0) dX0_settle_0 rfl ?_
  refine j_get X 0 14 hiX0 k_118 dX0_settle_1 rfl rfl (by decide) rfl ?_
  refine j_if_eq X (tgt := 20) dX0_settle_4 (by decide) (fun c_1 => ?_) (fun c_1 => ?_)
  · replace hR := (if_pos c_1).symm.trans hR
    have hR := Option.some.inj hR
    exact j_vret X hr dX0_settle_20 rfl (by rw [← hR])
  · replace hR := (if_neg c_1).symm.trans hR
    refine j_iload_n X (q := 1) dX0_settle_7 rfl ?_
    refine j_if_lt X (tgt := 20) dX0_settle_8 (by decide) (fun c_2 => ?_) (fun c_2 => ?_)
    · replace hR := (if_pos c_2).symm.trans hR
      have hR := Option.some.inj hR
      exact j_vret X hr dX0_settle_20 rfl (by rw [← hR])
    · replace hR := (if_neg c_2).symm.trans hR
      refine j_iload_n X (q := 1) dX0_settle_11 rfl ?_
      refine j_aload_n X (q := 0) dX0_settle_12 rfl ?_
      refine j_get X 0 12 hiX0 k_115 dX0_settle_13 rfl rfl (by decide) rfl ?_
      refine j_alen X (v := 4) 1 1 dX0_settle_16 rfl rfl rfl ?_
      refine j_icmp_lt X (tgt := 21) dX0_settle_17 (by decide) (fun c_3 => ?_) (fun c_3 => ?_)
      · replace hR := (if_pos c_3).symm.trans hR
        refine j_aload_n X (q := 0) dX0_settle_21 rfl ?_
        obtain ⟨o_4, ho_4, hR⟩ := bd_some hR
        refine j_callV X (As := []) (rest := []) (ws2 := [cBal r_ r_P r_A b se z, cJar cJ r_A 4 f_A]) (q0 := 0) (ci := 0) (mX0_energyNow l D cI cJ cB cT tt r_ r_P r_A ho_4) [0] [.inr 0, .inl 1] k_319 k_316 k_317 k_318 rfl rfl k_40 hdX0_energyNow (by decide) (Nat.le_of_ble_eq_true rfl) dX0_settle_22 (by decide) rfl rfl (by decide) rfl rfl ?_
        refine j_lstore_n X (lv2 := [(2, .long o_4), (0, .ref r_), (1, .int x1)]) dX0_settle_25 (by decide) rfl ?_
        refine j_aload_n X (q := 1) dX0_settle_26 rfl ?_
        refine j_get X 0 12 hiX0 k_115 dX0_settle_27 rfl rfl (by decide) rfl ?_
        refine j_iload_n X (q := 2) dX0_settle_30 rfl ?_
        refine j_dup2_11 X dX0_settle_31 rfl rfl ?_
        obtain ⟨g_5, hR⟩ := gd_some hR
        refine j_lald X 1 1 rfl dX0_settle_32 rfl rfl g_5 ?_
        refine j_lload_n X (q := 0) dX0_settle_33 rfl ?_
        refine j_aload_n X (q := 1) dX0_settle_34 rfl ?_
        refine j_get X 0 13 hiX0 k_117 dX0_settle_35 rfl rfl (by decide) rfl ?_
        refine j_lsub X dX0_settle_38 ?_
        refine j_ladd X dX0_settle_39 ?_
        obtain ⟨g_6, hR⟩ := gd_some hR
        obtain ⟨f_A_7, ef_A_7, hR⟩ := lt_some hR
        refine j_last X (ws2 := [cBal r_ r_P r_A b se z, cJar cJ r_A 4 f_A_7]) 1 1 rfl dX0_settle_40 rfl rfl g_6 ef_A_7 rfl ?_
        refine j_aload_n X (q := 1) dX0_settle_41 rfl ?_
        refine j_lload_n X (q := 0) dX0_settle_42 rfl ?_
        refine j_put X (ws2 := [cBal r_ r_P r_A b o_4 z, cJar cJ r_A 4 f_A_7]) 0 13 hiX0 tyX0_ok nmX0 k_117 dX0_settle_43 rfl rfl (by decide) (by decide) rfl rfl (Nat.le_of_ble_eq_true rfl) rfl ?_
        have hR := Option.some.inj hR
        exact j_vret X hr dX0_settle_46 rfl (by rw [← hR])
      · replace hR := (if_neg c_3).symm.trans hR
        have hR := Option.some.inj hR
        exact j_vret X hr dX0_settle_20 rfl (by rw [← hR])

def rmX0_valueOf : Room := { frames := 0, cells := 0, slots := 0, locals := 0 }
theorem hdX0_valueOf : yX0_valueOf.cls ≠ "java/lang/invoke/MethodHandle" ∧ yX0_valueOf.cls ≠ "java/lang/invoke/VarHandle" ∧ (parseMethodDescriptor yX0_valueOf.desc).map (fun d => d.parameters.length) = some 1 := by decide +kernel
def fX0_valueOf (x1 : Int32) (b : Nat → Int32) (se : Int64) (z : Int32) (k_P : Int32) : Option (Int32) :=
  if x1 = 0 then (some (b 0)) else (if x1 = 1 then (some (b 1)) else (if x1 = 2 then (some (b 2)) else (if x1 = 3 then (some (b 3)) else (if x1 = 4 then (some (b 4)) else (if x1 = 5 then (some (b 5)) else (if x1 = 6 then (some (b 6)) else (if x1 = 7 then (some (b 7)) else (if x1 = 8 then (some (b 8)) else (if x1 = 9 then (some (b 9)) else (if x1 = 10 then (some (b 10)) else (if x1 = 11 then (some k_P) else (some (-1000)))))))))))))
set_option maxHeartbeats 8000000 in
set_option maxRecDepth 100000 in
theorem mX0_valueOf (l : Launch) (D : va_G) (cI cJ cB cT : ClassId) (tt : Nat → Nat) (r_ r_P r_A r_Pt r_Pw r_Ps : Nat) {x1 : Int32} {b : Nat → Int32} {se : Int64} {z : Int32} {k_P : Int32} {out : Int32} (h : fX0_valueOf x1 b se z k_P = some out) :
    jM l yX0_valueOf (.code yX0_valueOf cX0_valueOf 2 (some .int)) rmX0_valueOf D (wTy cI cJ cB cT) tt [.ref r_, .int x1] [cBal r_ r_P r_A b se z, cPus r_P r_Pt r_Pw r_Ps k_P] (some (.int out)) [cBal r_ r_P r_A b se z, cPus r_P r_Pt r_Pw r_Ps k_P] := by
  refine jM.of (by decide) (Nat.le_of_ble_eq_true rfl) ?_
  intro p e s m below meth c A X hr
  refine j_sub (lv2 := [(0, .ref r_), (1, .int x1)]) [0, 1] rfl ?_
  have hR := h
  unfold fX0_valueOf at hR
  refine j_iload_n X (q := 1) dX0_valueOf_0 rfl ?_
  by_cases c_1 : x1 = 0
  · replace hR := (if_pos c_1).symm.trans hR
    refine j_tableIn X (tgt := 64) dX0_valueOf_1 (by rw [c_1]; decide) (by rw [c_1]; decide) (by rw [c_1]; rfl) (by decide) ?_
    refine j_aload_n X (q := 0) dX0_valueOf_64 rfl ?_
    refine j_get X 0 0 hiX0 k_98 dX0_valueOf_65 rfl rfl (by decide) rfl ?_
    have hR := Option.some.inj hR
    exact j_iret X hr dX0_valueOf_68 (by rw [← hR]) rfl
  · replace hR := (if_neg c_1).symm.trans hR
    by_cases c_2 : x1 = 1
    · replace hR := (if_pos c_2).symm.trans hR
      refine j_tableIn X (tgt := 69) dX0_valueOf_1 (by rw [c_2]; decide) (by rw [c_2]; decide) (by rw [c_2]; rfl) (by decide) ?_
      refine j_aload_n X (q := 0) dX0_valueOf_69 rfl ?_
      refine j_get X 0 1 hiX0 k_100 dX0_valueOf_70 rfl rfl (by decide) rfl ?_
      have hR := Option.some.inj hR
      exact j_iret X hr dX0_valueOf_73 (by rw [← hR]) rfl
    · replace hR := (if_neg c_2).symm.trans hR
      by_cases c_3 : x1 = 2
      · replace hR := (if_pos c_3).symm.trans hR
        refine j_tableIn X (tgt := 74) dX0_valueOf_1 (by rw [c_3]; decide) (by rw [c_3]; decide) (by rw [c_3]; rfl) (by decide) ?_
        refine j_aload_n X (q := 0) dX0_valueOf_74 rfl ?_
        refine j_get X 0 8 hiX0 k_110 dX0_valueOf_75 rfl rfl (by decide) rfl ?_
        have hR := Option.some.inj hR
        exact j_iret X hr dX0_valueOf_78 (by rw [← hR]) rfl
      · replace hR := (if_neg c_3).symm.trans hR
        by_cases c_4 : x1 = 3
        · replace hR := (if_pos c_4).symm.trans hR
          refine j_tableIn X (tgt := 79) dX0_valueOf_1 (by rw [c_4]; decide) (by rw [c_4]; decide) (by rw [c_4]; rfl) (by decide) ?_
          refine j_aload_n X (q := 0) dX0_valueOf_79 rfl ?_
          refine j_get X 0 2 hiX0 k_101 dX0_valueOf_80 rfl rfl (by decide) rfl ?_
          have hR := Option.some.inj hR
          exact j_iret X hr dX0_valueOf_83 (by rw [← hR]) rfl
        · replace hR := (if_neg c_4).symm.trans hR
          by_cases c_5 : x1 = 4
          · replace hR := (if_pos c_5).symm.trans hR
            refine j_tableIn X (tgt := 84) dX0_valueOf_1 (by rw [c_5]; decide) (by rw [c_5]; decide) (by rw [c_5]; rfl) (by decide) ?_
            refine j_aload_n X (q := 0) dX0_valueOf_84 rfl ?_
            refine j_get X 0 3 hiX0 k_102 dX0_valueOf_85 rfl rfl (by decide) rfl ?_
            have hR := Option.some.inj hR
            exact j_iret X hr dX0_valueOf_88 (by rw [← hR]) rfl
          · replace hR := (if_neg c_5).symm.trans hR
            by_cases c_6 : x1 = 5
            · replace hR := (if_pos c_6).symm.trans hR
              refine j_tableIn X (tgt := 89) dX0_valueOf_1 (by rw [c_6]; decide) (by rw [c_6]; decide) (by rw [c_6]; rfl) (by decide) ?_
              refine j_aload_n X (q := 0) dX0_valueOf_89 rfl ?_
              refine j_get X 0 9 hiX0 k_111 dX0_valueOf_90 rfl rfl (by decide) rfl ?_
              have hR := Option.some.inj hR
              exact j_iret X hr dX0_valueOf_93 (by rw [← hR]) rfl
            · replace hR := (if_neg c_6).symm.trans hR
              by_cases c_7 : x1 = 6
              · replace hR := (if_pos c_7).symm.trans hR
                refine j_tableIn X (tgt := 94) dX0_valueOf_1 (by rw [c_7]; decide) (by rw [c_7]; decide) (by rw [c_7]; rfl) (by decide) ?_
                refine j_aload_n X (q := 0) dX0_valueOf_94 rfl ?_
                refine j_get X 0 10 hiX0 k_112 dX0_valueOf_95 rfl rfl (by decide) rfl ?_
                have hR := Option.some.inj hR
                exact j_iret X hr dX0_valueOf_98 (by rw [← hR]) rfl
              · replace hR := (if_neg c_7).symm.trans hR
                by_cases c_8 : x1 = 7
                · replace hR := (if_pos c_8).symm.trans hR
                  refine j_tableIn X (tgt := 99) dX0_valueOf_1 (by rw [c_8]; decide) (by rw [c_8]; decide) (by rw [c_8]; rfl) (by decide) ?_
                  refine j_aload_n X (q := 0) dX0_valueOf_99 rfl ?_
                  refine j_get X 0 4 hiX0 k_104 dX0_valueOf_100 rfl rfl (by decide) rfl ?_
                  have hR := Option.some.inj hR
                  exact j_iret X hr dX0_valueOf_103 (by rw [← hR]) rfl
                · replace hR := (if_neg c_8).symm.trans hR
                  by_cases c_9 : x1 = 8
                  · replace hR := (if_pos c_9).symm.trans hR
                    refine j_tableIn X (tgt := 104) dX0_valueOf_1 (by rw [c_9]; decide) (by rw [c_9]; decide) (by rw [c_9]; rfl) (by decide) ?_
                    refine j_aload_n X (q := 0) dX0_valueOf_104 rfl ?_
                    refine j_get X 0 5 hiX0 k_105 dX0_valueOf_105 rfl rfl (by decide) rfl ?_
                    have hR := Option.some.inj hR
                    exact j_iret X hr dX0_valueOf_108 (by rw [← hR]) rfl
                  · replace hR := (if_neg c_9).symm.trans hR
                    by_cases c_10 : x1 = 9
                    · replace hR := (if_pos c_10).symm.trans hR
                      refine j_tableIn X (tgt := 109) dX0_valueOf_1 (by rw [c_10]; decide) (by rw [c_10]; decide) (by rw [c_10]; rfl) (by decide) ?_
                      refine j_aload_n X (q := 0) dX0_valueOf_109 rfl ?_
                      refine j_get X 0 6 hiX0 k_107 dX0_valueOf_110 rfl rfl (by decide) rfl ?_
                      have hR := Option.some.inj hR
                      exact j_iret X hr dX0_valueOf_113 (by rw [← hR]) rfl
                    · replace hR := (if_neg c_10).symm.trans hR
                      by_cases c_11 : x1 = 10
                      · replace hR := (if_pos c_11).symm.trans hR
                        refine j_tableIn X (tgt := 114) dX0_valueOf_1 (by rw [c_11]; decide) (by rw [c_11]; decide) (by rw [c_11]; rfl) (by decide) ?_
                        refine j_aload_n X (q := 0) dX0_valueOf_114 rfl ?_
                        refine j_get X 0 7 hiX0 k_109 dX0_valueOf_115 rfl rfl (by decide) rfl ?_
                        have hR := Option.some.inj hR
                        exact j_iret X hr dX0_valueOf_118 (by rw [← hR]) rfl
                      · replace hR := (if_neg c_11).symm.trans hR
                        by_cases c_12 : x1 = 11
                        · replace hR := (if_pos c_12).symm.trans hR
                          refine j_tableIn X (tgt := 119) dX0_valueOf_1 (by rw [c_12]; decide) (by rw [c_12]; decide) (by rw [c_12]; rfl) (by decide) ?_
                          refine j_aload_n X (q := 0) dX0_valueOf_119 rfl ?_
                          refine j_get X 0 11 hiX0 k_113 dX0_valueOf_120 rfl rfl (by decide) rfl ?_
                          refine j_get X 1 3 hiX2 k_86 dX0_valueOf_123 rfl rfl (by decide) rfl ?_
                          have hR := Option.some.inj hR
                          exact j_iret X hr dX0_valueOf_126 (by rw [← hR]) rfl
                        · replace hR := (if_neg c_12).symm.trans hR
                          refine j_tableOut X (tgt := 127) dX0_valueOf_1 (by have hc_1 := lv_neT c_1 (a := 0) rfl; have hc_2 := lv_neT c_2 (a := 1) rfl; have hc_3 := lv_neT c_3 (a := 2) rfl; have hc_4 := lv_neT c_4 (a := 3) rfl; have hc_5 := lv_neT c_5 (a := 4) rfl; have hc_6 := lv_neT c_6 (a := 5) rfl; have hc_7 := lv_neT c_7 (a := 6) rfl; have hc_8 := lv_neT c_8 (a := 7) rfl; have hc_9 := lv_neT c_9 (a := 8) rfl; have hc_10 := lv_neT c_10 (a := 9) rfl; have hc_11 := lv_neT c_11 (a := 10) rfl; have hc_12 := lv_neT c_12 (a := 11) rfl; omega) (by decide) ?_
                          refine j_sipush X (v := (-1000)) dX0_valueOf_127 (by decide) ?_
                          have hR := Option.some.inj hR
                          exact j_iret X hr dX0_valueOf_130 (by rw [← hR]) rfl

def rmX0_put : Room := { frames := 0, cells := 0, slots := 0, locals := 0 }
theorem hdX0_put : yX0_put.cls ≠ "java/lang/invoke/MethodHandle" ∧ yX0_put.cls ≠ "java/lang/invoke/VarHandle" ∧ (parseMethodDescriptor yX0_put.desc).map (fun d => d.parameters.length) = some 2 := by decide +kernel
def fX0_put (x1 : Int32) (x2 : Int32) (b : Nat → Int32) (se : Int64) (z : Int32) : Option ((Nat → Int32)) :=
  if x1 = 0 then (lt' (upd b 0 x2) fun b_2 =>
  some b_2) else (if x1 = 1 then (lt' (upd b 1 x2) fun b_4 =>
  some b_4) else (if x1 = 2 then (lt' (upd b 2 x2) fun b_6 =>
  some b_6) else (if x1 = 3 then (lt' (upd b 3 x2) fun b_8 =>
  some b_8) else (if x1 = 4 then (lt' (upd b 4 x2) fun b_10 =>
  some b_10) else (if x1 = 5 then (lt' (upd b 5 x2) fun b_12 =>
  some b_12) else (if x1 = 6 then (lt' (upd b 6 x2) fun b_14 =>
  some b_14) else (some b)))))))
set_option maxHeartbeats 8000000 in
set_option maxRecDepth 100000 in
theorem mX0_put (l : Launch) (D : va_G) (cI cJ cB cT : ClassId) (tt : Nat → Nat) (r_ r_P r_A : Nat) {x1 : Int32} {x2 : Int32} {b : Nat → Int32} {se : Int64} {z : Int32} {out : (Nat → Int32)} (h : fX0_put x1 x2 b se z = some out) :
    jM l yX0_put (.code yX0_put cX0_put 3 none) rmX0_put D (wTy cI cJ cB cT) tt [.ref r_, .int x1, .int x2] [cBal r_ r_P r_A b se z] (none) [cBal r_ r_P r_A out se z] := by
  refine jM.of (by decide) (Nat.le_of_ble_eq_true rfl) ?_
  intro p e s m below meth c A X hr
  refine j_sub (lv2 := [(0, .ref r_), (1, .int x1), (2, .int x2)]) [0, 1, 2] rfl ?_
  have hR := h
  unfold fX0_put at hR
  refine j_iload_n X (q := 1) dX0_put_0 rfl ?_
  by_cases c_1 : x1 = 0
  · replace hR := (if_pos c_1).symm.trans hR
    refine j_tableIn X (tgt := 44) dX0_put_1 (by rw [c_1]; decide) (by rw [c_1]; decide) (by rw [c_1]; rfl) (by decide) ?_
    refine j_aload_n X (q := 0) dX0_put_44 rfl ?_
    refine j_iload_n X (q := 2) dX0_put_45 rfl ?_
    obtain ⟨b_2, eb_2, hR⟩ := lt_some hR
    refine j_put X (ws2 := [cBal r_ r_P r_A b_2 se z]) 0 0 hiX0 tyX0_ok nmX0 k_98 dX0_put_46 rfl rfl (by decide) (by decide) rfl rfl (Nat.le_of_ble_eq_true rfl) (by subst eb_2; rfl) ?_
    refine j_goto X (tgt := 100) dX0_put_49 (by decide) ?_
    have hR := Option.some.inj hR
    exact j_vret X hr dX0_put_100 rfl (by rw [← hR])
  · replace hR := (if_neg c_1).symm.trans hR
    by_cases c_3 : x1 = 1
    · replace hR := (if_pos c_3).symm.trans hR
      refine j_tableIn X (tgt := 52) dX0_put_1 (by rw [c_3]; decide) (by rw [c_3]; decide) (by rw [c_3]; rfl) (by decide) ?_
      refine j_aload_n X (q := 0) dX0_put_52 rfl ?_
      refine j_iload_n X (q := 2) dX0_put_53 rfl ?_
      obtain ⟨b_4, eb_4, hR⟩ := lt_some hR
      refine j_put X (ws2 := [cBal r_ r_P r_A b_4 se z]) 0 1 hiX0 tyX0_ok nmX0 k_100 dX0_put_54 rfl rfl (by decide) (by decide) rfl rfl (Nat.le_of_ble_eq_true rfl) (by subst eb_4; rfl) ?_
      refine j_goto X (tgt := 100) dX0_put_57 (by decide) ?_
      have hR := Option.some.inj hR
      exact j_vret X hr dX0_put_100 rfl (by rw [← hR])
    · replace hR := (if_neg c_3).symm.trans hR
      by_cases c_5 : x1 = 2
      · replace hR := (if_pos c_5).symm.trans hR
        refine j_tableIn X (tgt := 60) dX0_put_1 (by rw [c_5]; decide) (by rw [c_5]; decide) (by rw [c_5]; rfl) (by decide) ?_
        refine j_aload_n X (q := 0) dX0_put_60 rfl ?_
        refine j_iload_n X (q := 2) dX0_put_61 rfl ?_
        obtain ⟨b_6, eb_6, hR⟩ := lt_some hR
        refine j_put X (ws2 := [cBal r_ r_P r_A b_6 se z]) 0 8 hiX0 tyX0_ok nmX0 k_110 dX0_put_62 rfl rfl (by decide) (by decide) rfl rfl (Nat.le_of_ble_eq_true rfl) (by subst eb_6; rfl) ?_
        refine j_goto X (tgt := 100) dX0_put_65 (by decide) ?_
        have hR := Option.some.inj hR
        exact j_vret X hr dX0_put_100 rfl (by rw [← hR])
      · replace hR := (if_neg c_5).symm.trans hR
        by_cases c_7 : x1 = 3
        · replace hR := (if_pos c_7).symm.trans hR
          refine j_tableIn X (tgt := 68) dX0_put_1 (by rw [c_7]; decide) (by rw [c_7]; decide) (by rw [c_7]; rfl) (by decide) ?_
          refine j_aload_n X (q := 0) dX0_put_68 rfl ?_
          refine j_iload_n X (q := 2) dX0_put_69 rfl ?_
          obtain ⟨b_8, eb_8, hR⟩ := lt_some hR
          refine j_put X (ws2 := [cBal r_ r_P r_A b_8 se z]) 0 2 hiX0 tyX0_ok nmX0 k_101 dX0_put_70 rfl rfl (by decide) (by decide) rfl rfl (Nat.le_of_ble_eq_true rfl) (by subst eb_8; rfl) ?_
          refine j_goto X (tgt := 100) dX0_put_73 (by decide) ?_
          have hR := Option.some.inj hR
          exact j_vret X hr dX0_put_100 rfl (by rw [← hR])
        · replace hR := (if_neg c_7).symm.trans hR
          by_cases c_9 : x1 = 4
          · replace hR := (if_pos c_9).symm.trans hR
            refine j_tableIn X (tgt := 76) dX0_put_1 (by rw [c_9]; decide) (by rw [c_9]; decide) (by rw [c_9]; rfl) (by decide) ?_
            refine j_aload_n X (q := 0) dX0_put_76 rfl ?_
            refine j_iload_n X (q := 2) dX0_put_77 rfl ?_
            obtain ⟨b_10, eb_10, hR⟩ := lt_some hR
            refine j_put X (ws2 := [cBal r_ r_P r_A b_10 se z]) 0 3 hiX0 tyX0_ok nmX0 k_102 dX0_put_78 rfl rfl (by decide) (by decide) rfl rfl (Nat.le_of_ble_eq_true rfl) (by subst eb_10; rfl) ?_
            refine j_goto X (tgt := 100) dX0_put_81 (by decide) ?_
            have hR := Option.some.inj hR
            exact j_vret X hr dX0_put_100 rfl (by rw [← hR])
          · replace hR := (if_neg c_9).symm.trans hR
            by_cases c_11 : x1 = 5
            · replace hR := (if_pos c_11).symm.trans hR
              refine j_tableIn X (tgt := 84) dX0_put_1 (by rw [c_11]; decide) (by rw [c_11]; decide) (by rw [c_11]; rfl) (by decide) ?_
              refine j_aload_n X (q := 0) dX0_put_84 rfl ?_
              refine j_iload_n X (q := 2) dX0_put_85 rfl ?_
              obtain ⟨b_12, eb_12, hR⟩ := lt_some hR
              refine j_put X (ws2 := [cBal r_ r_P r_A b_12 se z]) 0 9 hiX0 tyX0_ok nmX0 k_111 dX0_put_86 rfl rfl (by decide) (by decide) rfl rfl (Nat.le_of_ble_eq_true rfl) (by subst eb_12; rfl) ?_
              refine j_goto X (tgt := 100) dX0_put_89 (by decide) ?_
              have hR := Option.some.inj hR
              exact j_vret X hr dX0_put_100 rfl (by rw [← hR])
            · replace hR := (if_neg c_11).symm.trans hR
              by_cases c_13 : x1 = 6
              · replace hR := (if_pos c_13).symm.trans hR
                refine j_tableIn X (tgt := 92) dX0_put_1 (by rw [c_13]; decide) (by rw [c_13]; decide) (by rw [c_13]; rfl) (by decide) ?_
                refine j_aload_n X (q := 0) dX0_put_92 rfl ?_
                refine j_iload_n X (q := 2) dX0_put_93 rfl ?_
                obtain ⟨b_14, eb_14, hR⟩ := lt_some hR
                refine j_put X (ws2 := [cBal r_ r_P r_A b_14 se z]) 0 10 hiX0 tyX0_ok nmX0 k_112 dX0_put_94 rfl rfl (by decide) (by decide) rfl rfl (Nat.le_of_ble_eq_true rfl) (by subst eb_14; rfl) ?_
                refine j_goto X (tgt := 100) dX0_put_97 (by decide) ?_
                have hR := Option.some.inj hR
                exact j_vret X hr dX0_put_100 rfl (by rw [← hR])
              · replace hR := (if_neg c_13).symm.trans hR
                refine j_tableOut X (tgt := 100) dX0_put_1 (by have hc_1 := lv_neT c_1 (a := 0) rfl; have hc_3 := lv_neT c_3 (a := 1) rfl; have hc_5 := lv_neT c_5 (a := 2) rfl; have hc_7 := lv_neT c_7 (a := 3) rfl; have hc_9 := lv_neT c_9 (a := 4) rfl; have hc_11 := lv_neT c_11 (a := 5) rfl; have hc_13 := lv_neT c_13 (a := 6) rfl; omega) (by decide) ?_
                have hR := Option.some.inj hR
                exact j_vret X hr dX0_put_100 rfl (by rw [← hR])

def rmX0_putByHand : Room := { frames := 2, cells := 0, slots := 0, locals := 43 }
theorem hdX0_putByHand : yX0_putByHand.cls ≠ "java/lang/invoke/MethodHandle" ∧ yX0_putByHand.cls ≠ "java/lang/invoke/VarHandle" ∧ (parseMethodDescriptor yX0_putByHand.desc).map (fun d => d.parameters.length) = some 2 := by decide +kernel
def fX0_putByHand (x1 : Int32) (x2 : Int32) (b : Nat → Int32) (se : Int64) (z : Int32) (f_A : Nat → Int64) : Option ((Nat → Int32) × Int64 × (Nat → Int64)) :=
  (fX0_put x1 x2 b se z).bind fun o_1 =>
  (fX0_settle 0 o_1 se z f_A).bind fun o_2 =>
  some (o_1, o_2.1, o_2.2)
set_option maxHeartbeats 8000000 in
set_option maxRecDepth 100000 in
theorem mX0_putByHand (l : Launch) (D : va_G) (cI cJ cB cT : ClassId) (tt : Nat → Nat) (r_ r_P r_A : Nat) {x1 : Int32} {x2 : Int32} {b : Nat → Int32} {se : Int64} {z : Int32} {f_A : Nat → Int64} {out : (Nat → Int32) × Int64 × (Nat → Int64)} (h : fX0_putByHand x1 x2 b se z f_A = some out) :
    jM l yX0_putByHand (.code yX0_putByHand cX0_putByHand 3 none) rmX0_putByHand D (wTy cI cJ cB cT) tt [.ref r_, .int x1, .int x2] [cBal r_ r_P r_A b se z, cJar cJ r_A 4 f_A] (none) [cBal r_ r_P r_A out.1 out.2.1 z, cJar cJ r_A 4 out.2.2] := by
  refine jM.of (by decide) (Nat.le_of_ble_eq_true rfl) ?_
  intro p e s m below meth c A X hr
  refine j_sub (lv2 := [(0, .ref r_), (1, .int x1), (2, .int x2)]) [0, 1, 2] rfl ?_
  have hR := h
  unfold fX0_putByHand at hR
  refine j_aload_n X (q := 0) dX0_putByHand_0 rfl ?_
  refine j_iload_n X (q := 1) dX0_putByHand_1 rfl ?_
  refine j_iload_n X (q := 2) dX0_putByHand_2 rfl ?_
  obtain ⟨o_1, ho_1, hR⟩ := bd_some hR
  refine j_callV X (As := [.int x1, .int x2]) (rest := []) (ws2 := [cBal r_ r_P r_A o_1 se z, cJar cJ r_A 4 f_A]) (q0 := 0) (ci := 0) (mX0_put l D cI cJ cB cT tt r_ r_P r_A ho_1) [0] [.inr 0, .inl 1] k_311 k_308 k_309 k_310 rfl rfl k_40 hdX0_put (by decide) (Nat.le_of_ble_eq_true rfl) dX0_putByHand_3 (by decide) rfl rfl (by decide) rfl rfl ?_
  refine j_aload_n X (q := 0) dX0_putByHand_6 rfl ?_
  refine j_iconst X (v := 0) dX0_putByHand_7 (by decide) ?_
  obtain ⟨o_2, ho_2, hR⟩ := bd_some hR
  refine j_callV X (As := [.int 0]) (rest := []) (ws2 := [cBal r_ r_P r_A o_1 o_2.1 z, cJar cJ r_A 4 o_2.2]) (q0 := 0) (ci := 0) (mX0_settle l D cI cJ cB cT tt r_ r_P r_A ho_2) [0, 1] [.inr 0, .inr 1] k_315 k_312 k_314 k_0 rfl rfl k_40 hdX0_settle (by decide) (Nat.le_of_ble_eq_true rfl) dX0_putByHand_8 (by decide) rfl rfl (by decide) rfl rfl ?_
  have hR := Option.some.inj hR
  exact j_vret X hr dX0_putByHand_11 rfl (by rw [← hR])

def rmX0_doPush : Room := { frames := 1, cells := 0, slots := 0, locals := 15 }
theorem hdX0_doPush : yX0_doPush.cls ≠ "java/lang/invoke/MethodHandle" ∧ yX0_doPush.cls ≠ "java/lang/invoke/VarHandle" ∧ (parseMethodDescriptor yX0_doPush.desc).map (fun d => d.parameters.length) = some 2 := by decide +kernel
def fX0_doPush (x1 : Int32) (x2 : Int32) (b : Nat → Int32) (se : Int64) (z : Int32) : Option ((Nat → Int32)) :=
  if x1 = 0 then (lt' (upd b 1 ((b 1) + x2)) fun b_2 =>
  some b_2) else (if x1 = 1 then (lt' ((b 5) + x2) fun u_4 =>
  lt' (if u_4 < 60 then u_4 else 60) fun u_5 =>
  lt' (upd b 5 (if (0 : Int32) < u_5 then u_5 else 0)) fun b_6 =>
  some b_6) else (if x1 = 2 then (lt' (upd b 4 x2) fun b_8 =>
  some b_8) else (if x1 = 3 then (lt' (upd b 3 x2) fun b_10 =>
  some b_10) else (some b))))
set_option maxHeartbeats 8000000 in
set_option maxRecDepth 100000 in
theorem mX0_doPush (l : Launch) (D : va_G) (cI cJ cB cT : ClassId) (tt : Nat → Nat) (r_ r_P r_A : Nat) {x1 : Int32} {x2 : Int32} {b : Nat → Int32} {se : Int64} {z : Int32} {out : (Nat → Int32)} (h : fX0_doPush x1 x2 b se z = some out) :
    jM l yX0_doPush (.code yX0_doPush cX0_doPush 3 none) rmX0_doPush D (wTy cI cJ cB cT) tt [.ref r_, .int x1, .int x2] [cBal r_ r_P r_A b se z] (none) [cBal r_ r_P r_A out se z] := by
  refine jM.of (by decide) (Nat.le_of_ble_eq_true rfl) ?_
  intro p e s m below meth c A X hr
  refine j_sub (lv2 := [(0, .ref r_), (1, .int x1), (2, .int x2)]) [0, 1, 2] rfl ?_
  have hR := h
  unfold fX0_doPush at hR
  refine j_iload_n X (q := 1) dX0_doPush_0 rfl ?_
  by_cases c_1 : x1 = 0
  · replace hR := (if_pos c_1).symm.trans hR
    refine j_tableIn X (tgt := 32) dX0_doPush_1 (by rw [c_1]; decide) (by rw [c_1]; decide) (by rw [c_1]; rfl) (by decide) ?_
    refine j_aload_n X (q := 0) dX0_doPush_32 rfl ?_
    refine j_dup X dX0_doPush_33 rfl ?_
    refine j_get X 0 1 hiX0 k_100 dX0_doPush_34 rfl rfl (by decide) rfl ?_
    refine j_iload_n X (q := 2) dX0_doPush_37 rfl ?_
    refine j_iadd X dX0_doPush_38 ?_
    obtain ⟨b_2, eb_2, hR⟩ := lt_some hR
    refine j_put X (ws2 := [cBal r_ r_P r_A b_2 se z]) 0 1 hiX0 tyX0_ok nmX0 k_100 dX0_doPush_39 rfl rfl (by decide) (by decide) rfl rfl (Nat.le_of_ble_eq_true rfl) (by subst eb_2; rfl) ?_
    refine j_goto X (tgt := 83) dX0_doPush_42 (by decide) ?_
    have hR := Option.some.inj hR
    exact j_vret X hr dX0_doPush_83 rfl (by rw [← hR])
  · replace hR := (if_neg c_1).symm.trans hR
    by_cases c_3 : x1 = 1
    · replace hR := (if_pos c_3).symm.trans hR
      refine j_tableIn X (tgt := 45) dX0_doPush_1 (by rw [c_3]; decide) (by rw [c_3]; decide) (by rw [c_3]; rfl) (by decide) ?_
      refine j_aload_n X (q := 0) dX0_doPush_45 rfl ?_
      refine j_iconst X (v := 0) dX0_doPush_46 (by decide) ?_
      refine j_bipush X (v := 60) dX0_doPush_47 (by decide) ?_
      refine j_aload_n X (q := 0) dX0_doPush_49 rfl ?_
      refine j_get X 0 9 hiX0 k_111 dX0_doPush_50 rfl rfl (by decide) rfl ?_
      refine j_iload_n X (q := 2) dX0_doPush_53 rfl ?_
      refine j_iadd X dX0_doPush_54 ?_
      obtain ⟨u_4, eu_4, hR⟩ := lt_some hR
      refine j_eq (congrArg (fun z => Value.int z :: _) eu_4) rfl ?_
      refine j_mmin X k_361 k_362 k_48 k_363 ⟨by decide, Nat.le_of_ble_eq_true rfl, Nat.zero_le _, Nat.zero_le _⟩ dX0_doPush_55 ?_
      obtain ⟨u_5, eu_5, hR⟩ := lt_some hR
      refine j_eq (congrArg (fun z => Value.int z :: _) eu_5) rfl ?_
      refine j_mmax X k_364 k_365 k_48 k_366 ⟨by decide, Nat.le_of_ble_eq_true rfl, Nat.zero_le _, Nat.zero_le _⟩ dX0_doPush_58 ?_
      obtain ⟨b_6, eb_6, hR⟩ := lt_some hR
      refine j_put X (ws2 := [cBal r_ r_P r_A b_6 se z]) 0 9 hiX0 tyX0_ok nmX0 k_111 dX0_doPush_61 rfl rfl (by decide) (by decide) rfl rfl (Nat.le_of_ble_eq_true rfl) (by subst eb_6; rfl) ?_
      refine j_goto X (tgt := 83) dX0_doPush_64 (by decide) ?_
      have hR := Option.some.inj hR
      exact j_vret X hr dX0_doPush_83 rfl (by rw [← hR])
    · replace hR := (if_neg c_3).symm.trans hR
      by_cases c_7 : x1 = 2
      · replace hR := (if_pos c_7).symm.trans hR
        refine j_tableIn X (tgt := 67) dX0_doPush_1 (by rw [c_7]; decide) (by rw [c_7]; decide) (by rw [c_7]; rfl) (by decide) ?_
        refine j_aload_n X (q := 0) dX0_doPush_67 rfl ?_
        refine j_iload_n X (q := 2) dX0_doPush_68 rfl ?_
        obtain ⟨b_8, eb_8, hR⟩ := lt_some hR
        refine j_put X (ws2 := [cBal r_ r_P r_A b_8 se z]) 0 3 hiX0 tyX0_ok nmX0 k_102 dX0_doPush_69 rfl rfl (by decide) (by decide) rfl rfl (Nat.le_of_ble_eq_true rfl) (by subst eb_8; rfl) ?_
        refine j_goto X (tgt := 83) dX0_doPush_72 (by decide) ?_
        have hR := Option.some.inj hR
        exact j_vret X hr dX0_doPush_83 rfl (by rw [← hR])
      · replace hR := (if_neg c_7).symm.trans hR
        by_cases c_9 : x1 = 3
        · replace hR := (if_pos c_9).symm.trans hR
          refine j_tableIn X (tgt := 75) dX0_doPush_1 (by rw [c_9]; decide) (by rw [c_9]; decide) (by rw [c_9]; rfl) (by decide) ?_
          refine j_aload_n X (q := 0) dX0_doPush_75 rfl ?_
          refine j_iload_n X (q := 2) dX0_doPush_76 rfl ?_
          obtain ⟨b_10, eb_10, hR⟩ := lt_some hR
          refine j_put X (ws2 := [cBal r_ r_P r_A b_10 se z]) 0 2 hiX0 tyX0_ok nmX0 k_101 dX0_doPush_77 rfl rfl (by decide) (by decide) rfl rfl (Nat.le_of_ble_eq_true rfl) (by subst eb_10; rfl) ?_
          refine j_goto X (tgt := 83) dX0_doPush_80 (by decide) ?_
          have hR := Option.some.inj hR
          exact j_vret X hr dX0_doPush_83 rfl (by rw [← hR])
        · replace hR := (if_neg c_9).symm.trans hR
          refine j_tableOut X (tgt := 83) dX0_doPush_1 (by have hc_1 := lv_neT c_1 (a := 0) rfl; have hc_3 := lv_neT c_3 (a := 1) rfl; have hc_7 := lv_neT c_7 (a := 2) rfl; have hc_9 := lv_neT c_9 (a := 3) rfl; omega) (by decide) ?_
          have hR := Option.some.inj hR
          exact j_vret X hr dX0_doPush_83 rfl (by rw [← hR])

def rmX0_beDragged : Room := { frames := 1, cells := 0, slots := 0, locals := 14 }
theorem hdX0_beDragged : yX0_beDragged.cls ≠ "java/lang/invoke/MethodHandle" ∧ yX0_beDragged.cls ≠ "java/lang/invoke/VarHandle" ∧ (parseMethodDescriptor yX0_beDragged.desc).map (fun d => d.parameters.length) = some 0 := by decide +kernel
def fX0_beDragged (b : Nat → Int32) (se : Int64) (z : Int32) : Option ((Nat → Int32)) :=
  if (b 1) ≤ 0 then (lt' ((b 1) + (b 3)) fun u_2 =>
  lt' (upd b 1 (if u_2 < 0 then u_2 else 0)) fun b_3 =>
  some b_3) else (lt' ((b 1) - (b 3)) fun u_4 =>
  lt' (upd b 1 (if (0 : Int32) < u_4 then u_4 else 0)) fun b_5 =>
  some b_5)
set_option maxHeartbeats 8000000 in
set_option maxRecDepth 100000 in
theorem mX0_beDragged (l : Launch) (D : va_G) (cI cJ cB cT : ClassId) (tt : Nat → Nat) (r_ r_P r_A : Nat)  {b : Nat → Int32} {se : Int64} {z : Int32} {out : (Nat → Int32)} (h : fX0_beDragged b se z = some out) :
    jM l yX0_beDragged (.code yX0_beDragged cX0_beDragged 1 none) rmX0_beDragged D (wTy cI cJ cB cT) tt [.ref r_] [cBal r_ r_P r_A b se z] (none) [cBal r_ r_P r_A out se z] := by
  refine jM.of (by decide) (Nat.le_of_ble_eq_true rfl) ?_
  intro p e s m below meth c A X hr
  refine j_sub (lv2 := [(0, .ref r_)]) [0] rfl ?_
  have hR := h
  unfold fX0_beDragged at hR
  refine j_aload_n X (q := 0) dX0_beDragged_0 rfl ?_
  refine j_get X 0 1 hiX0 k_100 dX0_beDragged_1 rfl rfl (by decide) rfl ?_
  refine j_if_le X (tgt := 27) dX0_beDragged_4 (by decide) (fun c_1 => ?_) (fun c_1 => ?_)
  · replace hR := (if_pos c_1).symm.trans hR
    refine j_aload_n X (q := 0) dX0_beDragged_27 rfl ?_
    refine j_iconst X (v := 0) dX0_beDragged_28 (by decide) ?_
    refine j_aload_n X (q := 0) dX0_beDragged_29 rfl ?_
    refine j_get X 0 1 hiX0 k_100 dX0_beDragged_30 rfl rfl (by decide) rfl ?_
    refine j_aload_n X (q := 0) dX0_beDragged_33 rfl ?_
    refine j_get X 0 2 hiX0 k_101 dX0_beDragged_34 rfl rfl (by decide) rfl ?_
    refine j_iadd X dX0_beDragged_37 ?_
    obtain ⟨u_2, eu_2, hR⟩ := lt_some hR
    refine j_eq (congrArg (fun z => Value.int z :: _) eu_2) rfl ?_
    refine j_mmin X k_361 k_362 k_48 k_363 ⟨by decide, Nat.le_of_ble_eq_true rfl, Nat.zero_le _, Nat.zero_le _⟩ dX0_beDragged_38 ?_
    obtain ⟨b_3, eb_3, hR⟩ := lt_some hR
    refine j_put X (ws2 := [cBal r_ r_P r_A b_3 se z]) 0 1 hiX0 tyX0_ok nmX0 k_100 dX0_beDragged_41 rfl rfl (by decide) (by decide) rfl rfl (Nat.le_of_ble_eq_true rfl) (by subst eb_3; rfl) ?_
    have hR := Option.some.inj hR
    exact j_vret X hr dX0_beDragged_44 rfl (by rw [← hR])
  · replace hR := (if_neg c_1).symm.trans hR
    refine j_aload_n X (q := 0) dX0_beDragged_7 rfl ?_
    refine j_iconst X (v := 0) dX0_beDragged_8 (by decide) ?_
    refine j_aload_n X (q := 0) dX0_beDragged_9 rfl ?_
    refine j_get X 0 1 hiX0 k_100 dX0_beDragged_10 rfl rfl (by decide) rfl ?_
    refine j_aload_n X (q := 0) dX0_beDragged_13 rfl ?_
    refine j_get X 0 2 hiX0 k_101 dX0_beDragged_14 rfl rfl (by decide) rfl ?_
    refine j_isub X dX0_beDragged_17 ?_
    obtain ⟨u_4, eu_4, hR⟩ := lt_some hR
    refine j_eq (congrArg (fun z => Value.int z :: _) eu_4) rfl ?_
    refine j_mmax X k_364 k_365 k_48 k_366 ⟨by decide, Nat.le_of_ble_eq_true rfl, Nat.zero_le _, Nat.zero_le _⟩ dX0_beDragged_18 ?_
    obtain ⟨b_5, eb_5, hR⟩ := lt_some hR
    refine j_put X (ws2 := [cBal r_ r_P r_A b_5 se z]) 0 1 hiX0 tyX0_ok nmX0 k_100 dX0_beDragged_21 rfl rfl (by decide) (by decide) rfl rfl (Nat.le_of_ble_eq_true rfl) (by subst eb_5; rfl) ?_
    refine j_goto X (tgt := 44) dX0_beDragged_24 (by decide) ?_
    have hR := Option.some.inj hR
    exact j_vret X hr dX0_beDragged_44 rfl (by rw [← hR])

def rmX0_swing : Room := { frames := 0, cells := 0, slots := 0, locals := 0 }
theorem hdX0_swing : yX0_swing.cls ≠ "java/lang/invoke/MethodHandle" ∧ yX0_swing.cls ≠ "java/lang/invoke/VarHandle" ∧ (parseMethodDescriptor yX0_swing.desc).map (fun d => d.parameters.length) = some 0 := by decide +kernel
def fX0_swing_50 (se : Int64) (z : Int32) : Int32 → (Nat → Int32) → Option ((Nat → Int32)) := fun y0 b =>
    lt' (upd b 0 y0) fun b_6 =>
  lt' (upd b_6 1 0) fun b_7 =>
  lt' (upd b_7 10 ((b_7 10) + 1)) fun b_8 =>
  some b_8
def fX0_swing (b : Nat → Int32) (se : Int64) (z : Int32) : Option ((Nat → Int32)) :=
  lt' (upd b 0 ((b 0) + (b 1))) fun b_1 =>
  if (300 : Int32) < (b_1 0) then (if (b_1 0) ≤ 0 then (fX0_swing_50 se z (-300) b_1) else (fX0_swing_50 se z 300 b_1)) else (if ((-300) : Int32) ≤ (b_1 0) then (some b_1) else (if (b_1 0) ≤ 0 then (fX0_swing_50 se z (-300) b_1) else (fX0_swing_50 se z 300 b_1)))
set_option maxHeartbeats 8000000 in
set_option maxRecDepth 100000 in
theorem mX0_swing (l : Launch) (D : va_G) (cI cJ cB cT : ClassId) (tt : Nat → Nat) (r_ r_P r_A : Nat)  {b : Nat → Int32} {se : Int64} {z : Int32} {out : (Nat → Int32)} (h : fX0_swing b se z = some out) :
    jM l yX0_swing (.code yX0_swing cX0_swing 1 none) rmX0_swing D (wTy cI cJ cB cT) tt [.ref r_] [cBal r_ r_P r_A b se z] (none) [cBal r_ r_P r_A out se z] := by
  refine jM.of (by decide) (Nat.le_of_ble_eq_true rfl) ?_
  intro p e s m below meth c A X hr
  have L_50 : ∀ (y0 : Int32) (b : Nat → Int32), fX0_swing_50 se z  y0 b = some out → jW p l e rmX0_swing s m ([.ref r_] : List Value).toArray below meth c D A 1 (MQ below (jQ D (none) [cBal r_ r_P r_A out se z] A) ([.ref r_] : List Value).toArray s 0 0 A) 0 0 50 [(0, .ref r_)] [.int y0, .ref r_] [cBal r_ r_P r_A b se z] := by
    intro  y0 b hR
    unfold fX0_swing_50 at hR
    obtain ⟨b_6, eb_6, hR⟩ := lt_some hR
    refine j_put X (ws2 := [cBal r_ r_P r_A b_6 se z]) 0 0 hiX0 tyX0_ok nmX0 k_98 dX0_swing_50 rfl rfl (by decide) (by decide) rfl rfl (Nat.le_of_ble_eq_true rfl) (by subst eb_6; rfl) ?_
    refine j_aload_n X (q := 0) dX0_swing_53 rfl ?_
    refine j_iconst X (v := 0) dX0_swing_54 (by decide) ?_
    obtain ⟨b_7, eb_7, hR⟩ := lt_some hR
    refine j_put X (ws2 := [cBal r_ r_P r_A b_7 se z]) 0 1 hiX0 tyX0_ok nmX0 k_100 dX0_swing_55 rfl rfl (by decide) (by decide) rfl rfl (Nat.le_of_ble_eq_true rfl) (by subst eb_7; rfl) ?_
    refine j_aload_n X (q := 0) dX0_swing_58 rfl ?_
    refine j_dup X dX0_swing_59 rfl ?_
    refine j_get X 0 7 hiX0 k_109 dX0_swing_60 rfl rfl (by decide) rfl ?_
    refine j_iconst X (v := 1) dX0_swing_63 (by decide) ?_
    refine j_iadd X dX0_swing_64 ?_
    obtain ⟨b_8, eb_8, hR⟩ := lt_some hR
    refine j_put X (ws2 := [cBal r_ r_P r_A b_8 se z]) 0 7 hiX0 tyX0_ok nmX0 k_109 dX0_swing_65 rfl rfl (by decide) (by decide) rfl rfl (Nat.le_of_ble_eq_true rfl) (by subst eb_8; rfl) ?_
    have hR := Option.some.inj hR
    exact j_vret X hr dX0_swing_68 rfl (by rw [← hR])
  refine j_sub (lv2 := [(0, .ref r_)]) [0] rfl ?_
  have hR := h
  unfold fX0_swing at hR
  refine j_aload_n X (q := 0) dX0_swing_0 rfl ?_
  refine j_dup X dX0_swing_1 rfl ?_
  refine j_get X 0 0 hiX0 k_98 dX0_swing_2 rfl rfl (by decide) rfl ?_
  refine j_aload_n X (q := 0) dX0_swing_5 rfl ?_
  refine j_get X 0 1 hiX0 k_100 dX0_swing_6 rfl rfl (by decide) rfl ?_
  refine j_iadd X dX0_swing_9 ?_
  obtain ⟨b_1, eb_1, hR⟩ := lt_some hR
  refine j_put X (ws2 := [cBal r_ r_P r_A b_1 se z]) 0 0 hiX0 tyX0_ok nmX0 k_98 dX0_swing_10 rfl rfl (by decide) (by decide) rfl rfl (Nat.le_of_ble_eq_true rfl) (by subst eb_1; rfl) ?_
  refine j_aload_n X (q := 0) dX0_swing_13 rfl ?_
  refine j_get X 0 0 hiX0 k_98 dX0_swing_14 rfl rfl (by decide) rfl ?_
  refine j_sipush X (v := 300) dX0_swing_17 (by decide) ?_
  refine j_icmp_gt X (tgt := 33) dX0_swing_20 (by decide) (fun c_2 => ?_) (fun c_2 => ?_)
  · replace hR := (if_pos c_2).symm.trans hR
    refine j_aload_n X (q := 0) dX0_swing_33 rfl ?_
    refine j_aload_n X (q := 0) dX0_swing_34 rfl ?_
    refine j_get X 0 0 hiX0 k_98 dX0_swing_35 rfl rfl (by decide) rfl ?_
    refine j_if_le X (tgt := 47) dX0_swing_38 (by decide) (fun c_3 => ?_) (fun c_3 => ?_)
    · replace hR := (if_pos c_3).symm.trans hR
      refine j_sipush X (v := (-300)) dX0_swing_47 (by decide) ?_
      exact L_50 _ _ hR
    · replace hR := (if_neg c_3).symm.trans hR
      refine j_sipush X (v := 300) dX0_swing_41 (by decide) ?_
      refine j_goto X (tgt := 50) dX0_swing_44 (by decide) ?_
      exact L_50 _ _ hR
  · replace hR := (if_neg c_2).symm.trans hR
    refine j_aload_n X (q := 0) dX0_swing_23 rfl ?_
    refine j_get X 0 0 hiX0 k_98 dX0_swing_24 rfl rfl (by decide) rfl ?_
    refine j_sipush X (v := (-300)) dX0_swing_27 (by decide) ?_
    refine j_icmp_ge X (tgt := 68) dX0_swing_30 (by decide) (fun c_4 => ?_) (fun c_4 => ?_)
    · replace hR := (if_pos c_4).symm.trans hR
      have hR := Option.some.inj hR
      exact j_vret X hr dX0_swing_68 rfl (by rw [← hR])
    · replace hR := (if_neg c_4).symm.trans hR
      refine j_aload_n X (q := 0) dX0_swing_33 rfl ?_
      refine j_aload_n X (q := 0) dX0_swing_34 rfl ?_
      refine j_get X 0 0 hiX0 k_98 dX0_swing_35 rfl rfl (by decide) rfl ?_
      refine j_if_le X (tgt := 47) dX0_swing_38 (by decide) (fun c_5 => ?_) (fun c_5 => ?_)
      · replace hR := (if_pos c_5).symm.trans hR
        refine j_sipush X (v := (-300)) dX0_swing_47 (by decide) ?_
        exact L_50 _ _ hR
      · replace hR := (if_neg c_5).symm.trans hR
        refine j_sipush X (v := 300) dX0_swing_41 (by decide) ?_
        refine j_goto X (tgt := 50) dX0_swing_44 (by decide) ?_
        exact L_50 _ _ hR

def rmX0_isLetGo : Room := { frames := 0, cells := 0, slots := 0, locals := 0 }
theorem hdX0_isLetGo : yX0_isLetGo.cls ≠ "java/lang/invoke/MethodHandle" ∧ yX0_isLetGo.cls ≠ "java/lang/invoke/VarHandle" ∧ (parseMethodDescriptor yX0_isLetGo.desc).map (fun d => d.parameters.length) = some 1 := by decide +kernel
def fX0_isLetGo (x1 : Int32) (b : Nat → Int32) (se : Int64) (z : Int32) : Option (Int32) :=
  if (0 : Int32) < (b 5) then (if (b 7) = 0 then (if (b 4) < x1 then (some 0) else (if (b 0) ≤ (b 4) then (some 0) else (some 1))) else (if x1 < (b 4) then (some 0) else (if (b 4) ≤ (b 0) then (some 0) else (some 1)))) else (some 0)
set_option maxHeartbeats 8000000 in
set_option maxRecDepth 100000 in
theorem mX0_isLetGo (l : Launch) (D : va_G) (cI cJ cB cT : ClassId) (tt : Nat → Nat) (r_ r_P r_A : Nat) {x1 : Int32} {b : Nat → Int32} {se : Int64} {z : Int32} {out : Int32} (h : fX0_isLetGo x1 b se z = some out) :
    jM l yX0_isLetGo (.code yX0_isLetGo cX0_isLetGo 2 (some .boolean)) rmX0_isLetGo D (wTy cI cJ cB cT) tt [.ref r_, .int x1] [cBal r_ r_P r_A b se z] (some (.int out)) [cBal r_ r_P r_A b se z] := by
  refine jM.of (by decide) (Nat.le_of_ble_eq_true rfl) ?_
  intro p e s m below meth c A X hr
  refine j_sub (lv2 := [(0, .ref r_), (1, .int x1)]) [0, 1] rfl ?_
  have hR := h
  unfold fX0_isLetGo at hR
  refine j_aload_n X (q := 0) dX0_isLetGo_0 rfl ?_
  refine j_get X 0 9 hiX0 k_111 dX0_isLetGo_1 rfl rfl (by decide) rfl ?_
  refine j_if_gt X (tgt := 9) dX0_isLetGo_4 (by decide) (fun c_1 => ?_) (fun c_1 => ?_)
  · replace hR := (if_pos c_1).symm.trans hR
    refine j_aload_n X (q := 0) dX0_isLetGo_9 rfl ?_
    refine j_get X 0 4 hiX0 k_104 dX0_isLetGo_10 rfl rfl (by decide) rfl ?_
    refine j_if_ne X (tgt := 43) dX0_isLetGo_13 (by decide) (fun c_2 => ?_) (fun c_2 => ?_)
    · replace hR := (if_neg c_2).symm.trans hR
      refine j_iload_n X (q := 1) dX0_isLetGo_43 rfl ?_
      refine j_aload_n X (q := 0) dX0_isLetGo_44 rfl ?_
      refine j_get X 0 3 hiX0 k_102 dX0_isLetGo_45 rfl rfl (by decide) rfl ?_
      refine j_icmp_lt X (tgt := 66) dX0_isLetGo_48 (by decide) (fun c_3 => ?_) (fun c_3 => ?_)
      · replace hR := (if_pos c_3).symm.trans hR
        refine j_iconst X (v := 0) dX0_isLetGo_66 (by decide) ?_
        have hR := Option.some.inj hR
        exact j_zret X hr rfl dX0_isLetGo_67 (by rw [← hR]) rfl
      · replace hR := (if_neg c_3).symm.trans hR
        refine j_aload_n X (q := 0) dX0_isLetGo_51 rfl ?_
        refine j_get X 0 0 hiX0 k_98 dX0_isLetGo_52 rfl rfl (by decide) rfl ?_
        refine j_aload_n X (q := 0) dX0_isLetGo_55 rfl ?_
        refine j_get X 0 3 hiX0 k_102 dX0_isLetGo_56 rfl rfl (by decide) rfl ?_
        refine j_icmp_ge X (tgt := 66) dX0_isLetGo_59 (by decide) (fun c_4 => ?_) (fun c_4 => ?_)
        · replace hR := (if_pos c_4).symm.trans hR
          refine j_iconst X (v := 0) dX0_isLetGo_66 (by decide) ?_
          have hR := Option.some.inj hR
          exact j_zret X hr rfl dX0_isLetGo_67 (by rw [← hR]) rfl
        · replace hR := (if_neg c_4).symm.trans hR
          refine j_iconst X (v := 1) dX0_isLetGo_62 (by decide) ?_
          refine j_goto X (tgt := 67) dX0_isLetGo_63 (by decide) ?_
          have hR := Option.some.inj hR
          exact j_zret X hr rfl dX0_isLetGo_67 (by rw [← hR]) rfl
    · replace hR := (if_pos c_2).symm.trans hR
      refine j_iload_n X (q := 1) dX0_isLetGo_16 rfl ?_
      refine j_aload_n X (q := 0) dX0_isLetGo_17 rfl ?_
      refine j_get X 0 3 hiX0 k_102 dX0_isLetGo_18 rfl rfl (by decide) rfl ?_
      refine j_icmp_gt X (tgt := 39) dX0_isLetGo_21 (by decide) (fun c_5 => ?_) (fun c_5 => ?_)
      · replace hR := (if_pos c_5).symm.trans hR
        refine j_iconst X (v := 0) dX0_isLetGo_39 (by decide) ?_
        refine j_goto X (tgt := 67) dX0_isLetGo_40 (by decide) ?_
        have hR := Option.some.inj hR
        exact j_zret X hr rfl dX0_isLetGo_67 (by rw [← hR]) rfl
      · replace hR := (if_neg c_5).symm.trans hR
        refine j_aload_n X (q := 0) dX0_isLetGo_24 rfl ?_
        refine j_get X 0 0 hiX0 k_98 dX0_isLetGo_25 rfl rfl (by decide) rfl ?_
        refine j_aload_n X (q := 0) dX0_isLetGo_28 rfl ?_
        refine j_get X 0 3 hiX0 k_102 dX0_isLetGo_29 rfl rfl (by decide) rfl ?_
        refine j_icmp_le X (tgt := 39) dX0_isLetGo_32 (by decide) (fun c_6 => ?_) (fun c_6 => ?_)
        · replace hR := (if_pos c_6).symm.trans hR
          refine j_iconst X (v := 0) dX0_isLetGo_39 (by decide) ?_
          refine j_goto X (tgt := 67) dX0_isLetGo_40 (by decide) ?_
          have hR := Option.some.inj hR
          exact j_zret X hr rfl dX0_isLetGo_67 (by rw [← hR]) rfl
        · replace hR := (if_neg c_6).symm.trans hR
          refine j_iconst X (v := 1) dX0_isLetGo_35 (by decide) ?_
          refine j_goto X (tgt := 67) dX0_isLetGo_36 (by decide) ?_
          have hR := Option.some.inj hR
          exact j_zret X hr rfl dX0_isLetGo_67 (by rw [← hR]) rfl
  · replace hR := (if_neg c_1).symm.trans hR
    refine j_iconst X (v := 0) dX0_isLetGo_7 (by decide) ?_
    have hR := Option.some.inj hR
    exact j_zret X hr rfl dX0_isLetGo_8 (by rw [← hR]) rfl

def rmX0_beKicked : Room := { frames := 0, cells := 0, slots := 0, locals := 0 }
theorem hdX0_beKicked : yX0_beKicked.cls ≠ "java/lang/invoke/MethodHandle" ∧ yX0_beKicked.cls ≠ "java/lang/invoke/VarHandle" ∧ (parseMethodDescriptor yX0_beKicked.desc).map (fun d => d.parameters.length) = some 0 := by decide +kernel
def fX0_beKicked_49 (se : Int64) (z : Int32) : (Nat → Int32) → Option ((Nat → Int32)) := fun b =>
    lt' (upd b 9 ((b 9) + 1)) fun b_7 =>
  if (b_7 6) ≤ 0 then (some b_7) else (gd (!decide (b_7 6 = 0)) (if ((b_7 9) - (b_7 9) / (b_7 6) * (b_7 6)) = 0 then (lt' (upd b_7 5 ((b_7 5) - 1)) fun b_11 =>
  some b_11) else (some b_7)))
def fX0_beKicked (b : Nat → Int32) (se : Int64) (z : Int32) : Option ((Nat → Int32)) :=
  lt' (((b 5) + 3) / 4) fun x1_1 =>
  if (b 7) = 0 then (lt' (upd b 1 ((b 1) + x1_1)) fun b_5 =>
  lt' (upd b_5 7 1) fun b_6 =>
  fX0_beKicked_49 se z b_6) else (lt' (upd b 1 ((b 1) - x1_1)) fun b_3 =>
  lt' (upd b_3 7 0) fun b_4 =>
  fX0_beKicked_49 se z b_4)
set_option maxHeartbeats 8000000 in
set_option maxRecDepth 100000 in
theorem mX0_beKicked (l : Launch) (D : va_G) (cI cJ cB cT : ClassId) (tt : Nat → Nat) (r_ r_P r_A : Nat)  {b : Nat → Int32} {se : Int64} {z : Int32} {out : (Nat → Int32)} (h : fX0_beKicked b se z = some out) :
    jM l yX0_beKicked (.code yX0_beKicked cX0_beKicked 2 none) rmX0_beKicked D (wTy cI cJ cB cT) tt [.ref r_] [cBal r_ r_P r_A b se z] (none) [cBal r_ r_P r_A out se z] := by
  refine jM.of (by decide) (Nat.le_of_ble_eq_true rfl) ?_
  intro p e s m below meth c A X hr
  have L_49 : ∀ (b : Nat → Int32), fX0_beKicked_49 se z  b = some out → jW p l e rmX0_beKicked s m ([.ref r_] : List Value).toArray below meth c D A 2 (MQ below (jQ D (none) [cBal r_ r_P r_A out se z] A) ([.ref r_] : List Value).toArray s 0 0 A) 0 0 49 [(0, .ref r_)] [] [cBal r_ r_P r_A b se z] := by
    intro  b hR
    unfold fX0_beKicked_49 at hR
    refine j_aload_n X (q := 0) dX0_beKicked_49 rfl ?_
    refine j_dup X dX0_beKicked_50 rfl ?_
    refine j_get X 0 6 hiX0 k_107 dX0_beKicked_51 rfl rfl (by decide) rfl ?_
    refine j_iconst X (v := 1) dX0_beKicked_54 (by decide) ?_
    refine j_iadd X dX0_beKicked_55 ?_
    obtain ⟨b_7, eb_7, hR⟩ := lt_some hR
    refine j_put X (ws2 := [cBal r_ r_P r_A b_7 se z]) 0 6 hiX0 tyX0_ok nmX0 k_107 dX0_beKicked_56 rfl rfl (by decide) (by decide) rfl rfl (Nat.le_of_ble_eq_true rfl) (by subst eb_7; rfl) ?_
    refine j_aload_n X (q := 0) dX0_beKicked_59 rfl ?_
    refine j_get X 0 10 hiX0 k_112 dX0_beKicked_60 rfl rfl (by decide) rfl ?_
    refine j_if_le X (tgt := 88) dX0_beKicked_63 (by decide) (fun c_8 => ?_) (fun c_8 => ?_)
    · replace hR := (if_pos c_8).symm.trans hR
      have hR := Option.some.inj hR
      exact j_vret X hr dX0_beKicked_88 rfl (by rw [← hR])
    · replace hR := (if_neg c_8).symm.trans hR
      refine j_aload_n X (q := 0) dX0_beKicked_66 rfl ?_
      refine j_get X 0 6 hiX0 k_107 dX0_beKicked_67 rfl rfl (by decide) rfl ?_
      refine j_aload_n X (q := 0) dX0_beKicked_70 rfl ?_
      refine j_get X 0 10 hiX0 k_112 dX0_beKicked_71 rfl rfl (by decide) rfl ?_
      obtain ⟨g_9, hR⟩ := gd_some hR
      refine j_irem X dX0_beKicked_74 (by simpa using g_9) ?_
      refine j_if_ne X (tgt := 88) dX0_beKicked_75 (by decide) (fun c_10 => ?_) (fun c_10 => ?_)
      · replace hR := (if_neg c_10).symm.trans hR
        have hR := Option.some.inj hR
        exact j_vret X hr dX0_beKicked_88 rfl (by rw [← hR])
      · replace hR := (if_pos c_10).symm.trans hR
        refine j_aload_n X (q := 0) dX0_beKicked_78 rfl ?_
        refine j_dup X dX0_beKicked_79 rfl ?_
        refine j_get X 0 9 hiX0 k_111 dX0_beKicked_80 rfl rfl (by decide) rfl ?_
        refine j_iconst X (v := 1) dX0_beKicked_83 (by decide) ?_
        refine j_isub X dX0_beKicked_84 ?_
        obtain ⟨b_11, eb_11, hR⟩ := lt_some hR
        refine j_put X (ws2 := [cBal r_ r_P r_A b_11 se z]) 0 9 hiX0 tyX0_ok nmX0 k_111 dX0_beKicked_85 rfl rfl (by decide) (by decide) rfl rfl (Nat.le_of_ble_eq_true rfl) (by subst eb_11; rfl) ?_
        have hR := Option.some.inj hR
        exact j_vret X hr dX0_beKicked_88 rfl (by rw [← hR])
  refine j_sub (lv2 := [(0, .ref r_)]) [0] rfl ?_
  have hR := h
  unfold fX0_beKicked at hR
  refine j_aload_n X (q := 0) dX0_beKicked_0 rfl ?_
  refine j_get X 0 9 hiX0 k_111 dX0_beKicked_1 rfl rfl (by decide) rfl ?_
  refine j_iconst X (v := 3) dX0_beKicked_4 (by decide) ?_
  refine j_iadd X dX0_beKicked_5 ?_
  refine j_iconst X (v := 4) dX0_beKicked_6 (by decide) ?_
  refine j_idiv X dX0_beKicked_7 (by decide) ?_
  obtain ⟨x1_1, ex1_1, hR⟩ := lt_some hR
  refine j_eq (congrArg (fun z => Value.int z :: _) ex1_1) rfl ?_
  refine j_istore_n X (lv2 := [(1, .int x1_1), (0, .ref r_)]) dX0_beKicked_8 (by decide) rfl ?_
  refine j_aload_n X (q := 1) dX0_beKicked_9 rfl ?_
  refine j_get X 0 4 hiX0 k_104 dX0_beKicked_10 rfl rfl (by decide) rfl ?_
  refine j_if_ne X (tgt := 34) dX0_beKicked_13 (by decide) (fun c_2 => ?_) (fun c_2 => ?_)
  · replace hR := (if_neg c_2).symm.trans hR
    refine j_aload_n X (q := 1) dX0_beKicked_34 rfl ?_
    refine j_dup X dX0_beKicked_35 rfl ?_
    refine j_get X 0 1 hiX0 k_100 dX0_beKicked_36 rfl rfl (by decide) rfl ?_
    refine j_iload_n X (q := 0) dX0_beKicked_39 rfl ?_
    refine j_isub X dX0_beKicked_40 ?_
    obtain ⟨b_3, eb_3, hR⟩ := lt_some hR
    refine j_put X (ws2 := [cBal r_ r_P r_A b_3 se z]) 0 1 hiX0 tyX0_ok nmX0 k_100 dX0_beKicked_41 rfl rfl (by decide) (by decide) rfl rfl (Nat.le_of_ble_eq_true rfl) (by subst eb_3; rfl) ?_
    refine j_aload_n X (q := 1) dX0_beKicked_44 rfl ?_
    refine j_iconst X (v := 0) dX0_beKicked_45 (by decide) ?_
    obtain ⟨b_4, eb_4, hR⟩ := lt_some hR
    refine j_put X (ws2 := [cBal r_ r_P r_A b_4 se z]) 0 4 hiX0 tyX0_ok nmX0 k_104 dX0_beKicked_46 rfl rfl (by decide) (by decide) rfl rfl (Nat.le_of_ble_eq_true rfl) (by subst eb_4; rfl) ?_
    refine j_sub (lv2 := [(0, .ref r_)]) [1] rfl ?_
    exact L_49 _ hR
  · replace hR := (if_pos c_2).symm.trans hR
    refine j_aload_n X (q := 1) dX0_beKicked_16 rfl ?_
    refine j_dup X dX0_beKicked_17 rfl ?_
    refine j_get X 0 1 hiX0 k_100 dX0_beKicked_18 rfl rfl (by decide) rfl ?_
    refine j_iload_n X (q := 0) dX0_beKicked_21 rfl ?_
    refine j_iadd X dX0_beKicked_22 ?_
    obtain ⟨b_5, eb_5, hR⟩ := lt_some hR
    refine j_put X (ws2 := [cBal r_ r_P r_A b_5 se z]) 0 1 hiX0 tyX0_ok nmX0 k_100 dX0_beKicked_23 rfl rfl (by decide) (by decide) rfl rfl (Nat.le_of_ble_eq_true rfl) (by subst eb_5; rfl) ?_
    refine j_aload_n X (q := 1) dX0_beKicked_26 rfl ?_
    refine j_iconst X (v := 1) dX0_beKicked_27 (by decide) ?_
    obtain ⟨b_6, eb_6, hR⟩ := lt_some hR
    refine j_put X (ws2 := [cBal r_ r_P r_A b_6 se z]) 0 4 hiX0 tyX0_ok nmX0 k_104 dX0_beKicked_28 rfl rfl (by decide) (by decide) rfl rfl (Nat.le_of_ble_eq_true rfl) (by subst eb_6; rfl) ?_
    refine j_goto X (tgt := 49) dX0_beKicked_31 (by decide) ?_
    refine j_sub (lv2 := [(0, .ref r_)]) [1] rfl ?_
    exact L_49 _ hR

def rmX2_removeFirst : Room := { frames := 0, cells := 0, slots := 0, locals := 0 }
theorem hdX2_removeFirst : yX2_removeFirst.cls ≠ "java/lang/invoke/MethodHandle" ∧ yX2_removeFirst.cls ≠ "java/lang/invoke/VarHandle" ∧ (parseMethodDescriptor yX2_removeFirst.desc).map (fun d => d.parameters.length) = some 1 := by decide +kernel
def fX2_removeFirst_16 (x1 : Int32) : Nat → Int32 → Int32 → (Nat → Int32) → (Nat → Int32) → (Nat → Int32) → Option (Int32 × (Nat → Int32) × (Nat → Int32) × (Nat → Int32))
  | 0, _, _, _, _, _ => none
  | fu + 1, x2, k, f_s, f_t, f_w =>
    if k ≤ x2 then (lt' (k - x1) fun k_4 =>
  some (k_4, f_s, f_t, f_w)) else (if (8 : Int32) ≤ x2 then (lt' (k - x1) fun k_6 =>
  some (k_6, f_s, f_t, f_w)) else (gd (inb x2 8) (gd (inb (x2 - x1) 8) (lt' (upd f_t ((x2 - x1).toNatClampNeg) (f_t x2.toNatClampNeg)) fun f_t_9 =>
  gd (inb x2 8) (gd (inb (x2 - x1) 8) (lt' (upd f_w ((x2 - x1).toNatClampNeg) (f_w x2.toNatClampNeg)) fun f_w_12 =>
  gd (inb x2 8) (gd (inb (x2 - x1) 8) (lt' (upd f_s ((x2 - x1).toNatClampNeg) (f_s x2.toNatClampNeg)) fun f_s_15 =>
  lt' (x2 + 1) fun x2_16 =>
  fX2_removeFirst_16 x1 fu x2_16 k f_s_15 f_t_9 f_w_12))))))))
def fX2_removeFirst (x1 : Int32) (k : Int32) (f_s : Nat → Int32) (f_t : Nat → Int32) (f_w : Nat → Int32) : Option (Int32 × (Nat → Int32) × (Nat → Int32) × (Nat → Int32)) :=
  if x1 < 1 then (some (k, f_s, f_t, f_w)) else (if x1 ≤ k then (fX2_removeFirst_16 x1 500 x1 k f_s f_t f_w) else (some (k, f_s, f_t, f_w)))
set_option maxHeartbeats 8000000 in
set_option maxRecDepth 100000 in
theorem mX2_removeFirst (l : Launch) (D : va_G) (cI cJ cB cT : ClassId) (tt : Nat → Nat) (r_ r_t r_w r_s : Nat) {x1 : Int32} {k : Int32} {f_s : Nat → Int32} {f_t : Nat → Int32} {f_w : Nat → Int32} {out : Int32 × (Nat → Int32) × (Nat → Int32) × (Nat → Int32)} (h : fX2_removeFirst x1 k f_s f_t f_w = some out) :
    jM l yX2_removeFirst (.code yX2_removeFirst cX2_removeFirst 3 none) rmX2_removeFirst D (wTy cI cJ cB cT) tt [.ref r_, .int x1] [cPus r_ r_t r_w r_s k, cIar cI r_s 8 f_s, cIar cI r_t 8 f_t, cIar cI r_w 8 f_w] (none) [cPus r_ r_t r_w r_s out.1, cIar cI r_s 8 out.2.1, cIar cI r_t 8 out.2.2.1, cIar cI r_w 8 out.2.2.2] := by
  refine jM.of (by decide) (Nat.le_of_ble_eq_true rfl) ?_
  intro p e s m below meth c A X hr
  have L_16 : ∀ (fuel : Nat) (x2 : Int32) (k : Int32) (f_s : Nat → Int32) (f_t : Nat → Int32) (f_w : Nat → Int32), fX2_removeFirst_16 x1  fuel x2 k f_s f_t f_w = some out → jW p l e rmX2_removeFirst s m ([.ref r_, .int x1] : List Value).toArray below meth c D A 3 (MQ below (jQ D (none) [cPus r_ r_t r_w r_s out.1, cIar cI r_s 8 out.2.1, cIar cI r_t 8 out.2.2.1, cIar cI r_w 8 out.2.2.2] A) ([.ref r_, .int x1] : List Value).toArray s 0 0 A) 0 0 16 [(0, .ref r_), (1, .int x1), (2, .int x2)] [] [cPus r_ r_t r_w r_s k, cIar cI r_s 8 f_s, cIar cI r_t 8 f_t, cIar cI r_w 8 f_w] := by
    intro  fuel
    induction fuel with
    | zero =>
      intro x2 k f_s f_t f_w hR
      rw [fX2_removeFirst_16] at hR
      cases hR
    | succ fu ih =>
      intro x2 k f_s f_t f_w hR
      rw [fX2_removeFirst_16] at hR
      refine j_iload_n X (q := 2) dX2_removeFirst_16 rfl ?_
      refine j_aload_n X (q := 0) dX2_removeFirst_17 rfl ?_
      refine j_get X 0 3 hiX2 k_85 dX2_removeFirst_18 rfl rfl (by decide) rfl ?_
      refine j_icmp_ge X (tgt := 78) dX2_removeFirst_21 (by decide) (fun c_3 => ?_) (fun c_3 => ?_)
      · replace hR := (if_pos c_3).symm.trans hR
        refine j_aload_n X (q := 0) dX2_removeFirst_78 rfl ?_
        refine j_dup X dX2_removeFirst_79 rfl ?_
        refine j_get X 0 3 hiX2 k_85 dX2_removeFirst_80 rfl rfl (by decide) rfl ?_
        refine j_iload_n X (q := 1) dX2_removeFirst_83 rfl ?_
        refine j_isub X dX2_removeFirst_84 ?_
        obtain ⟨k_4, ek_4, hR⟩ := lt_some hR
        refine j_put X (ws2 := [cPus r_ r_t r_w r_s k_4, cIar cI r_s 8 f_s, cIar cI r_t 8 f_t, cIar cI r_w 8 f_w]) 0 3 hiX2 tyX2_ok nmX2 k_85 dX2_removeFirst_85 rfl rfl (by decide) (by decide) rfl rfl (Nat.le_of_ble_eq_true rfl) (by subst ek_4; rfl) ?_
        have hR := Option.some.inj hR
        exact j_vret X hr dX2_removeFirst_88 rfl (by rw [← hR])
      · replace hR := (if_neg c_3).symm.trans hR
        refine j_iload_n X (q := 2) dX2_removeFirst_24 rfl ?_
        refine j_bipush X (v := 8) dX2_removeFirst_25 (by decide) ?_
        refine j_icmp_ge X (tgt := 78) dX2_removeFirst_27 (by decide) (fun c_5 => ?_) (fun c_5 => ?_)
        · replace hR := (if_pos c_5).symm.trans hR
          refine j_aload_n X (q := 0) dX2_removeFirst_78 rfl ?_
          refine j_dup X dX2_removeFirst_79 rfl ?_
          refine j_get X 0 3 hiX2 k_85 dX2_removeFirst_80 rfl rfl (by decide) rfl ?_
          refine j_iload_n X (q := 1) dX2_removeFirst_83 rfl ?_
          refine j_isub X dX2_removeFirst_84 ?_
          obtain ⟨k_6, ek_6, hR⟩ := lt_some hR
          refine j_put X (ws2 := [cPus r_ r_t r_w r_s k_6, cIar cI r_s 8 f_s, cIar cI r_t 8 f_t, cIar cI r_w 8 f_w]) 0 3 hiX2 tyX2_ok nmX2 k_85 dX2_removeFirst_85 rfl rfl (by decide) (by decide) rfl rfl (Nat.le_of_ble_eq_true rfl) (by subst ek_6; rfl) ?_
          have hR := Option.some.inj hR
          exact j_vret X hr dX2_removeFirst_88 rfl (by rw [← hR])
        · replace hR := (if_neg c_5).symm.trans hR
          refine j_aload_n X (q := 0) dX2_removeFirst_30 rfl ?_
          refine j_get X 0 0 hiX2 k_76 dX2_removeFirst_31 rfl rfl (by decide) rfl ?_
          refine j_iload_n X (q := 2) dX2_removeFirst_34 rfl ?_
          refine j_iload_n X (q := 1) dX2_removeFirst_35 rfl ?_
          refine j_isub X dX2_removeFirst_36 ?_
          refine j_aload_n X (q := 0) dX2_removeFirst_37 rfl ?_
          refine j_get X 0 0 hiX2 k_76 dX2_removeFirst_38 rfl rfl (by decide) rfl ?_
          refine j_iload_n X (q := 2) dX2_removeFirst_41 rfl ?_
          obtain ⟨g_7, hR⟩ := gd_some hR
          refine j_iald X 2 0 rfl dX2_removeFirst_42 rfl rfl g_7 ?_
          obtain ⟨g_8, hR⟩ := gd_some hR
          obtain ⟨f_t_9, ef_t_9, hR⟩ := lt_some hR
          refine j_iast X (ws2 := [cPus r_ r_t r_w r_s k, cIar cI r_s 8 f_s, cIar cI r_t 8 f_t_9, cIar cI r_w 8 f_w]) 2 0 rfl dX2_removeFirst_43 rfl rfl g_8 ef_t_9 rfl ?_
          refine j_aload_n X (q := 0) dX2_removeFirst_44 rfl ?_
          refine j_get X 0 1 hiX2 k_79 dX2_removeFirst_45 rfl rfl (by decide) rfl ?_
          refine j_iload_n X (q := 2) dX2_removeFirst_48 rfl ?_
          refine j_iload_n X (q := 1) dX2_removeFirst_49 rfl ?_
          refine j_isub X dX2_removeFirst_50 ?_
          refine j_aload_n X (q := 0) dX2_removeFirst_51 rfl ?_
          refine j_get X 0 1 hiX2 k_79 dX2_removeFirst_52 rfl rfl (by decide) rfl ?_
          refine j_iload_n X (q := 2) dX2_removeFirst_55 rfl ?_
          obtain ⟨g_10, hR⟩ := gd_some hR
          refine j_iald X 3 0 rfl dX2_removeFirst_56 rfl rfl g_10 ?_
          obtain ⟨g_11, hR⟩ := gd_some hR
          obtain ⟨f_w_12, ef_w_12, hR⟩ := lt_some hR
          refine j_iast X (ws2 := [cPus r_ r_t r_w r_s k, cIar cI r_s 8 f_s, cIar cI r_t 8 f_t_9, cIar cI r_w 8 f_w_12]) 3 0 rfl dX2_removeFirst_57 rfl rfl g_11 ef_w_12 rfl ?_
          refine j_aload_n X (q := 0) dX2_removeFirst_58 rfl ?_
          refine j_get X 0 2 hiX2 k_82 dX2_removeFirst_59 rfl rfl (by decide) rfl ?_
          refine j_iload_n X (q := 2) dX2_removeFirst_62 rfl ?_
          refine j_iload_n X (q := 1) dX2_removeFirst_63 rfl ?_
          refine j_isub X dX2_removeFirst_64 ?_
          refine j_aload_n X (q := 0) dX2_removeFirst_65 rfl ?_
          refine j_get X 0 2 hiX2 k_82 dX2_removeFirst_66 rfl rfl (by decide) rfl ?_
          refine j_iload_n X (q := 2) dX2_removeFirst_69 rfl ?_
          obtain ⟨g_13, hR⟩ := gd_some hR
          refine j_iald X 1 0 rfl dX2_removeFirst_70 rfl rfl g_13 ?_
          obtain ⟨g_14, hR⟩ := gd_some hR
          obtain ⟨f_s_15, ef_s_15, hR⟩ := lt_some hR
          refine j_iast X (ws2 := [cPus r_ r_t r_w r_s k, cIar cI r_s 8 f_s_15, cIar cI r_t 8 f_t_9, cIar cI r_w 8 f_w_12]) 1 0 rfl dX2_removeFirst_71 rfl rfl g_14 ef_s_15 rfl ?_
          obtain ⟨x2_16, ex2_16, hR⟩ := lt_some hR
          refine j_iinc X (k := 2) (v := x2_16) (lv2 := [(2, .int x2_16), (0, .ref r_), (1, .int x1)]) dX2_removeFirst_72 rfl (by rw [← ex2_16]; rfl) (by decide) rfl ?_
          refine j_goto X (tgt := 16) dX2_removeFirst_75 (by decide) ?_
          refine j_sub (lv2 := [(0, .ref r_), (1, .int x1), (2, .int x2_16)]) [1, 2, 0] rfl ?_
          exact ih _ _ _ _ _ hR
  refine j_sub (lv2 := [(0, .ref r_), (1, .int x1)]) [0, 1] rfl ?_
  have hR := h
  unfold fX2_removeFirst at hR
  refine j_iload_n X (q := 1) dX2_removeFirst_0 rfl ?_
  refine j_iconst X (v := 1) dX2_removeFirst_1 (by decide) ?_
  refine j_icmp_lt X (tgt := 13) dX2_removeFirst_2 (by decide) (fun c_1 => ?_) (fun c_1 => ?_)
  · replace hR := (if_pos c_1).symm.trans hR
    have hR := Option.some.inj hR
    exact j_vret X hr dX2_removeFirst_13 rfl (by rw [← hR])
  · replace hR := (if_neg c_1).symm.trans hR
    refine j_iload_n X (q := 1) dX2_removeFirst_5 rfl ?_
    refine j_aload_n X (q := 0) dX2_removeFirst_6 rfl ?_
    refine j_get X 0 3 hiX2 k_85 dX2_removeFirst_7 rfl rfl (by decide) rfl ?_
    refine j_icmp_le X (tgt := 14) dX2_removeFirst_10 (by decide) (fun c_2 => ?_) (fun c_2 => ?_)
    · replace hR := (if_pos c_2).symm.trans hR
      refine j_iload_n X (q := 1) dX2_removeFirst_14 rfl ?_
      refine j_istore_n X (lv2 := [(2, .int x1), (0, .ref r_), (1, .int x1)]) dX2_removeFirst_15 (by decide) rfl ?_
      refine j_sub (lv2 := [(0, .ref r_), (1, .int x1), (2, .int x1)]) [1, 2, 0] rfl ?_
      exact L_16 _ _ _ _ _ _ hR
    · replace hR := (if_neg c_2).symm.trans hR
      have hR := Option.some.inj hR
      exact j_vret X hr dX2_removeFirst_13 rfl (by rw [← hR])

def rmX0_bePushed : Room := { frames := 2, cells := 0, slots := 0, locals := 37 }
theorem hdX0_bePushed : yX0_bePushed.cls ≠ "java/lang/invoke/MethodHandle" ∧ yX0_bePushed.cls ≠ "java/lang/invoke/VarHandle" ∧ (parseMethodDescriptor yX0_bePushed.desc).map (fun d => d.parameters.length) = some 0 := by decide +kernel
def fX0_bePushed_2 (se : Int64) (z : Int32) : Nat → Int32 → (Nat → Int32) → Int32 → (Nat → Int32) → (Nat → Int32) → (Nat → Int32) → Option ((Nat → Int32) × Int32 × (Nat → Int32) × (Nat → Int32) × (Nat → Int32))
  | 0, _, _, _, _, _, _ => none
  | fu + 1, x1, b, k_P, f_Ps, f_Pt, f_Pw =>
    if k_P ≤ x1 then ((fX2_removeFirst x1 k_P f_Ps f_Pt f_Pw).bind fun o_2 =>
  some (b, o_2.1, o_2.2.1, o_2.2.2.1, o_2.2.2.2)) else (if (8 : Int32) ≤ x1 then ((fX2_removeFirst x1 k_P f_Ps f_Pt f_Pw).bind fun o_4 =>
  some (b, o_4.1, o_4.2.1, o_4.2.2.1, o_4.2.2.2)) else (gd (inb x1 8) (if (f_Pt x1.toNatClampNeg) = (b 8) then (gd (inb x1 8) (gd (inb x1 8) ((fX0_doPush (f_Pw x1.toNatClampNeg) (f_Ps x1.toNatClampNeg) b se z).bind fun o_10 =>
  lt' (x1 + 1) fun x1_11 =>
  fX0_bePushed_2 se z fu x1_11 o_10 k_P f_Ps f_Pt f_Pw))) else ((fX2_removeFirst x1 k_P f_Ps f_Pt f_Pw).bind fun o_7 =>
  some (b, o_7.1, o_7.2.1, o_7.2.2.1, o_7.2.2.2)))))
def fX0_bePushed (b : Nat → Int32) (se : Int64) (z : Int32) (k_P : Int32) (f_Ps : Nat → Int32) (f_Pt : Nat → Int32) (f_Pw : Nat → Int32) : Option ((Nat → Int32) × Int32 × (Nat → Int32) × (Nat → Int32) × (Nat → Int32)) :=
  fX0_bePushed_2 se z 500 0 b k_P f_Ps f_Pt f_Pw
set_option maxHeartbeats 8000000 in
set_option maxRecDepth 100000 in
theorem mX0_bePushed (l : Launch) (D : va_G) (cI cJ cB cT : ClassId) (tt : Nat → Nat) (r_ r_P r_A r_Pt r_Pw r_Ps : Nat)  {b : Nat → Int32} {se : Int64} {z : Int32} {k_P : Int32} {f_Ps : Nat → Int32} {f_Pt : Nat → Int32} {f_Pw : Nat → Int32} {out : (Nat → Int32) × Int32 × (Nat → Int32) × (Nat → Int32) × (Nat → Int32)} (h : fX0_bePushed b se z k_P f_Ps f_Pt f_Pw = some out) :
    jM l yX0_bePushed (.code yX0_bePushed cX0_bePushed 2 none) rmX0_bePushed D (wTy cI cJ cB cT) tt [.ref r_] [cBal r_ r_P r_A b se z, cPus r_P r_Pt r_Pw r_Ps k_P, cIar cI r_Ps 8 f_Ps, cIar cI r_Pt 8 f_Pt, cIar cI r_Pw 8 f_Pw] (none) [cBal r_ r_P r_A out.1 se z, cPus r_P r_Pt r_Pw r_Ps out.2.1, cIar cI r_Ps 8 out.2.2.1, cIar cI r_Pt 8 out.2.2.2.1, cIar cI r_Pw 8 out.2.2.2.2] := by
  refine jM.of (by decide) (Nat.le_of_ble_eq_true rfl) ?_
  intro p e s m below meth c A X hr
  have L_2 : ∀ (fuel : Nat) (x1 : Int32) (b : Nat → Int32) (k_P : Int32) (f_Ps : Nat → Int32) (f_Pt : Nat → Int32) (f_Pw : Nat → Int32), fX0_bePushed_2 se z  fuel x1 b k_P f_Ps f_Pt f_Pw = some out → jW p l e rmX0_bePushed s m ([.ref r_] : List Value).toArray below meth c D A 2 (MQ below (jQ D (none) [cBal r_ r_P r_A out.1 se z, cPus r_P r_Pt r_Pw r_Ps out.2.1, cIar cI r_Ps 8 out.2.2.1, cIar cI r_Pt 8 out.2.2.2.1, cIar cI r_Pw 8 out.2.2.2.2] A) ([.ref r_] : List Value).toArray s 0 0 A) 0 0 2 [(0, .ref r_), (1, .int x1)] [] [cBal r_ r_P r_A b se z, cPus r_P r_Pt r_Pw r_Ps k_P, cIar cI r_Ps 8 f_Ps, cIar cI r_Pt 8 f_Pt, cIar cI r_Pw 8 f_Pw] := by
    intro  fuel
    induction fuel with
    | zero =>
      intro x1 b k_P f_Ps f_Pt f_Pw hR
      rw [fX0_bePushed_2] at hR
      cases hR
    | succ fu ih =>
      intro x1 b k_P f_Ps f_Pt f_Pw hR
      rw [fX0_bePushed_2] at hR
      refine j_iload_n X (q := 1) dX0_bePushed_2 rfl ?_
      refine j_aload_n X (q := 0) dX0_bePushed_3 rfl ?_
      refine j_get X 0 11 hiX0 k_113 dX0_bePushed_4 rfl rfl (by decide) rfl ?_
      refine j_get X 1 3 hiX2 k_86 dX0_bePushed_7 rfl rfl (by decide) rfl ?_
      refine j_icmp_ge X (tgt := 63) dX0_bePushed_10 (by decide) (fun c_1 => ?_) (fun c_1 => ?_)
      · replace hR := (if_pos c_1).symm.trans hR
        refine j_aload_n X (q := 0) dX0_bePushed_63 rfl ?_
        refine j_get X 0 11 hiX0 k_113 dX0_bePushed_64 rfl rfl (by decide) rfl ?_
        refine j_iload_n X (q := 1) dX0_bePushed_67 rfl ?_
        obtain ⟨o_2, ho_2, hR⟩ := bd_some hR
        refine j_callV X (As := [.int x1]) (rest := []) (ws2 := [cBal r_ r_P r_A b se z, cPus r_P r_Pt r_Pw r_Ps o_2.1, cIar cI r_Ps 8 o_2.2.1, cIar cI r_Pt 8 o_2.2.2.1, cIar cI r_Pw 8 o_2.2.2.2]) (q0 := 1) (ci := 2) (mX2_removeFirst l D cI cJ cB cT tt r_P r_Pt r_Pw r_Ps ho_2) [1, 2, 3, 4] [.inl 0, .inr 0, .inr 1, .inr 2, .inr 3] k_370 k_367 k_368 k_369 rfl rfl k_41 hdX2_removeFirst (by decide) (Nat.le_of_ble_eq_true rfl) dX0_bePushed_68 (by decide) rfl rfl (by decide) rfl rfl ?_
        have hR := Option.some.inj hR
        exact j_vret X hr dX0_bePushed_71 rfl (by rw [← hR])
      · replace hR := (if_neg c_1).symm.trans hR
        refine j_iload_n X (q := 1) dX0_bePushed_13 rfl ?_
        refine j_bipush X (v := 8) dX0_bePushed_14 (by decide) ?_
        refine j_icmp_ge X (tgt := 63) dX0_bePushed_16 (by decide) (fun c_3 => ?_) (fun c_3 => ?_)
        · replace hR := (if_pos c_3).symm.trans hR
          refine j_aload_n X (q := 0) dX0_bePushed_63 rfl ?_
          refine j_get X 0 11 hiX0 k_113 dX0_bePushed_64 rfl rfl (by decide) rfl ?_
          refine j_iload_n X (q := 1) dX0_bePushed_67 rfl ?_
          obtain ⟨o_4, ho_4, hR⟩ := bd_some hR
          refine j_callV X (As := [.int x1]) (rest := []) (ws2 := [cBal r_ r_P r_A b se z, cPus r_P r_Pt r_Pw r_Ps o_4.1, cIar cI r_Ps 8 o_4.2.1, cIar cI r_Pt 8 o_4.2.2.1, cIar cI r_Pw 8 o_4.2.2.2]) (q0 := 1) (ci := 2) (mX2_removeFirst l D cI cJ cB cT tt r_P r_Pt r_Pw r_Ps ho_4) [1, 2, 3, 4] [.inl 0, .inr 0, .inr 1, .inr 2, .inr 3] k_370 k_367 k_368 k_369 rfl rfl k_41 hdX2_removeFirst (by decide) (Nat.le_of_ble_eq_true rfl) dX0_bePushed_68 (by decide) rfl rfl (by decide) rfl rfl ?_
          have hR := Option.some.inj hR
          exact j_vret X hr dX0_bePushed_71 rfl (by rw [← hR])
        · replace hR := (if_neg c_3).symm.trans hR
          refine j_aload_n X (q := 0) dX0_bePushed_19 rfl ?_
          refine j_get X 0 11 hiX0 k_113 dX0_bePushed_20 rfl rfl (by decide) rfl ?_
          refine j_get X 1 0 hiX2 k_78 dX0_bePushed_23 rfl rfl (by decide) rfl ?_
          refine j_iload_n X (q := 1) dX0_bePushed_26 rfl ?_
          obtain ⟨g_5, hR⟩ := gd_some hR
          refine j_iald X 3 0 rfl dX0_bePushed_27 rfl rfl g_5 ?_
          refine j_aload_n X (q := 0) dX0_bePushed_28 rfl ?_
          refine j_get X 0 5 hiX0 k_105 dX0_bePushed_29 rfl rfl (by decide) rfl ?_
          refine j_icmp_ne X (tgt := 63) dX0_bePushed_32 (by decide) (fun c_6 => ?_) (fun c_6 => ?_)
          · replace hR := (if_neg c_6).symm.trans hR
            refine j_aload_n X (q := 0) dX0_bePushed_63 rfl ?_
            refine j_get X 0 11 hiX0 k_113 dX0_bePushed_64 rfl rfl (by decide) rfl ?_
            refine j_iload_n X (q := 1) dX0_bePushed_67 rfl ?_
            obtain ⟨o_7, ho_7, hR⟩ := bd_some hR
            refine j_callV X (As := [.int x1]) (rest := []) (ws2 := [cBal r_ r_P r_A b se z, cPus r_P r_Pt r_Pw r_Ps o_7.1, cIar cI r_Ps 8 o_7.2.1, cIar cI r_Pt 8 o_7.2.2.1, cIar cI r_Pw 8 o_7.2.2.2]) (q0 := 1) (ci := 2) (mX2_removeFirst l D cI cJ cB cT tt r_P r_Pt r_Pw r_Ps ho_7) [1, 2, 3, 4] [.inl 0, .inr 0, .inr 1, .inr 2, .inr 3] k_370 k_367 k_368 k_369 rfl rfl k_41 hdX2_removeFirst (by decide) (Nat.le_of_ble_eq_true rfl) dX0_bePushed_68 (by decide) rfl rfl (by decide) rfl rfl ?_
            have hR := Option.some.inj hR
            exact j_vret X hr dX0_bePushed_71 rfl (by rw [← hR])
          · replace hR := (if_pos c_6).symm.trans hR
            refine j_aload_n X (q := 0) dX0_bePushed_35 rfl ?_
            refine j_aload_n X (q := 0) dX0_bePushed_36 rfl ?_
            refine j_get X 0 11 hiX0 k_113 dX0_bePushed_37 rfl rfl (by decide) rfl ?_
            refine j_get X 1 1 hiX2 k_81 dX0_bePushed_40 rfl rfl (by decide) rfl ?_
            refine j_iload_n X (q := 1) dX0_bePushed_43 rfl ?_
            obtain ⟨g_8, hR⟩ := gd_some hR
            refine j_iald X 4 0 rfl dX0_bePushed_44 rfl rfl g_8 ?_
            refine j_aload_n X (q := 0) dX0_bePushed_45 rfl ?_
            refine j_get X 0 11 hiX0 k_113 dX0_bePushed_46 rfl rfl (by decide) rfl ?_
            refine j_get X 1 2 hiX2 k_84 dX0_bePushed_49 rfl rfl (by decide) rfl ?_
            refine j_iload_n X (q := 1) dX0_bePushed_52 rfl ?_
            obtain ⟨g_9, hR⟩ := gd_some hR
            refine j_iald X 2 0 rfl dX0_bePushed_53 rfl rfl g_9 ?_
            obtain ⟨o_10, ho_10, hR⟩ := bd_some hR
            refine j_callV X (As := [.int (f_Pw x1.toNatClampNeg), .int (f_Ps x1.toNatClampNeg)]) (rest := []) (ws2 := [cBal r_ r_P r_A o_10 se z, cPus r_P r_Pt r_Pw r_Ps k_P, cIar cI r_Ps 8 f_Ps, cIar cI r_Pt 8 f_Pt, cIar cI r_Pw 8 f_Pw]) (q0 := 0) (ci := 0) (mX0_doPush l D cI cJ cB cT tt r_ r_P r_A ho_10) [0] [.inr 0, .inl 1, .inl 2, .inl 3, .inl 4] k_360 k_357 k_359 k_2 rfl rfl k_40 hdX0_doPush (by decide) (Nat.le_of_ble_eq_true rfl) dX0_bePushed_54 (by decide) rfl rfl (by decide) rfl rfl ?_
            obtain ⟨x1_11, ex1_11, hR⟩ := lt_some hR
            refine j_iinc X (k := 1) (v := x1_11) (lv2 := [(1, .int x1_11), (0, .ref r_)]) dX0_bePushed_57 rfl (by rw [← ex1_11]; rfl) (by decide) rfl ?_
            refine j_goto X (tgt := 2) dX0_bePushed_60 (by decide) ?_
            refine j_sub (lv2 := [(0, .ref r_), (1, .int x1_11)]) [1, 0] rfl ?_
            exact ih _ _ _ _ _ _ hR
  refine j_sub (lv2 := [(0, .ref r_)]) [0] rfl ?_
  have hR := h
  unfold fX0_bePushed at hR
  refine j_iconst X (v := 0) dX0_bePushed_0 (by decide) ?_
  refine j_istore_n X (lv2 := [(1, .int 0), (0, .ref r_)]) dX0_bePushed_1 (by decide) rfl ?_
  refine j_sub (lv2 := [(0, .ref r_), (1, .int 0)]) [1, 0] rfl ?_
  exact L_2 _ _ _ _ _ _ _ hR

def rmX0_tick : Room := { frames := 3, cells := 0, slots := 0, locals := 58 }
theorem hdX0_tick : yX0_tick.cls ≠ "java/lang/invoke/MethodHandle" ∧ yX0_tick.cls ≠ "java/lang/invoke/VarHandle" ∧ (parseMethodDescriptor yX0_tick.desc).map (fun d => d.parameters.length) = some 0 := by decide +kernel
def fX0_tick_72 (z : Int32) : Int32 → (Nat → Int32) → Int64 → (Nat → Int64) → Int32 → (Nat → Int32) → (Nat → Int32) → (Nat → Int32) → Option (Int32 × (Nat → Int32) × Int64 × (Nat → Int64) × Int32 × (Nat → Int32) × (Nat → Int32) × (Nat → Int32)) := fun x2 b se f_A k_P f_Ps f_Pt f_Pw =>
    (fX0_settle 3 b se z f_A).bind fun o_13 =>
  lt' (upd b 8 ((b 8) + 1)) fun b_14 =>
  gd (zb x2) (some (x2, b_14, o_13.1, o_13.2, k_P, f_Ps, f_Pt, f_Pw))
def fX0_tick (b : Nat → Int32) (se : Int64) (z : Int32) (f_A : Nat → Int64) (k_P : Int32) (f_Ps : Nat → Int32) (f_Pt : Nat → Int32) (f_Pw : Nat → Int32) : Option (Int32 × (Nat → Int32) × Int64 × (Nat → Int64) × Int32 × (Nat → Int32) × (Nat → Int32) × (Nat → Int32)) :=
  (fX0_bePushed b se z k_P f_Ps f_Pt f_Pw).bind fun o_1 =>
  (fX0_settle 0 o_1.1 se z f_A).bind fun o_2 =>
  lt' (upd o_1.1 1 ((o_1.1 1) - (((o_1.1 0) * (o_1.1 2)) / 32))) fun b_3 =>
  (fX0_settle 1 b_3 o_2.1 z o_2.2).bind fun o_4 =>
  (fX0_beDragged b_3 o_4.1 z).bind fun o_5 =>
  (fX0_settle 2 o_5 o_4.1 z o_4.2).bind fun o_6 =>
  lt' (o_5 0) fun x1_7 =>
  (fX0_swing o_5 o_6.1 z).bind fun o_8 =>
  (fX0_settle 1 o_8 o_6.1 z o_6.2).bind fun o_9 =>
  (fX0_isLetGo x1_7 o_8 o_9.1 z).bind fun o_10 =>
  if o_10 = 0 then (fX0_tick_72 z o_10 o_8 o_9.1 o_9.2 o_1.2.1 o_1.2.2.1 o_1.2.2.2.1 o_1.2.2.2.2) else ((fX0_beKicked o_8 o_9.1 z).bind fun o_12 =>
  fX0_tick_72 z o_10 o_12 o_9.1 o_9.2 o_1.2.1 o_1.2.2.1 o_1.2.2.2.1 o_1.2.2.2.2)
set_option maxHeartbeats 8000000 in
set_option maxRecDepth 100000 in
theorem mX0_tick (l : Launch) (D : va_G) (cI cJ cB cT : ClassId) (tt : Nat → Nat) (r_ r_P r_A r_Pt r_Pw r_Ps : Nat)  {b : Nat → Int32} {se : Int64} {z : Int32} {f_A : Nat → Int64} {k_P : Int32} {f_Ps : Nat → Int32} {f_Pt : Nat → Int32} {f_Pw : Nat → Int32} {out : Int32 × (Nat → Int32) × Int64 × (Nat → Int64) × Int32 × (Nat → Int32) × (Nat → Int32) × (Nat → Int32)} (h : fX0_tick b se z f_A k_P f_Ps f_Pt f_Pw = some out) :
    jM l yX0_tick (.code yX0_tick cX0_tick 3 (some .boolean)) rmX0_tick D (wTy cI cJ cB cT) tt [.ref r_] [cBal r_ r_P r_A b se z, cJar cJ r_A 4 f_A, cPus r_P r_Pt r_Pw r_Ps k_P, cIar cI r_Ps 8 f_Ps, cIar cI r_Pt 8 f_Pt, cIar cI r_Pw 8 f_Pw] (some (.int out.1)) [cBal r_ r_P r_A out.2.1 out.2.2.1 z, cJar cJ r_A 4 out.2.2.2.1, cPus r_P r_Pt r_Pw r_Ps out.2.2.2.2.1, cIar cI r_Ps 8 out.2.2.2.2.2.1, cIar cI r_Pt 8 out.2.2.2.2.2.2.1, cIar cI r_Pw 8 out.2.2.2.2.2.2.2] := by
  refine jM.of (by decide) (Nat.le_of_ble_eq_true rfl) ?_
  intro p e s m below meth c A X hr
  have L_72 : ∀ (x2 : Int32) (b : Nat → Int32) (se : Int64) (f_A : Nat → Int64) (k_P : Int32) (f_Ps : Nat → Int32) (f_Pt : Nat → Int32) (f_Pw : Nat → Int32), fX0_tick_72 z  x2 b se f_A k_P f_Ps f_Pt f_Pw = some out → jW p l e rmX0_tick s m ([.ref r_] : List Value).toArray below meth c D A 3 (MQ below (jQ D (some (.int out.1)) [cBal r_ r_P r_A out.2.1 out.2.2.1 z, cJar cJ r_A 4 out.2.2.2.1, cPus r_P r_Pt r_Pw r_Ps out.2.2.2.2.1, cIar cI r_Ps 8 out.2.2.2.2.2.1, cIar cI r_Pt 8 out.2.2.2.2.2.2.1, cIar cI r_Pw 8 out.2.2.2.2.2.2.2] A) ([.ref r_] : List Value).toArray s 0 0 A) 0 0 72 [(0, .ref r_), (2, .int x2)] [] [cBal r_ r_P r_A b se z, cJar cJ r_A 4 f_A, cPus r_P r_Pt r_Pw r_Ps k_P, cIar cI r_Ps 8 f_Ps, cIar cI r_Pt 8 f_Pt, cIar cI r_Pw 8 f_Pw] := by
    intro  x2 b se f_A k_P f_Ps f_Pt f_Pw hR
    unfold fX0_tick_72 at hR
    refine j_aload_n X (q := 0) dX0_tick_72 rfl ?_
    refine j_iconst X (v := 3) dX0_tick_73 (by decide) ?_
    obtain ⟨o_13, ho_13, hR⟩ := bd_some hR
    refine j_callV X (As := [.int 3]) (rest := []) (ws2 := [cBal r_ r_P r_A b o_13.1 z, cJar cJ r_A 4 o_13.2, cPus r_P r_Pt r_Pw r_Ps k_P, cIar cI r_Ps 8 f_Ps, cIar cI r_Pt 8 f_Pt, cIar cI r_Pw 8 f_Pw]) (q0 := 0) (ci := 0) (mX0_settle l D cI cJ cB cT tt r_ r_P r_A ho_13) [0, 1] [.inr 0, .inr 1, .inl 2, .inl 3, .inl 4, .inl 5] k_315 k_312 k_314 k_0 rfl rfl k_40 hdX0_settle (by decide) (Nat.le_of_ble_eq_true rfl) dX0_tick_74 (by decide) rfl rfl (by decide) rfl rfl ?_
    refine j_aload_n X (q := 0) dX0_tick_77 rfl ?_
    refine j_dup X dX0_tick_78 rfl ?_
    refine j_get X 0 5 hiX0 k_105 dX0_tick_79 rfl rfl (by decide) rfl ?_
    refine j_iconst X (v := 1) dX0_tick_82 (by decide) ?_
    refine j_iadd X dX0_tick_83 ?_
    obtain ⟨b_14, eb_14, hR⟩ := lt_some hR
    refine j_put X (ws2 := [cBal r_ r_P r_A b_14 o_13.1 z, cJar cJ r_A 4 o_13.2, cPus r_P r_Pt r_Pw r_Ps k_P, cIar cI r_Ps 8 f_Ps, cIar cI r_Pt 8 f_Pt, cIar cI r_Pw 8 f_Pw]) 0 5 hiX0 tyX0_ok nmX0 k_105 dX0_tick_84 rfl rfl (by decide) (by decide) rfl rfl (Nat.le_of_ble_eq_true rfl) (by subst eb_14; rfl) ?_
    refine j_iload_n X (q := 1) dX0_tick_87 rfl ?_
    obtain ⟨g_15, hR⟩ := gd_some hR
    have hR := Option.some.inj hR
    exact j_zret X hr (zb_nar g_15) dX0_tick_88 (by rw [← hR]) (by rw [← hR])
  refine j_sub (lv2 := [(0, .ref r_)]) [0] rfl ?_
  have hR := h
  unfold fX0_tick at hR
  refine j_aload_n X (q := 0) dX0_tick_0 rfl ?_
  obtain ⟨o_1, ho_1, hR⟩ := bd_some hR
  refine j_callV X (As := []) (rest := []) (ws2 := [cBal r_ r_P r_A o_1.1 se z, cJar cJ r_A 4 f_A, cPus r_P r_Pt r_Pw r_Ps o_1.2.1, cIar cI r_Ps 8 o_1.2.2.1, cIar cI r_Pt 8 o_1.2.2.2.1, cIar cI r_Pw 8 o_1.2.2.2.2]) (q0 := 0) (ci := 0) (mX0_bePushed l D cI cJ cB cT tt r_ r_P r_A r_Pt r_Pw r_Ps ho_1) [0, 2, 3, 4, 5] [.inr 0, .inl 1, .inr 1, .inr 2, .inr 3, .inr 4] k_356 k_353 k_355 k_1 rfl rfl k_40 hdX0_bePushed (by decide) (Nat.le_of_ble_eq_true rfl) dX0_tick_1 (by decide) rfl rfl (by decide) rfl rfl ?_
  refine j_aload_n X (q := 0) dX0_tick_4 rfl ?_
  refine j_iconst X (v := 0) dX0_tick_5 (by decide) ?_
  obtain ⟨o_2, ho_2, hR⟩ := bd_some hR
  refine j_callV X (As := [.int 0]) (rest := []) (ws2 := [cBal r_ r_P r_A o_1.1 o_2.1 z, cJar cJ r_A 4 o_2.2, cPus r_P r_Pt r_Pw r_Ps o_1.2.1, cIar cI r_Ps 8 o_1.2.2.1, cIar cI r_Pt 8 o_1.2.2.2.1, cIar cI r_Pw 8 o_1.2.2.2.2]) (q0 := 0) (ci := 0) (mX0_settle l D cI cJ cB cT tt r_ r_P r_A ho_2) [0, 1] [.inr 0, .inr 1, .inl 2, .inl 3, .inl 4, .inl 5] k_315 k_312 k_314 k_0 rfl rfl k_40 hdX0_settle (by decide) (Nat.le_of_ble_eq_true rfl) dX0_tick_6 (by decide) rfl rfl (by decide) rfl rfl ?_
  refine j_aload_n X (q := 0) dX0_tick_9 rfl ?_
  refine j_dup X dX0_tick_10 rfl ?_
  refine j_get X 0 1 hiX0 k_100 dX0_tick_11 rfl rfl (by decide) rfl ?_
  refine j_aload_n X (q := 0) dX0_tick_14 rfl ?_
  refine j_get X 0 0 hiX0 k_98 dX0_tick_15 rfl rfl (by decide) rfl ?_
  refine j_aload_n X (q := 0) dX0_tick_18 rfl ?_
  refine j_get X 0 8 hiX0 k_110 dX0_tick_19 rfl rfl (by decide) rfl ?_
  refine j_imul X dX0_tick_22 ?_
  refine j_bipush X (v := 32) dX0_tick_23 (by decide) ?_
  refine j_idiv X dX0_tick_25 (by decide) ?_
  refine j_isub X dX0_tick_26 ?_
  obtain ⟨b_3, eb_3, hR⟩ := lt_some hR
  refine j_put X (ws2 := [cBal r_ r_P r_A b_3 o_2.1 z, cJar cJ r_A 4 o_2.2, cPus r_P r_Pt r_Pw r_Ps o_1.2.1, cIar cI r_Ps 8 o_1.2.2.1, cIar cI r_Pt 8 o_1.2.2.2.1, cIar cI r_Pw 8 o_1.2.2.2.2]) 0 1 hiX0 tyX0_ok nmX0 k_100 dX0_tick_27 rfl rfl (by decide) (by decide) rfl rfl (Nat.le_of_ble_eq_true rfl) (by subst eb_3; rfl) ?_
  refine j_aload_n X (q := 0) dX0_tick_30 rfl ?_
  refine j_iconst X (v := 1) dX0_tick_31 (by decide) ?_
  obtain ⟨o_4, ho_4, hR⟩ := bd_some hR
  refine j_callV X (As := [.int 1]) (rest := []) (ws2 := [cBal r_ r_P r_A b_3 o_4.1 z, cJar cJ r_A 4 o_4.2, cPus r_P r_Pt r_Pw r_Ps o_1.2.1, cIar cI r_Ps 8 o_1.2.2.1, cIar cI r_Pt 8 o_1.2.2.2.1, cIar cI r_Pw 8 o_1.2.2.2.2]) (q0 := 0) (ci := 0) (mX0_settle l D cI cJ cB cT tt r_ r_P r_A ho_4) [0, 1] [.inr 0, .inr 1, .inl 2, .inl 3, .inl 4, .inl 5] k_315 k_312 k_314 k_0 rfl rfl k_40 hdX0_settle (by decide) (Nat.le_of_ble_eq_true rfl) dX0_tick_32 (by decide) rfl rfl (by decide) rfl rfl ?_
  refine j_aload_n X (q := 0) dX0_tick_35 rfl ?_
  obtain ⟨o_5, ho_5, hR⟩ := bd_some hR
  refine j_callV X (As := []) (rest := []) (ws2 := [cBal r_ r_P r_A o_5 o_4.1 z, cJar cJ r_A 4 o_4.2, cPus r_P r_Pt r_Pw r_Ps o_1.2.1, cIar cI r_Ps 8 o_1.2.2.1, cIar cI r_Pt 8 o_1.2.2.2.1, cIar cI r_Pw 8 o_1.2.2.2.2]) (q0 := 0) (ci := 0) (mX0_beDragged l D cI cJ cB cT tt r_ r_P r_A ho_5) [0] [.inr 0, .inl 1, .inl 2, .inl 3, .inl 4, .inl 5] k_374 k_371 k_373 k_3 rfl rfl k_40 hdX0_beDragged (by decide) (Nat.le_of_ble_eq_true rfl) dX0_tick_36 (by decide) rfl rfl (by decide) rfl rfl ?_
  refine j_aload_n X (q := 0) dX0_tick_39 rfl ?_
  refine j_iconst X (v := 2) dX0_tick_40 (by decide) ?_
  obtain ⟨o_6, ho_6, hR⟩ := bd_some hR
  refine j_callV X (As := [.int 2]) (rest := []) (ws2 := [cBal r_ r_P r_A o_5 o_6.1 z, cJar cJ r_A 4 o_6.2, cPus r_P r_Pt r_Pw r_Ps o_1.2.1, cIar cI r_Ps 8 o_1.2.2.1, cIar cI r_Pt 8 o_1.2.2.2.1, cIar cI r_Pw 8 o_1.2.2.2.2]) (q0 := 0) (ci := 0) (mX0_settle l D cI cJ cB cT tt r_ r_P r_A ho_6) [0, 1] [.inr 0, .inr 1, .inl 2, .inl 3, .inl 4, .inl 5] k_315 k_312 k_314 k_0 rfl rfl k_40 hdX0_settle (by decide) (Nat.le_of_ble_eq_true rfl) dX0_tick_41 (by decide) rfl rfl (by decide) rfl rfl ?_
  refine j_aload_n X (q := 0) dX0_tick_44 rfl ?_
  refine j_get X 0 0 hiX0 k_98 dX0_tick_45 rfl rfl (by decide) rfl ?_
  obtain ⟨x1_7, ex1_7, hR⟩ := lt_some hR
  refine j_eq (congrArg (fun z => Value.int z :: _) ex1_7) rfl ?_
  refine j_istore_n X (lv2 := [(1, .int x1_7), (0, .ref r_)]) dX0_tick_48 (by decide) rfl ?_
  refine j_aload_n X (q := 1) dX0_tick_49 rfl ?_
  obtain ⟨o_8, ho_8, hR⟩ := bd_some hR
  refine j_callV X (As := []) (rest := []) (ws2 := [cBal r_ r_P r_A o_8 o_6.1 z, cJar cJ r_A 4 o_6.2, cPus r_P r_Pt r_Pw r_Ps o_1.2.1, cIar cI r_Ps 8 o_1.2.2.1, cIar cI r_Pt 8 o_1.2.2.2.1, cIar cI r_Pw 8 o_1.2.2.2.2]) (q0 := 0) (ci := 0) (mX0_swing l D cI cJ cB cT tt r_ r_P r_A ho_8) [0] [.inr 0, .inl 1, .inl 2, .inl 3, .inl 4, .inl 5] k_378 k_375 k_377 k_4 rfl rfl k_40 hdX0_swing (by decide) (Nat.le_of_ble_eq_true rfl) dX0_tick_50 (by decide) rfl rfl (by decide) rfl rfl ?_
  refine j_aload_n X (q := 1) dX0_tick_53 rfl ?_
  refine j_iconst X (v := 1) dX0_tick_54 (by decide) ?_
  obtain ⟨o_9, ho_9, hR⟩ := bd_some hR
  refine j_callV X (As := [.int 1]) (rest := []) (ws2 := [cBal r_ r_P r_A o_8 o_9.1 z, cJar cJ r_A 4 o_9.2, cPus r_P r_Pt r_Pw r_Ps o_1.2.1, cIar cI r_Ps 8 o_1.2.2.1, cIar cI r_Pt 8 o_1.2.2.2.1, cIar cI r_Pw 8 o_1.2.2.2.2]) (q0 := 0) (ci := 0) (mX0_settle l D cI cJ cB cT tt r_ r_P r_A ho_9) [0, 1] [.inr 0, .inr 1, .inl 2, .inl 3, .inl 4, .inl 5] k_315 k_312 k_314 k_0 rfl rfl k_40 hdX0_settle (by decide) (Nat.le_of_ble_eq_true rfl) dX0_tick_55 (by decide) rfl rfl (by decide) rfl rfl ?_
  refine j_aload_n X (q := 1) dX0_tick_58 rfl ?_
  refine j_iload_n X (q := 0) dX0_tick_59 rfl ?_
  obtain ⟨o_10, ho_10, hR⟩ := bd_some hR
  refine j_callV X (As := [.int x1_7]) (rest := []) (ws2 := [cBal r_ r_P r_A o_8 o_9.1 z, cJar cJ r_A 4 o_9.2, cPus r_P r_Pt r_Pw r_Ps o_1.2.1, cIar cI r_Ps 8 o_1.2.2.1, cIar cI r_Pt 8 o_1.2.2.2.1, cIar cI r_Pw 8 o_1.2.2.2.2]) (q0 := 0) (ci := 0) (mX0_isLetGo l D cI cJ cB cT tt r_ r_P r_A ho_10) [0] [.inr 0, .inl 1, .inl 2, .inl 3, .inl 4, .inl 5] k_382 k_379 k_381 k_5 rfl rfl k_40 hdX0_isLetGo (by decide) (Nat.le_of_ble_eq_true rfl) dX0_tick_60 (by decide) rfl rfl (by decide) rfl rfl ?_
  refine j_istore_n X (lv2 := [(2, .int o_10), (1, .int x1_7), (0, .ref r_)]) dX0_tick_63 (by decide) rfl ?_
  refine j_iload_n X (q := 0) dX0_tick_64 rfl ?_
  refine j_if_eq X (tgt := 72) dX0_tick_65 (by decide) (fun c_11 => ?_) (fun c_11 => ?_)
  · replace hR := (if_pos c_11).symm.trans hR
    refine j_sub (lv2 := [(0, .ref r_), (2, .int o_10)]) [2, 0] rfl ?_
    exact L_72 _ _ _ _ _ _ _ _ hR
  · replace hR := (if_neg c_11).symm.trans hR
    refine j_aload_n X (q := 2) dX0_tick_68 rfl ?_
    obtain ⟨o_12, ho_12, hR⟩ := bd_some hR
    refine j_callV X (As := []) (rest := []) (ws2 := [cBal r_ r_P r_A o_12 o_9.1 z, cJar cJ r_A 4 o_9.2, cPus r_P r_Pt r_Pw r_Ps o_1.2.1, cIar cI r_Ps 8 o_1.2.2.1, cIar cI r_Pt 8 o_1.2.2.2.1, cIar cI r_Pw 8 o_1.2.2.2.2]) (q0 := 0) (ci := 0) (mX0_beKicked l D cI cJ cB cT tt r_ r_P r_A ho_12) [0] [.inr 0, .inl 1, .inl 2, .inl 3, .inl 4, .inl 5] k_386 k_383 k_385 k_6 rfl rfl k_40 hdX0_beKicked (by decide) (Nat.le_of_ble_eq_true rfl) dX0_tick_69 (by decide) rfl rfl (by decide) rfl rfl ?_
    refine j_sub (lv2 := [(0, .ref r_), (2, .int o_10)]) [2, 0] rfl ?_
    exact L_72 _ _ _ _ _ _ _ _ hR
