def rmX9_within : Room := { frames := 0, cells := 0, slots := 0, locals := 0 }
theorem hdX9_within : yX9_within.cls ≠ "java/lang/invoke/MethodHandle" ∧ yX9_within.cls ≠ "java/lang/invoke/VarHandle" ∧ (parseMethodDescriptor yX9_within.desc).map (fun d => d.parameters.length) = some 3 := by decide +kernel
def fX9_within (i0 : Int32) (i1 : Int32) (i2 : Int32) : Option (Int32) :=
  if i0 < i1 then (some 0) else (if i2 < i0 then (some 0) else (some 1))
set_option maxHeartbeats 8000000 in
set_option maxRecDepth 100000 in
theorem mX9_within (l : Launch) (D : va_G) (cI cJ cB cT : ClassId) (tt : Nat → Nat) {i0 : Int32} {i1 : Int32} {i2 : Int32}  {out : Int32} (h : fX9_within i0 i1 i2 = some out) :
    jM l yX9_within (.code yX9_within cX9_within 3 (some .boolean)) rmX9_within D (wTy cI cJ cB cT) tt [.int i0, .int i1, .int i2] [] (some (.int out)) [] := by
  refine jM.of (by decide) (Nat.le_of_ble_eq_true rfl) ?_
  intro p e s m below meth c A X hr
  refine j_sub (lv2 := [(0, .int i0), (1, .int i1), (2, .int i2)]) [0, 1, 2] rfl ?_
  have hR := h
  unfold fX9_within at hR
  refine j_iload_n X (q := 0) dX9_within_0 rfl ?_
  refine j_iload_n X (q := 1) dX9_within_1 rfl ?_
  refine j_icmp_lt X (tgt := 14) dX9_within_2 (by decide) (fun cv1 => ?_) (fun cv1 => ?_)
  · replace hR := (if_pos cv1).symm.trans hR
    refine j_iconst X (v := 0) dX9_within_14 (by decide) ?_
    have hR := Option.some.inj hR
    exact j_zret X hr rfl dX9_within_15 (by rw [← hR]) rfl
  · replace hR := (if_neg cv1).symm.trans hR
    refine j_iload_n X (q := 0) dX9_within_5 rfl ?_
    refine j_iload_n X (q := 2) dX9_within_6 rfl ?_
    refine j_icmp_gt X (tgt := 14) dX9_within_7 (by decide) (fun cv2 => ?_) (fun cv2 => ?_)
    · replace hR := (if_pos cv2).symm.trans hR
      refine j_iconst X (v := 0) dX9_within_14 (by decide) ?_
      have hR := Option.some.inj hR
      exact j_zret X hr rfl dX9_within_15 (by rw [← hR]) rfl
    · replace hR := (if_neg cv2).symm.trans hR
      refine j_iconst X (v := 1) dX9_within_10 (by decide) ?_
      refine j_goto X (tgt := 15) dX9_within_11 (by decide) ?_
      have hR := Option.some.inj hR
      exact j_zret X hr rfl dX9_within_15 (by rw [← hR]) rfl

def rmX9_isSo : Room := { frames := 1, cells := 0, slots := 0, locals := 22 }
theorem hdX9_isSo : yX9_isSo.cls ≠ "java/lang/invoke/MethodHandle" ∧ yX9_isSo.cls ≠ "java/lang/invoke/VarHandle" ∧ (parseMethodDescriptor yX9_isSo.desc).map (fun d => d.parameters.length) = some 2 := by decide +kernel
def fX9_isSo (i0 : Int32) (i1 : Int32) : Option (Int32) :=
  if i0 = 0 then ((fX9_within i1 (-300) 300).bind fun ov2 =>
  gd (zb ov2) (some ov2)) else (if i0 = 1 then ((fX9_within i1 (-400) 400).bind fun ov5 =>
  gd (zb ov5) (some ov5)) else (if i0 = 2 then ((fX9_within i1 1 32).bind fun ov8 =>
  gd (zb ov8) (some ov8)) else (if i0 = 3 then ((fX9_within i1 0 9).bind fun ov11 =>
  gd (zb ov11) (some ov11)) else (if i0 = 4 then ((fX9_within i1 (-20) 20).bind fun ov14 =>
  gd (zb ov14) (some ov14)) else (if i0 = 5 then ((fX9_within i1 0 60).bind fun ov17 =>
  gd (zb ov17) (some ov17)) else ((fX9_within i1 1 99).bind fun ov19 =>
  gd (zb ov19) (some ov19)))))))
set_option maxHeartbeats 8000000 in
set_option maxRecDepth 100000 in
theorem mX9_isSo (l : Launch) (D : va_G) (cI cJ cB cT : ClassId) (tt : Nat → Nat) {i0 : Int32} {i1 : Int32}  {out : Int32} (h : fX9_isSo i0 i1 = some out) :
    jM l yX9_isSo (.code yX9_isSo cX9_isSo 2 (some .boolean)) rmX9_isSo D (wTy cI cJ cB cT) tt [.int i0, .int i1] [] (some (.int out)) [] := by
  refine jM.of (by decide) (Nat.le_of_ble_eq_true rfl) ?_
  intro p e s m below meth c A X hr
  refine j_sub (lv2 := [(0, .int i0), (1, .int i1)]) [0, 1] rfl ?_
  have hR := h
  unfold fX9_isSo at hR
  refine j_iload_n X (q := 0) dX9_isSo_0 rfl ?_
  by_cases cv1 : i0 = 0
  · replace hR := (if_pos cv1).symm.trans hR
    refine j_tableIn X (tgt := 40) dX9_isSo_1 (by rw [cv1]; decide) (by rw [cv1]; decide) (by rw [cv1]; rfl) (by decide) ?_
    refine j_iload_n X (q := 1) dX9_isSo_40 rfl ?_
    refine j_sipush X (v := (-300)) dX9_isSo_41 (by decide) ?_
    refine j_sipush X (v := 300) dX9_isSo_44 (by decide) ?_
    obtain ⟨ov2, hov2, hR⟩ := bd_some hR
    refine j_callS X (As := [.int i1, .int (-300), .int 300]) (rest := []) (ws2 := []) (mX9_within l D cI cJ cB cT tt  hov2) [] [] k_735 k_733 k_734 k_47 hdX9_within (by decide) (Nat.le_of_ble_eq_true rfl) dX9_isSo_47 (by decide) rfl rfl (by decide) rfl rfl ?_
    obtain ⟨gv3, hR⟩ := gd_some hR
    have hR := Option.some.inj hR
    exact j_zret X hr (zb_nar gv3) dX9_isSo_50 (by rw [← hR]) rfl
  · replace hR := (if_neg cv1).symm.trans hR
    by_cases cv4 : i0 = 1
    · replace hR := (if_pos cv4).symm.trans hR
      refine j_tableIn X (tgt := 51) dX9_isSo_1 (by rw [cv4]; decide) (by rw [cv4]; decide) (by rw [cv4]; rfl) (by decide) ?_
      refine j_iload_n X (q := 1) dX9_isSo_51 rfl ?_
      refine j_sipush X (v := (-400)) dX9_isSo_52 (by decide) ?_
      refine j_sipush X (v := 400) dX9_isSo_55 (by decide) ?_
      obtain ⟨ov5, hov5, hR⟩ := bd_some hR
      refine j_callS X (As := [.int i1, .int (-400), .int 400]) (rest := []) (ws2 := []) (mX9_within l D cI cJ cB cT tt  hov5) [] [] k_735 k_733 k_734 k_47 hdX9_within (by decide) (Nat.le_of_ble_eq_true rfl) dX9_isSo_58 (by decide) rfl rfl (by decide) rfl rfl ?_
      obtain ⟨gv6, hR⟩ := gd_some hR
      have hR := Option.some.inj hR
      exact j_zret X hr (zb_nar gv6) dX9_isSo_61 (by rw [← hR]) rfl
    · replace hR := (if_neg cv4).symm.trans hR
      by_cases cv7 : i0 = 2
      · replace hR := (if_pos cv7).symm.trans hR
        refine j_tableIn X (tgt := 62) dX9_isSo_1 (by rw [cv7]; decide) (by rw [cv7]; decide) (by rw [cv7]; rfl) (by decide) ?_
        refine j_iload_n X (q := 1) dX9_isSo_62 rfl ?_
        refine j_iconst X (v := 1) dX9_isSo_63 (by decide) ?_
        refine j_bipush X (v := 32) dX9_isSo_64 (by decide) ?_
        obtain ⟨ov8, hov8, hR⟩ := bd_some hR
        refine j_callS X (As := [.int i1, .int 1, .int 32]) (rest := []) (ws2 := []) (mX9_within l D cI cJ cB cT tt  hov8) [] [] k_735 k_733 k_734 k_47 hdX9_within (by decide) (Nat.le_of_ble_eq_true rfl) dX9_isSo_66 (by decide) rfl rfl (by decide) rfl rfl ?_
        obtain ⟨gv9, hR⟩ := gd_some hR
        have hR := Option.some.inj hR
        exact j_zret X hr (zb_nar gv9) dX9_isSo_69 (by rw [← hR]) rfl
      · replace hR := (if_neg cv7).symm.trans hR
        by_cases cv10 : i0 = 3
        · replace hR := (if_pos cv10).symm.trans hR
          refine j_tableIn X (tgt := 70) dX9_isSo_1 (by rw [cv10]; decide) (by rw [cv10]; decide) (by rw [cv10]; rfl) (by decide) ?_
          refine j_iload_n X (q := 1) dX9_isSo_70 rfl ?_
          refine j_iconst X (v := 0) dX9_isSo_71 (by decide) ?_
          refine j_bipush X (v := 9) dX9_isSo_72 (by decide) ?_
          obtain ⟨ov11, hov11, hR⟩ := bd_some hR
          refine j_callS X (As := [.int i1, .int 0, .int 9]) (rest := []) (ws2 := []) (mX9_within l D cI cJ cB cT tt  hov11) [] [] k_735 k_733 k_734 k_47 hdX9_within (by decide) (Nat.le_of_ble_eq_true rfl) dX9_isSo_74 (by decide) rfl rfl (by decide) rfl rfl ?_
          obtain ⟨gv12, hR⟩ := gd_some hR
          have hR := Option.some.inj hR
          exact j_zret X hr (zb_nar gv12) dX9_isSo_77 (by rw [← hR]) rfl
        · replace hR := (if_neg cv10).symm.trans hR
          by_cases cv13 : i0 = 4
          · replace hR := (if_pos cv13).symm.trans hR
            refine j_tableIn X (tgt := 78) dX9_isSo_1 (by rw [cv13]; decide) (by rw [cv13]; decide) (by rw [cv13]; rfl) (by decide) ?_
            refine j_iload_n X (q := 1) dX9_isSo_78 rfl ?_
            refine j_bipush X (v := (-20)) dX9_isSo_79 (by decide) ?_
            refine j_bipush X (v := 20) dX9_isSo_81 (by decide) ?_
            obtain ⟨ov14, hov14, hR⟩ := bd_some hR
            refine j_callS X (As := [.int i1, .int (-20), .int 20]) (rest := []) (ws2 := []) (mX9_within l D cI cJ cB cT tt  hov14) [] [] k_735 k_733 k_734 k_47 hdX9_within (by decide) (Nat.le_of_ble_eq_true rfl) dX9_isSo_83 (by decide) rfl rfl (by decide) rfl rfl ?_
            obtain ⟨gv15, hR⟩ := gd_some hR
            have hR := Option.some.inj hR
            exact j_zret X hr (zb_nar gv15) dX9_isSo_86 (by rw [← hR]) rfl
          · replace hR := (if_neg cv13).symm.trans hR
            by_cases cv16 : i0 = 5
            · replace hR := (if_pos cv16).symm.trans hR
              refine j_tableIn X (tgt := 87) dX9_isSo_1 (by rw [cv16]; decide) (by rw [cv16]; decide) (by rw [cv16]; rfl) (by decide) ?_
              refine j_iload_n X (q := 1) dX9_isSo_87 rfl ?_
              refine j_iconst X (v := 0) dX9_isSo_88 (by decide) ?_
              refine j_bipush X (v := 60) dX9_isSo_89 (by decide) ?_
              obtain ⟨ov17, hov17, hR⟩ := bd_some hR
              refine j_callS X (As := [.int i1, .int 0, .int 60]) (rest := []) (ws2 := []) (mX9_within l D cI cJ cB cT tt  hov17) [] [] k_735 k_733 k_734 k_47 hdX9_within (by decide) (Nat.le_of_ble_eq_true rfl) dX9_isSo_91 (by decide) rfl rfl (by decide) rfl rfl ?_
              obtain ⟨gv18, hR⟩ := gd_some hR
              have hR := Option.some.inj hR
              exact j_zret X hr (zb_nar gv18) dX9_isSo_94 (by rw [← hR]) rfl
            · replace hR := (if_neg cv16).symm.trans hR
              refine j_tableOut X (tgt := 95) dX9_isSo_1 (by have hcv1 := lv_neT cv1 (a := 0) rfl; have hcv4 := lv_neT cv4 (a := 1) rfl; have hcv7 := lv_neT cv7 (a := 2) rfl; have hcv10 := lv_neT cv10 (a := 3) rfl; have hcv13 := lv_neT cv13 (a := 4) rfl; have hcv16 := lv_neT cv16 (a := 5) rfl; omega) (by decide) ?_
              refine j_iload_n X (q := 1) dX9_isSo_95 rfl ?_
              refine j_iconst X (v := 1) dX9_isSo_96 (by decide) ?_
              refine j_bipush X (v := 99) dX9_isSo_97 (by decide) ?_
              obtain ⟨ov19, hov19, hR⟩ := bd_some hR
              refine j_callS X (As := [.int i1, .int 1, .int 99]) (rest := []) (ws2 := []) (mX9_within l D cI cJ cB cT tt  hov19) [] [] k_735 k_733 k_734 k_47 hdX9_within (by decide) (Nat.le_of_ble_eq_true rfl) dX9_isSo_99 (by decide) rfl rfl (by decide) rfl rfl ?_
              obtain ⟨gv20, hR⟩ := gd_some hR
              have hR := Option.some.inj hR
              exact j_zret X hr (zb_nar gv20) dX9_isSo_102 (by rw [← hR]) rfl

def rmX9_energyNow : Room := { frames := 0, cells := 0, slots := 0, locals := 0 }
theorem hdX9_energyNow : yX9_energyNow.cls ≠ "java/lang/invoke/MethodHandle" ∧ yX9_energyNow.cls ≠ "java/lang/invoke/VarHandle" ∧ (parseMethodDescriptor yX9_energyNow.desc).map (fun d => d.parameters.length) = some 0 := by decide +kernel
def fX9_energyNow (im : Int32) (be : Int32) (bg : Int32) (tx : Int32) (ta : Int32) (fa : Int32) (cl : Int32) (f_n : Nat → Int32) : Option (Int64) :=
  some ((((32 : Int64) * ((f_n 1).toInt64)) * ((f_n 1).toInt64)) + ((((f_n 2).toInt64) * ((f_n 0).toInt64)) * ((f_n 0).toInt64)))
set_option maxHeartbeats 8000000 in
set_option maxRecDepth 100000 in
theorem mX9_energyNow (l : Launch) (D : va_G) (cI cJ cB cT : ClassId) (tt : Nat → Nat) (r_ r_n r_o r_h r_A r_O r_H r_b r_x r_c r_m r_s r_z r_i r_v : Nat)  {im : Int32} {be : Int32} {bg : Int32} {tx : Int32} {ta : Int32} {fa : Int32} {cl : Int32} {f_n : Nat → Int32} {out : Int64} (h : fX9_energyNow im be bg tx ta fa cl f_n = some out) :
    jM l yX9_energyNow (.code yX9_energyNow cX9_energyNow 1 (some .long)) rmX9_energyNow D (wTy cI cJ cB cT) tt [.ref r_] [cMod r_ r_n r_o r_h r_A r_O r_H r_b r_x r_c r_m r_s r_z r_i r_v im be bg tx ta fa cl, cIar cI r_n 69 f_n] (some (.long out)) [cMod r_ r_n r_o r_h r_A r_O r_H r_b r_x r_c r_m r_s r_z r_i r_v im be bg tx ta fa cl, cIar cI r_n 69 f_n] := by
  refine jM.of (by decide) (Nat.le_of_ble_eq_true rfl) ?_
  intro p e s m below meth c A X hr
  refine j_sub (lv2 := [(0, .ref r_)]) [0] rfl ?_
  have hR := h
  unfold fX9_energyNow at hR
  refine j_ldc2 X k_743 dX9_energyNow_0 ?_
  refine j_aload_n X (q := 0) dX9_energyNow_3 rfl ?_
  refine j_get X 0 0 hiX9 k_665 dX9_energyNow_4 rfl rfl (by decide) rfl ?_
  refine j_iconst X (v := 1) dX9_energyNow_7 (by decide) ?_
  refine j_iald X (k := 1) 1 0 rfl dX9_energyNow_8 rfl rfl (by decide) ?_
  refine j_i2l X dX9_energyNow_9 ?_
  refine j_lmul X dX9_energyNow_10 ?_
  refine j_aload_n X (q := 0) dX9_energyNow_11 rfl ?_
  refine j_get X 0 0 hiX9 k_665 dX9_energyNow_12 rfl rfl (by decide) rfl ?_
  refine j_iconst X (v := 1) dX9_energyNow_15 (by decide) ?_
  refine j_iald X (k := 1) 1 0 rfl dX9_energyNow_16 rfl rfl (by decide) ?_
  refine j_i2l X dX9_energyNow_17 ?_
  refine j_lmul X dX9_energyNow_18 ?_
  refine j_aload_n X (q := 0) dX9_energyNow_19 rfl ?_
  refine j_get X 0 0 hiX9 k_665 dX9_energyNow_20 rfl rfl (by decide) rfl ?_
  refine j_iconst X (v := 2) dX9_energyNow_23 (by decide) ?_
  refine j_iald X (k := 2) 1 0 rfl dX9_energyNow_24 rfl rfl (by decide) ?_
  refine j_i2l X dX9_energyNow_25 ?_
  refine j_aload_n X (q := 0) dX9_energyNow_26 rfl ?_
  refine j_get X 0 0 hiX9 k_665 dX9_energyNow_27 rfl rfl (by decide) rfl ?_
  refine j_iconst X (v := 0) dX9_energyNow_30 (by decide) ?_
  refine j_iald X (k := 0) 1 0 rfl dX9_energyNow_31 rfl rfl (by decide) ?_
  refine j_i2l X dX9_energyNow_32 ?_
  refine j_lmul X dX9_energyNow_33 ?_
  refine j_aload_n X (q := 0) dX9_energyNow_34 rfl ?_
  refine j_get X 0 0 hiX9 k_665 dX9_energyNow_35 rfl rfl (by decide) rfl ?_
  refine j_iconst X (v := 0) dX9_energyNow_38 (by decide) ?_
  refine j_iald X (k := 0) 1 0 rfl dX9_energyNow_39 rfl rfl (by decide) ?_
  refine j_i2l X dX9_energyNow_40 ?_
  refine j_lmul X dX9_energyNow_41 ?_
  refine j_ladd X dX9_energyNow_42 ?_
  have hR := Option.some.inj hR
  exact j_lret X hr dX9_energyNow_43 (by rw [← hR]) rfl

def rmX9_set : Room := { frames := 2, cells := 0, slots := 0, locals := 43 }
theorem hdX9_set : yX9_set.cls ≠ "java/lang/invoke/MethodHandle" ∧ yX9_set.cls ≠ "java/lang/invoke/VarHandle" ∧ (parseMethodDescriptor yX9_set.desc).map (fun d => d.parameters.length) = some 2 := by decide +kernel
def fX9_set (i1 : Int32) (i2 : Int32) (im : Int32) (be : Int32) (bg : Int32) (tx : Int32) (ta : Int32) (fa : Int32) (cl : Int32) (f_A : Nat → Int64) (f_n : Nat → Int32) : Option (Int32 × (Nat → Int64) × (Nat → Int32)) :=
  (fX9_within i1 0 6).bind fun ov1 =>
  if ov1 = 0 then (some ((-1000), f_A, f_n)) else ((fX9_isSo i1 i2).bind fun ov3 =>
  if ov3 = 0 then (some ((-1001), f_A, f_n)) else (gd (inb i1 69) (lt' (f_n i1.toNatClampNeg) fun x3v6 =>
  (fX9_energyNow im be bg tx ta fa cl f_n).bind fun ov7 =>
  gd (inb i1 69) (lt' (upd f_n i1.toNatClampNeg i2) fun f_nv9 =>
  (fX9_energyNow im be bg tx ta fa cl f_nv9).bind fun ov10 =>
  lt' (vp_updL f_A 0 ((f_A 0) + (ov10 - ov7))) fun f_Av11 =>
  some (x3v6, f_Av11, f_nv9)))))
set_option maxHeartbeats 8000000 in
set_option maxRecDepth 100000 in
theorem mX9_set (l : Launch) (D : va_G) (cI cJ cB cT : ClassId) (tt : Nat → Nat) (r_ r_n r_o r_h r_A r_O r_H r_b r_x r_c r_m r_s r_z r_i r_v : Nat) {i1 : Int32} {i2 : Int32} {im : Int32} {be : Int32} {bg : Int32} {tx : Int32} {ta : Int32} {fa : Int32} {cl : Int32} {f_A : Nat → Int64} {f_n : Nat → Int32} {out : Int32 × (Nat → Int64) × (Nat → Int32)} (h : fX9_set i1 i2 im be bg tx ta fa cl f_A f_n = some out) :
    jM l yX9_set (.code yX9_set cX9_set 6 (some .int)) rmX9_set D (wTy cI cJ cB cT) tt [.ref r_, .int i1, .int i2] [cMod r_ r_n r_o r_h r_A r_O r_H r_b r_x r_c r_m r_s r_z r_i r_v im be bg tx ta fa cl, cJar cJ r_A 4 f_A, cIar cI r_n 69 f_n] (some (.int out.1)) [cMod r_ r_n r_o r_h r_A r_O r_H r_b r_x r_c r_m r_s r_z r_i r_v im be bg tx ta fa cl, cJar cJ r_A 4 out.2.1, cIar cI r_n 69 out.2.2] := by
  refine jM.of (by decide) (Nat.le_of_ble_eq_true rfl) ?_
  intro p e s m below meth c A X hr
  refine j_sub (lv2 := [(0, .ref r_), (1, .int i1), (2, .int i2)]) [0, 1, 2] rfl ?_
  have hR := h
  unfold fX9_set at hR
  refine j_iload_n X (q := 1) dX9_set_0 rfl ?_
  refine j_iconst X (v := 0) dX9_set_1 (by decide) ?_
  refine j_bipush X (v := 6) dX9_set_2 (by decide) ?_
  obtain ⟨ov1, hov1, hR⟩ := bd_some hR
  refine j_callS X (As := [.int i1, .int 0, .int 6]) (rest := []) (ws2 := [cMod r_ r_n r_o r_h r_A r_O r_H r_b r_x r_c r_m r_s r_z r_i r_v im be bg tx ta fa cl, cJar cJ r_A 4 f_A, cIar cI r_n 69 f_n]) (mX9_within l D cI cJ cB cT tt  hov1) [] [.inl 0, .inl 1, .inl 2] k_735 k_733 k_734 k_47 hdX9_within (by decide) (Nat.le_of_ble_eq_true rfl) dX9_set_4 (by decide) rfl rfl (by decide) rfl rfl ?_
  refine j_if_ne X (tgt := 14) dX9_set_7 (by decide) (fun cv2 => ?_) (fun cv2 => ?_)
  · replace hR := (if_neg cv2).symm.trans hR
    refine j_iload_n X (q := 1) dX9_set_14 rfl ?_
    refine j_iload_n X (q := 2) dX9_set_15 rfl ?_
    obtain ⟨ov3, hov3, hR⟩ := bd_some hR
    refine j_callS X (As := [.int i1, .int i2]) (rest := []) (ws2 := [cMod r_ r_n r_o r_h r_A r_O r_H r_b r_x r_c r_m r_s r_z r_i r_v im be bg tx ta fa cl, cJar cJ r_A 4 f_A, cIar cI r_n 69 f_n]) (mX9_isSo l D cI cJ cB cT tt  hov3) [] [.inl 0, .inl 1, .inl 2] k_738 k_736 k_737 k_47 hdX9_isSo (by decide) (Nat.le_of_ble_eq_true rfl) dX9_set_16 (by decide) rfl rfl (by decide) rfl rfl ?_
    refine j_if_ne X (tgt := 26) dX9_set_19 (by decide) (fun cv4 => ?_) (fun cv4 => ?_)
    · replace hR := (if_neg cv4).symm.trans hR
      refine j_aload_n X (q := 0) dX9_set_26 rfl ?_
      refine j_get X 0 0 hiX9 k_665 dX9_set_27 rfl rfl (by decide) rfl ?_
      refine j_iload_n X (q := 1) dX9_set_30 rfl ?_
      obtain ⟨gv5, hR⟩ := gd_some hR
      refine j_iald X 2 0 rfl dX9_set_31 rfl rfl gv5 ?_
      obtain ⟨x3v6, ex3v6, hR⟩ := lt_some hR
      refine j_eq (congrArg (fun z => Value.int z :: _) ex3v6) rfl ?_
      refine j_istore_n X (lv2 := [(3, .int x3v6), (0, .ref r_), (1, .int i1), (2, .int i2)]) dX9_set_32 (by decide) rfl ?_
      refine j_aload_n X (q := 1) dX9_set_33 rfl ?_
      obtain ⟨ov7, hov7, hR⟩ := bd_some hR
      refine j_callV X (As := []) (rest := []) (ws2 := [cMod r_ r_n r_o r_h r_A r_O r_H r_b r_x r_c r_m r_s r_z r_i r_v im be bg tx ta fa cl, cJar cJ r_A 4 f_A, cIar cI r_n 69 f_n]) (q0 := 0) (ci := 9) (mX9_energyNow l D cI cJ cB cT tt r_ r_n r_o r_h r_A r_O r_H r_b r_x r_c r_m r_s r_z r_i r_v hov7) [0, 2] [.inr 0, .inl 1, .inr 1] k_742 k_739 k_741 k_20 rfl rfl k_47 hdX9_energyNow (by decide) (Nat.le_of_ble_eq_true rfl) dX9_set_34 (by decide) rfl rfl (by decide) rfl rfl ?_
      refine j_lstore X (lv2 := [(4, .long ov7), (3, .int x3v6), (0, .ref r_), (1, .int i1), (2, .int i2)]) dX9_set_37 (by decide) rfl ?_
      refine j_aload_n X (q := 2) dX9_set_39 rfl ?_
      refine j_get X 0 0 hiX9 k_665 dX9_set_40 rfl rfl (by decide) rfl ?_
      refine j_iload_n X (q := 3) dX9_set_43 rfl ?_
      refine j_iload_n X (q := 4) dX9_set_44 rfl ?_
      obtain ⟨gv8, hR⟩ := gd_some hR
      obtain ⟨f_nv9, ef_nv9, hR⟩ := lt_some hR
      refine j_iast X (ws2 := [cMod r_ r_n r_o r_h r_A r_O r_H r_b r_x r_c r_m r_s r_z r_i r_v im be bg tx ta fa cl, cJar cJ r_A 4 f_A, cIar cI r_n 69 f_nv9]) 2 0 rfl dX9_set_45 rfl rfl gv8 ef_nv9 rfl ?_
      refine j_aload_n X (q := 2) dX9_set_46 rfl ?_
      refine j_get X 0 4 hiX9 k_669 dX9_set_47 rfl rfl (by decide) rfl ?_
      refine j_iconst X (v := 0) dX9_set_50 (by decide) ?_
      refine j_dup2_11 X dX9_set_51 rfl rfl ?_
      refine j_lald X (k := 0) 1 1 rfl dX9_set_52 rfl rfl (by decide) ?_
      refine j_aload_n X (q := 2) dX9_set_53 rfl ?_
      obtain ⟨ov10, hov10, hR⟩ := bd_some hR
      refine j_callV X (As := []) (rest := [.long (f_A 0), .int 0, .ref r_A]) (ws2 := [cMod r_ r_n r_o r_h r_A r_O r_H r_b r_x r_c r_m r_s r_z r_i r_v im be bg tx ta fa cl, cJar cJ r_A 4 f_A, cIar cI r_n 69 f_nv9]) (q0 := 0) (ci := 9) (mX9_energyNow l D cI cJ cB cT tt r_ r_n r_o r_h r_A r_O r_H r_b r_x r_c r_m r_s r_z r_i r_v hov10) [0, 2] [.inr 0, .inl 1, .inr 1] k_742 k_739 k_741 k_20 rfl rfl k_47 hdX9_energyNow (by decide) (Nat.le_of_ble_eq_true rfl) dX9_set_54 (by decide) rfl rfl (by decide) rfl rfl ?_
      refine j_lload X (q := 0) dX9_set_57 rfl ?_
      refine j_lsub X dX9_set_59 ?_
      refine j_ladd X dX9_set_60 ?_
      obtain ⟨f_Av11, ef_Av11, hR⟩ := lt_some hR
      refine j_last X (k := 0) (ws2 := [cMod r_ r_n r_o r_h r_A r_O r_H r_b r_x r_c r_m r_s r_z r_i r_v im be bg tx ta fa cl, cJar cJ r_A 4 f_Av11, cIar cI r_n 69 f_nv9]) 1 1 rfl dX9_set_61 rfl rfl (by decide) ef_Av11 rfl ?_
      refine j_iload_n X (q := 1) dX9_set_62 rfl ?_
      have hR := Option.some.inj hR
      exact j_iret X hr dX9_set_63 (by rw [← hR]) (by rw [← hR])
    · replace hR := (if_pos cv4).symm.trans hR
      refine j_sipush X (v := (-1001)) dX9_set_22 (by decide) ?_
      have hR := Option.some.inj hR
      exact j_iret X hr dX9_set_25 (by rw [← hR]) (by rw [← hR])
  · replace hR := (if_pos cv2).symm.trans hR
    refine j_sipush X (v := (-1000)) dX9_set_10 (by decide) ?_
    have hR := Option.some.inj hR
    exact j_iret X hr dX9_set_13 (by rw [← hR]) (by rw [← hR])

def rmX9_told : Room := { frames := 1, cells := 0, slots := 0, locals := 22 }
theorem hdX9_told : yX9_told.cls ≠ "java/lang/invoke/MethodHandle" ∧ yX9_told.cls ≠ "java/lang/invoke/VarHandle" ∧ (parseMethodDescriptor yX9_told.desc).map (fun d => d.parameters.length) = some 1 := by decide +kernel
def fX9_told (i1 : Int32) (im : Int32) (be : Int32) (bg : Int32) (tx : Int32) (ta : Int32) (fa : Int32) (cl : Int32) (f_n : Nat → Int32) : Option (Int32) :=
  (fX9_within i1 0 12).bind fun ov1 =>
  if ov1 = 0 then (some (-1000)) else (gd (inb i1 69) (some (f_n i1.toNatClampNeg)))
set_option maxHeartbeats 8000000 in
set_option maxRecDepth 100000 in
theorem mX9_told (l : Launch) (D : va_G) (cI cJ cB cT : ClassId) (tt : Nat → Nat) (r_ r_n r_o r_h r_A r_O r_H r_b r_x r_c r_m r_s r_z r_i r_v : Nat) {i1 : Int32} {im : Int32} {be : Int32} {bg : Int32} {tx : Int32} {ta : Int32} {fa : Int32} {cl : Int32} {f_n : Nat → Int32} {out : Int32} (h : fX9_told i1 im be bg tx ta fa cl f_n = some out) :
    jM l yX9_told (.code yX9_told cX9_told 2 (some .int)) rmX9_told D (wTy cI cJ cB cT) tt [.ref r_, .int i1] [cMod r_ r_n r_o r_h r_A r_O r_H r_b r_x r_c r_m r_s r_z r_i r_v im be bg tx ta fa cl, cIar cI r_n 69 f_n] (some (.int out)) [cMod r_ r_n r_o r_h r_A r_O r_H r_b r_x r_c r_m r_s r_z r_i r_v im be bg tx ta fa cl, cIar cI r_n 69 f_n] := by
  refine jM.of (by decide) (Nat.le_of_ble_eq_true rfl) ?_
  intro p e s m below meth c A X hr
  refine j_sub (lv2 := [(0, .ref r_), (1, .int i1)]) [0, 1] rfl ?_
  have hR := h
  unfold fX9_told at hR
  refine j_iload_n X (q := 1) dX9_told_0 rfl ?_
  refine j_iconst X (v := 0) dX9_told_1 (by decide) ?_
  refine j_bipush X (v := 12) dX9_told_2 (by decide) ?_
  obtain ⟨ov1, hov1, hR⟩ := bd_some hR
  refine j_callS X (As := [.int i1, .int 0, .int 12]) (rest := []) (ws2 := [cMod r_ r_n r_o r_h r_A r_O r_H r_b r_x r_c r_m r_s r_z r_i r_v im be bg tx ta fa cl, cIar cI r_n 69 f_n]) (mX9_within l D cI cJ cB cT tt  hov1) [] [.inl 0, .inl 1] k_735 k_733 k_734 k_47 hdX9_within (by decide) (Nat.le_of_ble_eq_true rfl) dX9_told_4 (by decide) rfl rfl (by decide) rfl rfl ?_
  refine j_if_eq X (tgt := 19) dX9_told_7 (by decide) (fun cv2 => ?_) (fun cv2 => ?_)
  · replace hR := (if_pos cv2).symm.trans hR
    refine j_sipush X (v := (-1000)) dX9_told_19 (by decide) ?_
    have hR := Option.some.inj hR
    exact j_iret X hr dX9_told_22 (by rw [← hR]) rfl
  · replace hR := (if_neg cv2).symm.trans hR
    refine j_aload_n X (q := 0) dX9_told_10 rfl ?_
    refine j_get X 0 0 hiX9 k_665 dX9_told_11 rfl rfl (by decide) rfl ?_
    refine j_iload_n X (q := 1) dX9_told_14 rfl ?_
    obtain ⟨gv3, hR⟩ := gd_some hR
    refine j_iald X 1 0 rfl dX9_told_15 rfl rfl gv3 ?_
    refine j_goto X (tgt := 22) dX9_told_16 (by decide) ?_
    have hR := Option.some.inj hR
    exact j_iret X hr dX9_told_22 (by rw [← hR]) rfl

def rmX9_push : Room := { frames := 1, cells := 0, slots := 0, locals := 22 }
theorem hdX9_push : yX9_push.cls ≠ "java/lang/invoke/MethodHandle" ∧ yX9_push.cls ≠ "java/lang/invoke/VarHandle" ∧ (parseMethodDescriptor yX9_push.desc).map (fun d => d.parameters.length) = some 3 := by decide +kernel
def fX9_push_71 (i1 : Int32) (i2 : Int32) (i3 : Int32) (im : Int32) (be : Int32) (bg : Int32) (tx : Int32) (ta : Int32) (fa : Int32) (cl : Int32) : Int32 → Int32 → Int32 → (Nat → Int32) → Option (Int32 × (Nat → Int32)) := fun y0 y1 y2 f_n =>
    (fX9_within y2 y1 y0).bind fun ov9 =>
  if ov9 = 0 then (some ((-2), f_n)) else (if (f_n 11) = 8 then (some ((-4), f_n)) else (lt' ((15 : Int32) + ((3 : Int32) * (f_n 11))) fun x4v12 =>
  gd (inb x4v12 69) (lt' (upd f_n x4v12.toNatClampNeg i1) fun f_nv14 =>
  gd (inb (x4v12 + 1) 69) (lt' (upd f_nv14 ((x4v12 + 1).toNatClampNeg) i2) fun f_nv16 =>
  gd (inb (x4v12 + 2) 69) (lt' (upd f_nv16 ((x4v12 + 2).toNatClampNeg) i3) fun f_nv18 =>
  lt' ((f_nv18 11) + 1) fun dv19 =>
  lt' (upd f_nv18 11 dv19) fun f_nv20 =>
  some (dv19, f_nv20))))))
def fX9_push_49 (i1 : Int32) (i2 : Int32) (i3 : Int32) (im : Int32) (be : Int32) (bg : Int32) (tx : Int32) (ta : Int32) (fa : Int32) (cl : Int32) : Int32 → Int32 → (Nat → Int32) → Option (Int32 × (Nat → Int32)) := fun y0 y1 f_n =>
    if i2 = 2 then (fX9_push_71 i1 i2 i3 im be bg tx ta fa cl 20 y0 y1 f_n) else (if i2 = 3 then (fX9_push_71 i1 i2 i3 im be bg tx ta fa cl 9 y0 y1 f_n) else (fX9_push_71 i1 i2 i3 im be bg tx ta fa cl 99 y0 y1 f_n))
def fX9_push (i1 : Int32) (i2 : Int32) (i3 : Int32) (im : Int32) (be : Int32) (bg : Int32) (tx : Int32) (ta : Int32) (fa : Int32) (cl : Int32) (f_n : Nat → Int32) : Option (Int32 × (Nat → Int32)) :=
  (fX9_within i2 0 3).bind fun ov1 =>
  if ov1 = 0 then (some ((-1), f_n)) else ((fX9_within i1 (f_n 8) 99999).bind fun ov3 =>
  if ov3 = 0 then (some ((-2), f_n)) else (if i2 = 2 then (fX9_push_49 i1 i2 i3 im be bg tx ta fa cl (-20) i3 f_n) else (if i2 = 3 then (fX9_push_49 i1 i2 i3 im be bg tx ta fa cl 0 i3 f_n) else (fX9_push_49 i1 i2 i3 im be bg tx ta fa cl (-99) i3 f_n))))
set_option maxHeartbeats 8000000 in
set_option maxRecDepth 100000 in
theorem mX9_push (l : Launch) (D : va_G) (cI cJ cB cT : ClassId) (tt : Nat → Nat) (r_ r_n r_o r_h r_A r_O r_H r_b r_x r_c r_m r_s r_z r_i r_v : Nat) {i1 : Int32} {i2 : Int32} {i3 : Int32} {im : Int32} {be : Int32} {bg : Int32} {tx : Int32} {ta : Int32} {fa : Int32} {cl : Int32} {f_n : Nat → Int32} {out : Int32 × (Nat → Int32)} (h : fX9_push i1 i2 i3 im be bg tx ta fa cl f_n = some out) :
    jM l yX9_push (.code yX9_push cX9_push 5 (some .int)) rmX9_push D (wTy cI cJ cB cT) tt [.ref r_, .int i1, .int i2, .int i3] [cMod r_ r_n r_o r_h r_A r_O r_H r_b r_x r_c r_m r_s r_z r_i r_v im be bg tx ta fa cl, cIar cI r_n 69 f_n] (some (.int out.1)) [cMod r_ r_n r_o r_h r_A r_O r_H r_b r_x r_c r_m r_s r_z r_i r_v im be bg tx ta fa cl, cIar cI r_n 69 out.2] := by
  refine jM.of (by decide) (Nat.le_of_ble_eq_true rfl) ?_
  intro p e s m below meth c A X hr
  have L_71 : ∀ (y0 : Int32) (y1 : Int32) (y2 : Int32) (f_n : Nat → Int32), fX9_push_71 i1 i2 i3 im be bg tx ta fa cl  y0 y1 y2 f_n = some out → jW p l e rmX9_push s m ([.ref r_, .int i1, .int i2, .int i3] : List Value).toArray below meth c D A 5 (MQ below (jQ D (some (.int out.1)) [cMod r_ r_n r_o r_h r_A r_O r_H r_b r_x r_c r_m r_s r_z r_i r_v im be bg tx ta fa cl, cIar cI r_n 69 out.2] A) ([.ref r_, .int i1, .int i2, .int i3] : List Value).toArray s 0 0 A) 0 0 71 [(0, .ref r_), (1, .int i1), (2, .int i2), (3, .int i3)] [.int y0, .int y1, .int y2] [cMod r_ r_n r_o r_h r_A r_O r_H r_b r_x r_c r_m r_s r_z r_i r_v im be bg tx ta fa cl, cIar cI r_n 69 f_n] := by
    intro  y0 y1 y2 f_n hR
    unfold fX9_push_71 at hR
    obtain ⟨ov9, hov9, hR⟩ := bd_some hR
    refine j_callS X (As := [.int y2, .int y1, .int y0]) (rest := []) (ws2 := [cMod r_ r_n r_o r_h r_A r_O r_H r_b r_x r_c r_m r_s r_z r_i r_v im be bg tx ta fa cl, cIar cI r_n 69 f_n]) (mX9_within l D cI cJ cB cT tt  hov9) [] [.inl 0, .inl 1] k_735 k_733 k_734 k_47 hdX9_within (by decide) (Nat.le_of_ble_eq_true rfl) dX9_push_71 (by decide) rfl rfl (by decide) rfl rfl ?_
    refine j_if_ne X (tgt := 80) dX9_push_74 (by decide) (fun cv10 => ?_) (fun cv10 => ?_)
    · replace hR := (if_neg cv10).symm.trans hR
      refine j_aload_n X (q := 0) dX9_push_80 rfl ?_
      refine j_get X 0 0 hiX9 k_665 dX9_push_81 rfl rfl (by decide) rfl ?_
      refine j_bipush X (v := 11) dX9_push_84 (by decide) ?_
      refine j_iald X (k := 11) 1 0 rfl dX9_push_86 rfl rfl (by decide) ?_
      refine j_bipush X (v := 8) dX9_push_87 (by decide) ?_
      refine j_icmp_ne X (tgt := 95) dX9_push_89 (by decide) (fun cv11 => ?_) (fun cv11 => ?_)
      · replace hR := (if_neg cv11).symm.trans hR
        refine j_bipush X (v := 15) dX9_push_95 (by decide) ?_
        refine j_iconst X (v := 3) dX9_push_97 (by decide) ?_
        refine j_aload_n X (q := 0) dX9_push_98 rfl ?_
        refine j_get X 0 0 hiX9 k_665 dX9_push_99 rfl rfl (by decide) rfl ?_
        refine j_bipush X (v := 11) dX9_push_102 (by decide) ?_
        refine j_iald X (k := 11) 1 0 rfl dX9_push_104 rfl rfl (by decide) ?_
        refine j_imul X dX9_push_105 ?_
        refine j_iadd X dX9_push_106 ?_
        obtain ⟨x4v12, ex4v12, hR⟩ := lt_some hR
        refine j_eq (congrArg (fun z => Value.int z :: _) ex4v12) rfl ?_
        refine j_istore X (lv2 := [(4, .int x4v12), (0, .ref r_), (1, .int i1), (2, .int i2), (3, .int i3)]) dX9_push_107 (by decide) rfl ?_
        refine j_aload_n X (q := 1) dX9_push_109 rfl ?_
        refine j_get X 0 0 hiX9 k_665 dX9_push_110 rfl rfl (by decide) rfl ?_
        refine j_iload X (q := 0) dX9_push_113 rfl ?_
        refine j_iload_n X (q := 2) dX9_push_115 rfl ?_
        obtain ⟨gv13, hR⟩ := gd_some hR
        obtain ⟨f_nv14, ef_nv14, hR⟩ := lt_some hR
        refine j_iast X (ws2 := [cMod r_ r_n r_o r_h r_A r_O r_H r_b r_x r_c r_m r_s r_z r_i r_v im be bg tx ta fa cl, cIar cI r_n 69 f_nv14]) 1 0 rfl dX9_push_116 rfl rfl gv13 ef_nv14 rfl ?_
        refine j_aload_n X (q := 1) dX9_push_117 rfl ?_
        refine j_get X 0 0 hiX9 k_665 dX9_push_118 rfl rfl (by decide) rfl ?_
        refine j_iload X (q := 0) dX9_push_121 rfl ?_
        refine j_iconst X (v := 1) dX9_push_123 (by decide) ?_
        refine j_iadd X dX9_push_124 ?_
        refine j_iload_n X (q := 3) dX9_push_125 rfl ?_
        obtain ⟨gv15, hR⟩ := gd_some hR
        obtain ⟨f_nv16, ef_nv16, hR⟩ := lt_some hR
        refine j_iast X (ws2 := [cMod r_ r_n r_o r_h r_A r_O r_H r_b r_x r_c r_m r_s r_z r_i r_v im be bg tx ta fa cl, cIar cI r_n 69 f_nv16]) 1 0 rfl dX9_push_126 rfl rfl gv15 ef_nv16 rfl ?_
        refine j_aload_n X (q := 1) dX9_push_127 rfl ?_
        refine j_get X 0 0 hiX9 k_665 dX9_push_128 rfl rfl (by decide) rfl ?_
        refine j_iload X (q := 0) dX9_push_131 rfl ?_
        refine j_iconst X (v := 2) dX9_push_133 (by decide) ?_
        refine j_iadd X dX9_push_134 ?_
        refine j_iload_n X (q := 4) dX9_push_135 rfl ?_
        obtain ⟨gv17, hR⟩ := gd_some hR
        obtain ⟨f_nv18, ef_nv18, hR⟩ := lt_some hR
        refine j_iast X (ws2 := [cMod r_ r_n r_o r_h r_A r_O r_H r_b r_x r_c r_m r_s r_z r_i r_v im be bg tx ta fa cl, cIar cI r_n 69 f_nv18]) 1 0 rfl dX9_push_136 rfl rfl gv17 ef_nv18 rfl ?_
        refine j_aload_n X (q := 1) dX9_push_137 rfl ?_
        refine j_get X 0 0 hiX9 k_665 dX9_push_138 rfl rfl (by decide) rfl ?_
        refine j_bipush X (v := 11) dX9_push_141 (by decide) ?_
        refine j_dup2_11 X dX9_push_143 rfl rfl ?_
        refine j_iald X (k := 11) 1 0 rfl dX9_push_144 rfl rfl (by decide) ?_
        refine j_iconst X (v := 1) dX9_push_145 (by decide) ?_
        refine j_iadd X dX9_push_146 ?_
        obtain ⟨dv19, edv19, hR⟩ := lt_some hR
        refine j_eq (congrArg (fun z => Value.int z :: _) edv19) rfl ?_
        refine j_dup_x2 X dX9_push_147 rfl rfl rfl ?_
        obtain ⟨f_nv20, ef_nv20, hR⟩ := lt_some hR
        refine j_iast X (k := 11) (ws2 := [cMod r_ r_n r_o r_h r_A r_O r_H r_b r_x r_c r_m r_s r_z r_i r_v im be bg tx ta fa cl, cIar cI r_n 69 f_nv20]) 1 0 rfl dX9_push_148 rfl rfl (by decide) ef_nv20 rfl ?_
        have hR := Option.some.inj hR
        exact j_iret X hr dX9_push_149 (by rw [← hR]) (by rw [← hR])
      · replace hR := (if_pos cv11).symm.trans hR
        refine j_bipush X (v := (-4)) dX9_push_92 (by decide) ?_
        have hR := Option.some.inj hR
        exact j_iret X hr dX9_push_94 (by rw [← hR]) (by rw [← hR])
    · replace hR := (if_pos cv10).symm.trans hR
      refine j_bipush X (v := (-2)) dX9_push_77 (by decide) ?_
      have hR := Option.some.inj hR
      exact j_iret X hr dX9_push_79 (by rw [← hR]) (by rw [← hR])
  have L_49 : ∀ (y0 : Int32) (y1 : Int32) (f_n : Nat → Int32), fX9_push_49 i1 i2 i3 im be bg tx ta fa cl  y0 y1 f_n = some out → jW p l e rmX9_push s m ([.ref r_, .int i1, .int i2, .int i3] : List Value).toArray below meth c D A 5 (MQ below (jQ D (some (.int out.1)) [cMod r_ r_n r_o r_h r_A r_O r_H r_b r_x r_c r_m r_s r_z r_i r_v im be bg tx ta fa cl, cIar cI r_n 69 out.2] A) ([.ref r_, .int i1, .int i2, .int i3] : List Value).toArray s 0 0 A) 0 0 49 [(0, .ref r_), (1, .int i1), (2, .int i2), (3, .int i3)] [.int y0, .int y1] [cMod r_ r_n r_o r_h r_A r_O r_H r_b r_x r_c r_m r_s r_z r_i r_v im be bg tx ta fa cl, cIar cI r_n 69 f_n] := by
    intro  y0 y1 f_n hR
    unfold fX9_push_49 at hR
    refine j_iload_n X (q := 2) dX9_push_49 rfl ?_
    refine j_iconst X (v := 2) dX9_push_50 (by decide) ?_
    refine j_icmp_ne X (tgt := 59) dX9_push_51 (by decide) (fun cv7 => ?_) (fun cv7 => ?_)
    · replace hR := (if_neg cv7).symm.trans hR
      refine j_iload_n X (q := 2) dX9_push_59 rfl ?_
      refine j_iconst X (v := 3) dX9_push_60 (by decide) ?_
      refine j_icmp_ne X (tgt := 69) dX9_push_61 (by decide) (fun cv8 => ?_) (fun cv8 => ?_)
      · replace hR := (if_neg cv8).symm.trans hR
        refine j_bipush X (v := 99) dX9_push_69 (by decide) ?_
        exact L_71 _ _ _ _ hR
      · replace hR := (if_pos cv8).symm.trans hR
        refine j_bipush X (v := 9) dX9_push_64 (by decide) ?_
        refine j_goto X (tgt := 71) dX9_push_66 (by decide) ?_
        exact L_71 _ _ _ _ hR
    · replace hR := (if_pos cv7).symm.trans hR
      refine j_bipush X (v := 20) dX9_push_54 (by decide) ?_
      refine j_goto X (tgt := 71) dX9_push_56 (by decide) ?_
      exact L_71 _ _ _ _ hR
  refine j_sub (lv2 := [(0, .ref r_), (1, .int i1), (2, .int i2), (3, .int i3)]) [0, 1, 2, 3] rfl ?_
  have hR := h
  unfold fX9_push at hR
  refine j_iload_n X (q := 2) dX9_push_0 rfl ?_
  refine j_iconst X (v := 0) dX9_push_1 (by decide) ?_
  refine j_iconst X (v := 3) dX9_push_2 (by decide) ?_
  obtain ⟨ov1, hov1, hR⟩ := bd_some hR
  refine j_callS X (As := [.int i2, .int 0, .int 3]) (rest := []) (ws2 := [cMod r_ r_n r_o r_h r_A r_O r_H r_b r_x r_c r_m r_s r_z r_i r_v im be bg tx ta fa cl, cIar cI r_n 69 f_n]) (mX9_within l D cI cJ cB cT tt  hov1) [] [.inl 0, .inl 1] k_735 k_733 k_734 k_47 hdX9_within (by decide) (Nat.le_of_ble_eq_true rfl) dX9_push_3 (by decide) rfl rfl (by decide) rfl rfl ?_
  refine j_if_ne X (tgt := 11) dX9_push_6 (by decide) (fun cv2 => ?_) (fun cv2 => ?_)
  · replace hR := (if_neg cv2).symm.trans hR
    refine j_iload_n X (q := 1) dX9_push_11 rfl ?_
    refine j_aload_n X (q := 0) dX9_push_12 rfl ?_
    refine j_get X 0 0 hiX9 k_665 dX9_push_13 rfl rfl (by decide) rfl ?_
    refine j_bipush X (v := 8) dX9_push_16 (by decide) ?_
    refine j_iald X (k := 8) 1 0 rfl dX9_push_18 rfl rfl (by decide) ?_
    refine j_ldc X k_752 dX9_push_19 ?_
    obtain ⟨ov3, hov3, hR⟩ := bd_some hR
    refine j_callS X (As := [.int i1, .int (f_n 8), .int 99999]) (rest := []) (ws2 := [cMod r_ r_n r_o r_h r_A r_O r_H r_b r_x r_c r_m r_s r_z r_i r_v im be bg tx ta fa cl, cIar cI r_n 69 f_n]) (mX9_within l D cI cJ cB cT tt  hov3) [] [.inl 0, .inl 1] k_735 k_733 k_734 k_47 hdX9_within (by decide) (Nat.le_of_ble_eq_true rfl) dX9_push_21 (by decide) rfl rfl (by decide) rfl rfl ?_
    refine j_if_eq X (tgt := 77) dX9_push_24 (by decide) (fun cv4 => ?_) (fun cv4 => ?_)
    · replace hR := (if_pos cv4).symm.trans hR
      refine j_bipush X (v := (-2)) dX9_push_77 (by decide) ?_
      have hR := Option.some.inj hR
      exact j_iret X hr dX9_push_79 (by rw [← hR]) (by rw [← hR])
    · replace hR := (if_neg cv4).symm.trans hR
      refine j_iload_n X (q := 3) dX9_push_27 rfl ?_
      refine j_iload_n X (q := 2) dX9_push_28 rfl ?_
      refine j_iconst X (v := 2) dX9_push_29 (by decide) ?_
      refine j_icmp_ne X (tgt := 38) dX9_push_30 (by decide) (fun cv5 => ?_) (fun cv5 => ?_)
      · replace hR := (if_neg cv5).symm.trans hR
        refine j_iload_n X (q := 2) dX9_push_38 rfl ?_
        refine j_iconst X (v := 3) dX9_push_39 (by decide) ?_
        refine j_icmp_ne X (tgt := 47) dX9_push_40 (by decide) (fun cv6 => ?_) (fun cv6 => ?_)
        · replace hR := (if_neg cv6).symm.trans hR
          refine j_bipush X (v := (-99)) dX9_push_47 (by decide) ?_
          exact L_49 _ _ _ hR
        · replace hR := (if_pos cv6).symm.trans hR
          refine j_iconst X (v := 0) dX9_push_43 (by decide) ?_
          refine j_goto X (tgt := 49) dX9_push_44 (by decide) ?_
          exact L_49 _ _ _ hR
      · replace hR := (if_pos cv5).symm.trans hR
        refine j_bipush X (v := (-20)) dX9_push_33 (by decide) ?_
        refine j_goto X (tgt := 49) dX9_push_35 (by decide) ?_
        exact L_49 _ _ _ hR
  · replace hR := (if_pos cv2).symm.trans hR
    refine j_iconst X (v := (-1)) dX9_push_9 (by decide) ?_
    have hR := Option.some.inj hR
    exact j_iret X hr dX9_push_10 (by rw [← hR]) (by rw [← hR])

def rmX9_pushOf : Room := { frames := 1, cells := 0, slots := 0, locals := 22 }
theorem hdX9_pushOf : yX9_pushOf.cls ≠ "java/lang/invoke/MethodHandle" ∧ yX9_pushOf.cls ≠ "java/lang/invoke/VarHandle" ∧ (parseMethodDescriptor yX9_pushOf.desc).map (fun d => d.parameters.length) = some 2 := by decide +kernel
def fX9_pushOf_49 (i1 : Int32) (i2 : Int32) (im : Int32) (be : Int32) (bg : Int32) (tx : Int32) (ta : Int32) (fa : Int32) (cl : Int32) (f_n : Nat → Int32) (K_32 : Int32 → Option (Int32)) : Nat → Int32 → Int32 → Int32 → Option (Int32)
  | 0, _, _, _ => none
  | fu + 1, x3, x4, x5 =>
    if (f_n 11) ≤ x5 then (if x4 = i1 then (gd (inb (((15 : Int32) + ((3 : Int32) * x3)) + i2) 69) (some (f_n (((15 : Int32) + ((3 : Int32) * x3)) + i2).toNatClampNeg))) else (lt' (x3 + 1) fun x3v8 =>
  K_32 x3v8)) else (gd (inb ((15 : Int32) + ((3 : Int32) * x5)) 69) (gd (inb ((15 : Int32) + ((3 : Int32) * x3)) 69) (lt' ((f_n ((15 : Int32) + ((3 : Int32) * x5)).toNatClampNeg) - (f_n ((15 : Int32) + ((3 : Int32) * x3)).toNatClampNeg)) fun x6v12 =>
  if x6v12 < 0 then (lt' (x4 + 1) fun x4v14 =>
  lt' (x5 + 1) fun x5v15 =>
  fX9_pushOf_49 i1 i2 im be bg tx ta fa cl f_n K_32 fu x3 x4v14 x5v15) else (if x6v12 = 0 then (if x3 ≤ x5 then (lt' (x5 + 1) fun x5v19 =>
  fX9_pushOf_49 i1 i2 im be bg tx ta fa cl f_n K_32 fu x3 x4 x5v19) else (lt' (x4 + 1) fun x4v20 =>
  lt' (x5 + 1) fun x5v21 =>
  fX9_pushOf_49 i1 i2 im be bg tx ta fa cl f_n K_32 fu x3 x4v20 x5v21)) else (lt' (x5 + 1) fun x5v17 =>
  fX9_pushOf_49 i1 i2 im be bg tx ta fa cl f_n K_32 fu x3 x4 x5v17)))))
def fX9_pushOf_32 (i1 : Int32) (i2 : Int32) (im : Int32) (be : Int32) (bg : Int32) (tx : Int32) (ta : Int32) (fa : Int32) (cl : Int32) (f_n : Nat → Int32) : Nat → Int32 → Option (Int32)
  | 0, _ => none
  | fu + 1, x3 =>
    if (f_n 11) ≤ x3 then (some (-1000)) else (fX9_pushOf_49 i1 i2 im be bg tx ta fa cl f_n (fX9_pushOf_32 i1 i2 im be bg tx ta fa cl f_n fu) 500 x3 0 0)
def fX9_pushOf (i1 : Int32) (i2 : Int32) (im : Int32) (be : Int32) (bg : Int32) (tx : Int32) (ta : Int32) (fa : Int32) (cl : Int32) (f_n : Nat → Int32) : Option (Int32) :=
  (fX9_within i1 0 ((f_n 11) - 1)).bind fun ov1 =>
  if ov1 = 0 then (some (-1000)) else ((fX9_within i2 0 2).bind fun ov3 =>
  if ov3 = 0 then (some (-1000)) else (fX9_pushOf_32 i1 i2 im be bg tx ta fa cl f_n 500 0))
set_option maxHeartbeats 8000000 in
set_option maxRecDepth 100000 in
theorem mX9_pushOf (l : Launch) (D : va_G) (cI cJ cB cT : ClassId) (tt : Nat → Nat) (r_ r_n r_o r_h r_A r_O r_H r_b r_x r_c r_m r_s r_z r_i r_v : Nat) {i1 : Int32} {i2 : Int32} {im : Int32} {be : Int32} {bg : Int32} {tx : Int32} {ta : Int32} {fa : Int32} {cl : Int32} {f_n : Nat → Int32} {out : Int32} (h : fX9_pushOf i1 i2 im be bg tx ta fa cl f_n = some out) :
    jM l yX9_pushOf (.code yX9_pushOf cX9_pushOf 7 (some .int)) rmX9_pushOf D (wTy cI cJ cB cT) tt [.ref r_, .int i1, .int i2] [cMod r_ r_n r_o r_h r_A r_O r_H r_b r_x r_c r_m r_s r_z r_i r_v im be bg tx ta fa cl, cIar cI r_n 69 f_n] (some (.int out)) [cMod r_ r_n r_o r_h r_A r_O r_H r_b r_x r_c r_m r_s r_z r_i r_v im be bg tx ta fa cl, cIar cI r_n 69 f_n] := by
  refine jM.of (by decide) (Nat.le_of_ble_eq_true rfl) ?_
  intro p e s m below meth c A X hr
  have L_49 : ∀ (K_32 : Int32 → Option (Int32)), (∀ (x3 : Int32), K_32 x3 = some out → jW p l e rmX9_pushOf s m ([.ref r_, .int i1, .int i2] : List Value).toArray below meth c D A 7 (MQ below (jQ D (some (.int out)) [cMod r_ r_n r_o r_h r_A r_O r_H r_b r_x r_c r_m r_s r_z r_i r_v im be bg tx ta fa cl, cIar cI r_n 69 f_n] A) ([.ref r_, .int i1, .int i2] : List Value).toArray s 0 0 A) 0 0 32 [(0, .ref r_), (1, .int i1), (2, .int i2), (3, .int x3)] [] [cMod r_ r_n r_o r_h r_A r_O r_H r_b r_x r_c r_m r_s r_z r_i r_v im be bg tx ta fa cl, cIar cI r_n 69 f_n]) → ∀ (fuel : Nat) (x3 : Int32) (x4 : Int32) (x5 : Int32), fX9_pushOf_49 i1 i2 im be bg tx ta fa cl f_n K_32 fuel x3 x4 x5 = some out → jW p l e rmX9_pushOf s m ([.ref r_, .int i1, .int i2] : List Value).toArray below meth c D A 7 (MQ below (jQ D (some (.int out)) [cMod r_ r_n r_o r_h r_A r_O r_H r_b r_x r_c r_m r_s r_z r_i r_v im be bg tx ta fa cl, cIar cI r_n 69 f_n] A) ([.ref r_, .int i1, .int i2] : List Value).toArray s 0 0 A) 0 0 49 [(0, .ref r_), (1, .int i1), (2, .int i2), (3, .int x3), (4, .int x4), (5, .int x5)] [] [cMod r_ r_n r_o r_h r_A r_O r_H r_b r_x r_c r_m r_s r_z r_i r_v im be bg tx ta fa cl, cIar cI r_n 69 f_n] := by
    intro K_32 hK_32 fuel
    induction fuel with
    | zero =>
      intro x3 x4 x5 hR
      rw [fX9_pushOf_49] at hR
      cases hR
    | succ fu ih =>
      intro x3 x4 x5 hR
      rw [fX9_pushOf_49] at hR
      refine j_iload X (q := 5) dX9_pushOf_49 rfl ?_
      refine j_aload_n X (q := 0) dX9_pushOf_51 rfl ?_
      refine j_get X 0 0 hiX9 k_665 dX9_pushOf_52 rfl rfl (by decide) rfl ?_
      refine j_bipush X (v := 11) dX9_pushOf_55 (by decide) ?_
      refine j_iald X (k := 11) 1 0 rfl dX9_pushOf_57 rfl rfl (by decide) ?_
      refine j_icmp_ge X (tgt := 112) dX9_pushOf_58 (by decide) (fun cv6 => ?_) (fun cv6 => ?_)
      · replace hR := (if_pos cv6).symm.trans hR
        refine j_iload X (q := 4) dX9_pushOf_112 rfl ?_
        refine j_iload_n X (q := 1) dX9_pushOf_114 rfl ?_
        refine j_icmp_ne X (tgt := 132) dX9_pushOf_115 (by decide) (fun cv7 => ?_) (fun cv7 => ?_)
        · replace hR := (if_neg cv7).symm.trans hR
          obtain ⟨x3v8, ex3v8, hR⟩ := lt_some hR
          refine j_iinc X (k := 3) (v := x3v8) (lv2 := [(3, .int x3v8), (0, .ref r_), (1, .int i1), (2, .int i2), (4, .int x4), (5, .int x5)]) dX9_pushOf_132 rfl (by rw [← ex3v8]; rfl) (by decide) rfl ?_
          refine j_goto X (tgt := 32) dX9_pushOf_135 (by decide) ?_
          refine j_sub (lv2 := [(0, .ref r_), (1, .int i1), (2, .int i2), (3, .int x3v8)]) [1, 2, 3, 0] rfl ?_
          exact hK_32 _ hR
        · replace hR := (if_pos cv7).symm.trans hR
          refine j_aload_n X (q := 0) dX9_pushOf_118 rfl ?_
          refine j_get X 0 0 hiX9 k_665 dX9_pushOf_119 rfl rfl (by decide) rfl ?_
          refine j_bipush X (v := 15) dX9_pushOf_122 (by decide) ?_
          refine j_iconst X (v := 3) dX9_pushOf_124 (by decide) ?_
          refine j_iload_n X (q := 3) dX9_pushOf_125 rfl ?_
          refine j_imul X dX9_pushOf_126 ?_
          refine j_iadd X dX9_pushOf_127 ?_
          refine j_iload_n X (q := 2) dX9_pushOf_128 rfl ?_
          refine j_iadd X dX9_pushOf_129 ?_
          obtain ⟨gv9, hR⟩ := gd_some hR
          refine j_iald X 1 0 rfl dX9_pushOf_130 rfl rfl gv9 ?_
          have hR := Option.some.inj hR
          exact j_iret X hr dX9_pushOf_131 (by rw [← hR]) rfl
      · replace hR := (if_neg cv6).symm.trans hR
        refine j_aload_n X (q := 0) dX9_pushOf_61 rfl ?_
        refine j_get X 0 0 hiX9 k_665 dX9_pushOf_62 rfl rfl (by decide) rfl ?_
        refine j_bipush X (v := 15) dX9_pushOf_65 (by decide) ?_
        refine j_iconst X (v := 3) dX9_pushOf_67 (by decide) ?_
        refine j_iload X (q := 5) dX9_pushOf_68 rfl ?_
        refine j_imul X dX9_pushOf_70 ?_
        refine j_iadd X dX9_pushOf_71 ?_
        obtain ⟨gv10, hR⟩ := gd_some hR
        refine j_iald X 1 0 rfl dX9_pushOf_72 rfl rfl gv10 ?_
        refine j_aload_n X (q := 0) dX9_pushOf_73 rfl ?_
        refine j_get X 0 0 hiX9 k_665 dX9_pushOf_74 rfl rfl (by decide) rfl ?_
        refine j_bipush X (v := 15) dX9_pushOf_77 (by decide) ?_
        refine j_iconst X (v := 3) dX9_pushOf_79 (by decide) ?_
        refine j_iload_n X (q := 3) dX9_pushOf_80 rfl ?_
        refine j_imul X dX9_pushOf_81 ?_
        refine j_iadd X dX9_pushOf_82 ?_
        obtain ⟨gv11, hR⟩ := gd_some hR
        refine j_iald X 1 0 rfl dX9_pushOf_83 rfl rfl gv11 ?_
        refine j_isub X dX9_pushOf_84 ?_
        obtain ⟨x6v12, ex6v12, hR⟩ := lt_some hR
        refine j_eq (congrArg (fun z => Value.int z :: _) ex6v12) rfl ?_
        refine j_istore X (lv2 := [(6, .int x6v12), (0, .ref r_), (1, .int i1), (2, .int i2), (3, .int x3), (4, .int x4), (5, .int x5)]) dX9_pushOf_85 (by decide) rfl ?_
        refine j_iload X (q := 0) dX9_pushOf_87 rfl ?_
        refine j_if_lt X (tgt := 103) dX9_pushOf_89 (by decide) (fun cv13 => ?_) (fun cv13 => ?_)
        · replace hR := (if_pos cv13).symm.trans hR
          obtain ⟨x4v14, ex4v14, hR⟩ := lt_some hR
          refine j_iinc X (k := 5) (v := x4v14) (lv2 := [(4, .int x4v14), (6, .int x6v12), (0, .ref r_), (1, .int i1), (2, .int i2), (3, .int x3), (5, .int x5)]) dX9_pushOf_103 rfl (by rw [← ex4v14]; rfl) (by decide) rfl ?_
          obtain ⟨x5v15, ex5v15, hR⟩ := lt_some hR
          refine j_iinc X (k := 6) (v := x5v15) (lv2 := [(5, .int x5v15), (4, .int x4v14), (6, .int x6v12), (0, .ref r_), (1, .int i1), (2, .int i2), (3, .int x3)]) dX9_pushOf_106 rfl (by rw [← ex5v15]; rfl) (by decide) rfl ?_
          refine j_goto X (tgt := 49) dX9_pushOf_109 (by decide) ?_
          refine j_sub (lv2 := [(0, .ref r_), (1, .int i1), (2, .int i2), (3, .int x3), (4, .int x4v14), (5, .int x5v15)]) [3, 4, 5, 6, 1, 0] rfl ?_
          exact ih _ _ _ hR
        · replace hR := (if_neg cv13).symm.trans hR
          refine j_iload X (q := 0) dX9_pushOf_92 rfl ?_
          refine j_if_ne X (tgt := 106) dX9_pushOf_94 (by decide) (fun cv16 => ?_) (fun cv16 => ?_)
          · replace hR := (if_neg cv16).symm.trans hR
            obtain ⟨x5v17, ex5v17, hR⟩ := lt_some hR
            refine j_iinc X (k := 6) (v := x5v17) (lv2 := [(5, .int x5v17), (6, .int x6v12), (0, .ref r_), (1, .int i1), (2, .int i2), (3, .int x3), (4, .int x4)]) dX9_pushOf_106 rfl (by rw [← ex5v17]; rfl) (by decide) rfl ?_
            refine j_goto X (tgt := 49) dX9_pushOf_109 (by decide) ?_
            refine j_sub (lv2 := [(0, .ref r_), (1, .int i1), (2, .int i2), (3, .int x3), (4, .int x4), (5, .int x5v17)]) [2, 3, 4, 5, 6, 0] rfl ?_
            exact ih _ _ _ hR
          · replace hR := (if_pos cv16).symm.trans hR
            refine j_iload X (q := 6) dX9_pushOf_97 rfl ?_
            refine j_iload_n X (q := 4) dX9_pushOf_99 rfl ?_
            refine j_icmp_ge X (tgt := 106) dX9_pushOf_100 (by decide) (fun cv18 => ?_) (fun cv18 => ?_)
            · replace hR := (if_pos cv18).symm.trans hR
              obtain ⟨x5v19, ex5v19, hR⟩ := lt_some hR
              refine j_iinc X (k := 6) (v := x5v19) (lv2 := [(5, .int x5v19), (6, .int x6v12), (0, .ref r_), (1, .int i1), (2, .int i2), (3, .int x3), (4, .int x4)]) dX9_pushOf_106 rfl (by rw [← ex5v19]; rfl) (by decide) rfl ?_
              refine j_goto X (tgt := 49) dX9_pushOf_109 (by decide) ?_
              refine j_sub (lv2 := [(0, .ref r_), (1, .int i1), (2, .int i2), (3, .int x3), (4, .int x4), (5, .int x5v19)]) [2, 3, 4, 5, 6, 0] rfl ?_
              exact ih _ _ _ hR
            · replace hR := (if_neg cv18).symm.trans hR
              obtain ⟨x4v20, ex4v20, hR⟩ := lt_some hR
              refine j_iinc X (k := 5) (v := x4v20) (lv2 := [(4, .int x4v20), (6, .int x6v12), (0, .ref r_), (1, .int i1), (2, .int i2), (3, .int x3), (5, .int x5)]) dX9_pushOf_103 rfl (by rw [← ex4v20]; rfl) (by decide) rfl ?_
              obtain ⟨x5v21, ex5v21, hR⟩ := lt_some hR
              refine j_iinc X (k := 6) (v := x5v21) (lv2 := [(5, .int x5v21), (4, .int x4v20), (6, .int x6v12), (0, .ref r_), (1, .int i1), (2, .int i2), (3, .int x3)]) dX9_pushOf_106 rfl (by rw [← ex5v21]; rfl) (by decide) rfl ?_
              refine j_goto X (tgt := 49) dX9_pushOf_109 (by decide) ?_
              refine j_sub (lv2 := [(0, .ref r_), (1, .int i1), (2, .int i2), (3, .int x3), (4, .int x4v20), (5, .int x5v21)]) [3, 4, 5, 6, 1, 0] rfl ?_
              exact ih _ _ _ hR
  have L_32 : ∀ (fuel : Nat) (x3 : Int32), fX9_pushOf_32 i1 i2 im be bg tx ta fa cl f_n  fuel x3 = some out → jW p l e rmX9_pushOf s m ([.ref r_, .int i1, .int i2] : List Value).toArray below meth c D A 7 (MQ below (jQ D (some (.int out)) [cMod r_ r_n r_o r_h r_A r_O r_H r_b r_x r_c r_m r_s r_z r_i r_v im be bg tx ta fa cl, cIar cI r_n 69 f_n] A) ([.ref r_, .int i1, .int i2] : List Value).toArray s 0 0 A) 0 0 32 [(0, .ref r_), (1, .int i1), (2, .int i2), (3, .int x3)] [] [cMod r_ r_n r_o r_h r_A r_O r_H r_b r_x r_c r_m r_s r_z r_i r_v im be bg tx ta fa cl, cIar cI r_n 69 f_n] := by
    intro  fuel
    induction fuel with
    | zero =>
      intro x3 hR
      rw [fX9_pushOf_32] at hR
      cases hR
    | succ fu ih =>
      intro x3 hR
      rw [fX9_pushOf_32] at hR
      refine j_iload_n X (q := 3) dX9_pushOf_32 rfl ?_
      refine j_aload_n X (q := 0) dX9_pushOf_33 rfl ?_
      refine j_get X 0 0 hiX9 k_665 dX9_pushOf_34 rfl rfl (by decide) rfl ?_
      refine j_bipush X (v := 11) dX9_pushOf_37 (by decide) ?_
      refine j_iald X (k := 11) 1 0 rfl dX9_pushOf_39 rfl rfl (by decide) ?_
      refine j_icmp_ge X (tgt := 138) dX9_pushOf_40 (by decide) (fun cv5 => ?_) (fun cv5 => ?_)
      · replace hR := (if_pos cv5).symm.trans hR
        refine j_sipush X (v := (-1000)) dX9_pushOf_138 (by decide) ?_
        have hR := Option.some.inj hR
        exact j_iret X hr dX9_pushOf_141 (by rw [← hR]) rfl
      · replace hR := (if_neg cv5).symm.trans hR
        refine j_iconst X (v := 0) dX9_pushOf_43 (by decide) ?_
        refine j_istore X (lv2 := [(4, .int 0), (0, .ref r_), (1, .int i1), (2, .int i2), (3, .int x3)]) dX9_pushOf_44 (by decide) rfl ?_
        refine j_iconst X (v := 0) dX9_pushOf_46 (by decide) ?_
        refine j_istore X (lv2 := [(5, .int 0), (4, .int 0), (0, .ref r_), (1, .int i1), (2, .int i2), (3, .int x3)]) dX9_pushOf_47 (by decide) rfl ?_
        refine j_sub (lv2 := [(0, .ref r_), (1, .int i1), (2, .int i2), (3, .int x3), (4, .int 0), (5, .int 0)]) [2, 3, 4, 5, 1, 0] rfl ?_
        exact L_49 _ ih _ _ _ _ hR
  refine j_sub (lv2 := [(0, .ref r_), (1, .int i1), (2, .int i2)]) [0, 1, 2] rfl ?_
  have hR := h
  unfold fX9_pushOf at hR
  refine j_iload_n X (q := 1) dX9_pushOf_0 rfl ?_
  refine j_iconst X (v := 0) dX9_pushOf_1 (by decide) ?_
  refine j_aload_n X (q := 0) dX9_pushOf_2 rfl ?_
  refine j_get X 0 0 hiX9 k_665 dX9_pushOf_3 rfl rfl (by decide) rfl ?_
  refine j_bipush X (v := 11) dX9_pushOf_6 (by decide) ?_
  refine j_iald X (k := 11) 1 0 rfl dX9_pushOf_8 rfl rfl (by decide) ?_
  refine j_iconst X (v := 1) dX9_pushOf_9 (by decide) ?_
  refine j_isub X dX9_pushOf_10 ?_
  obtain ⟨ov1, hov1, hR⟩ := bd_some hR
  refine j_callS X (As := [.int i1, .int 0, .int ((f_n 11) - 1)]) (rest := []) (ws2 := [cMod r_ r_n r_o r_h r_A r_O r_H r_b r_x r_c r_m r_s r_z r_i r_v im be bg tx ta fa cl, cIar cI r_n 69 f_n]) (mX9_within l D cI cJ cB cT tt  hov1) [] [.inl 0, .inl 1] k_735 k_733 k_734 k_47 hdX9_within (by decide) (Nat.le_of_ble_eq_true rfl) dX9_pushOf_11 (by decide) rfl rfl (by decide) rfl rfl ?_
  refine j_if_eq X (tgt := 26) dX9_pushOf_14 (by decide) (fun cv2 => ?_) (fun cv2 => ?_)
  · replace hR := (if_pos cv2).symm.trans hR
    refine j_sipush X (v := (-1000)) dX9_pushOf_26 (by decide) ?_
    have hR := Option.some.inj hR
    exact j_iret X hr dX9_pushOf_29 (by rw [← hR]) rfl
  · replace hR := (if_neg cv2).symm.trans hR
    refine j_iload_n X (q := 2) dX9_pushOf_17 rfl ?_
    refine j_iconst X (v := 0) dX9_pushOf_18 (by decide) ?_
    refine j_iconst X (v := 2) dX9_pushOf_19 (by decide) ?_
    obtain ⟨ov3, hov3, hR⟩ := bd_some hR
    refine j_callS X (As := [.int i2, .int 0, .int 2]) (rest := []) (ws2 := [cMod r_ r_n r_o r_h r_A r_O r_H r_b r_x r_c r_m r_s r_z r_i r_v im be bg tx ta fa cl, cIar cI r_n 69 f_n]) (mX9_within l D cI cJ cB cT tt  hov3) [] [.inl 0, .inl 1] k_735 k_733 k_734 k_47 hdX9_within (by decide) (Nat.le_of_ble_eq_true rfl) dX9_pushOf_20 (by decide) rfl rfl (by decide) rfl rfl ?_
    refine j_if_ne X (tgt := 30) dX9_pushOf_23 (by decide) (fun cv4 => ?_) (fun cv4 => ?_)
    · replace hR := (if_neg cv4).symm.trans hR
      refine j_iconst X (v := 0) dX9_pushOf_30 (by decide) ?_
      refine j_istore_n X (lv2 := [(3, .int 0), (0, .ref r_), (1, .int i1), (2, .int i2)]) dX9_pushOf_31 (by decide) rfl ?_
      refine j_sub (lv2 := [(0, .ref r_), (1, .int i1), (2, .int i2), (3, .int 0)]) [1, 2, 3, 0] rfl ?_
      exact L_32 _ _ hR
    · replace hR := (if_pos cv4).symm.trans hR
      refine j_sipush X (v := (-1000)) dX9_pushOf_26 (by decide) ?_
      have hR := Option.some.inj hR
      exact j_iret X hr dX9_pushOf_29 (by rw [← hR]) rfl

def rmX9_pushes : Room := { frames := 1, cells := 0, slots := 0, locals := 16 }
theorem hdX9_pushes : yX9_pushes.cls ≠ "java/lang/invoke/MethodHandle" ∧ yX9_pushes.cls ≠ "java/lang/invoke/VarHandle" ∧ (parseMethodDescriptor yX9_pushes.desc).map (fun d => d.parameters.length) = some 0 := by decide +kernel
def fX9_pushes_56 (im : Int32) (be : Int32) (bg : Int32) (tx : Int32) (ta : Int32) (fa : Int32) (cl : Int32) (K_12 : Int32 → Int32 → Int32 → (Nat → Int32) → Option ((Nat → Int32))) : Nat → Int32 → Int32 → Int32 → Int32 → Int32 → (Nat → Int32) → Option ((Nat → Int32))
  | 0, _, _, _, _, _, _ => none
  | fu + 1, x1, x2, x3, x4, x6, f_n =>
    if (3 : Int32) ≤ x6 then (lt' (x1 + 1) fun x1v25 =>
  lt' (x3 + 1) fun x3v26 =>
  K_12 x1v25 x2 x3v26 f_n) else (gd (inb (x4 + x6) 69) (gd (inb (((15 : Int32) + ((3 : Int32) * x1)) + x6) 69) (lt' (upd f_n ((((15 : Int32) + ((3 : Int32) * x1)) + x6).toNatClampNeg) (f_n (x4 + x6).toNatClampNeg)) fun f_nv29 =>
  lt' (x6 + 1) fun x6v30 =>
  fX9_pushes_56 im be bg tx ta fa cl K_12 fu x1 x2 x3 x4 x6v30 f_nv29)))
def fX9_pushes_12 (im : Int32) (be : Int32) (bg : Int32) (tx : Int32) (ta : Int32) (fa : Int32) (cl : Int32) : Nat → Int32 → Int32 → Int32 → (Nat → Int32) → Option ((Nat → Int32))
  | 0, _, _, _, _ => none
  | fu + 1, x1, x2, x3, f_n =>
    if x2 ≤ x3 then (lt' (upd f_n 11 x1) fun f_nv3 =>
  some f_nv3) else (lt' ((15 : Int32) + ((3 : Int32) * x3)) fun x4v4 =>
  gd (inb (x4v4 + 2) 69) (lt' (f_n (x4v4 + 2).toNatClampNeg) fun x5v6 =>
  gd (inb x4v4 69) (if (f_n x4v4.toNatClampNeg) = (f_n 8) then (gd (inb (x4v4 + 1) 69) (lt' (f_n (x4v4 + 1).toNatClampNeg) fun wv10 =>
  if wv10 = 0 then (lt' (upd f_n 1 ((f_n 1) + x5v6)) fun f_nv12 =>
  lt' (x3 + 1) fun x3v13 =>
  fX9_pushes_12 im be bg tx ta fa cl fu x1 x2 x3v13 f_nv12) else (if wv10 = 1 then (lt' ((f_n 5) + x5v6) fun uv15 =>
  lt' (if uv15 < 60 then uv15 else 60) fun uv16 =>
  lt' (upd f_n 5 (if (0 : Int32) < uv16 then uv16 else 0)) fun f_nv17 =>
  lt' (x3 + 1) fun x3v18 =>
  fX9_pushes_12 im be bg tx ta fa cl fu x1 x2 x3v18 f_nv17) else (if wv10 = 2 then (lt' (upd f_n 4 x5v6) fun f_nv20 =>
  lt' (x3 + 1) fun x3v21 =>
  fX9_pushes_12 im be bg tx ta fa cl fu x1 x2 x3v21 f_nv20) else (lt' (upd f_n 3 x5v6) fun f_nv22 =>
  lt' (x3 + 1) fun x3v23 =>
  fX9_pushes_12 im be bg tx ta fa cl fu x1 x2 x3v23 f_nv22))))) else (fX9_pushes_56 im be bg tx ta fa cl (fX9_pushes_12 im be bg tx ta fa cl fu) 500 x1 x2 x3 x4v4 0 f_n))))
def fX9_pushes (im : Int32) (be : Int32) (bg : Int32) (tx : Int32) (ta : Int32) (fa : Int32) (cl : Int32) (f_n : Nat → Int32) : Option ((Nat → Int32)) :=
  lt' (f_n 11) fun x2v1 =>
  fX9_pushes_12 im be bg tx ta fa cl 500 0 x2v1 0 f_n
set_option maxHeartbeats 8000000 in
set_option maxRecDepth 100000 in
theorem mX9_pushes (l : Launch) (D : va_G) (cI cJ cB cT : ClassId) (tt : Nat → Nat) (r_ r_n r_o r_h r_A r_O r_H r_b r_x r_c r_m r_s r_z r_i r_v : Nat)  {im : Int32} {be : Int32} {bg : Int32} {tx : Int32} {ta : Int32} {fa : Int32} {cl : Int32} {f_n : Nat → Int32} {out : (Nat → Int32)} (h : fX9_pushes im be bg tx ta fa cl f_n = some out) :
    jM l yX9_pushes (.code yX9_pushes cX9_pushes 7 none) rmX9_pushes D (wTy cI cJ cB cT) tt [.ref r_] [cMod r_ r_n r_o r_h r_A r_O r_H r_b r_x r_c r_m r_s r_z r_i r_v im be bg tx ta fa cl, cIar cI r_n 69 f_n] (none) [cMod r_ r_n r_o r_h r_A r_O r_H r_b r_x r_c r_m r_s r_z r_i r_v im be bg tx ta fa cl, cIar cI r_n 69 out] := by
  refine jM.of (by decide) (Nat.le_of_ble_eq_true rfl) ?_
  intro p e s m below meth c A X hr
  have L_56 : ∀ (K_12 : Int32 → Int32 → Int32 → (Nat → Int32) → Option ((Nat → Int32))), (∀ (x1 : Int32) (x2 : Int32) (x3 : Int32) (f_n : Nat → Int32), K_12 x1 x2 x3 f_n = some out → jW p l e rmX9_pushes s m ([.ref r_] : List Value).toArray below meth c D A 7 (MQ below (jQ D (none) [cMod r_ r_n r_o r_h r_A r_O r_H r_b r_x r_c r_m r_s r_z r_i r_v im be bg tx ta fa cl, cIar cI r_n 69 out] A) ([.ref r_] : List Value).toArray s 0 0 A) 0 0 12 [(0, .ref r_), (1, .int x1), (2, .int x2), (3, .int x3)] [] [cMod r_ r_n r_o r_h r_A r_O r_H r_b r_x r_c r_m r_s r_z r_i r_v im be bg tx ta fa cl, cIar cI r_n 69 f_n]) → ∀ (fuel : Nat) (x1 : Int32) (x2 : Int32) (x3 : Int32) (x4 : Int32) (x6 : Int32) (f_n : Nat → Int32), fX9_pushes_56 im be bg tx ta fa cl K_12 fuel x1 x2 x3 x4 x6 f_n = some out → jW p l e rmX9_pushes s m ([.ref r_] : List Value).toArray below meth c D A 7 (MQ below (jQ D (none) [cMod r_ r_n r_o r_h r_A r_O r_H r_b r_x r_c r_m r_s r_z r_i r_v im be bg tx ta fa cl, cIar cI r_n 69 out] A) ([.ref r_] : List Value).toArray s 0 0 A) 0 0 56 [(0, .ref r_), (1, .int x1), (2, .int x2), (3, .int x3), (4, .int x4), (6, .int x6)] [] [cMod r_ r_n r_o r_h r_A r_O r_H r_b r_x r_c r_m r_s r_z r_i r_v im be bg tx ta fa cl, cIar cI r_n 69 f_n] := by
    intro K_12 hK_12 fuel
    induction fuel with
    | zero =>
      intro x1 x2 x3 x4 x6 f_n hR
      rw [fX9_pushes_56] at hR
      cases hR
    | succ fu ih =>
      intro x1 x2 x3 x4 x6 f_n hR
      rw [fX9_pushes_56] at hR
      refine j_iload X (q := 5) dX9_pushes_56 rfl ?_
      refine j_iconst X (v := 3) dX9_pushes_58 (by decide) ?_
      refine j_icmp_ge X (tgt := 92) dX9_pushes_59 (by decide) (fun cv24 => ?_) (fun cv24 => ?_)
      · replace hR := (if_pos cv24).symm.trans hR
        obtain ⟨x1v25, ex1v25, hR⟩ := lt_some hR
        refine j_iinc X (k := 1) (v := x1v25) (lv2 := [(1, .int x1v25), (0, .ref r_), (2, .int x2), (3, .int x3), (4, .int x4), (6, .int x6)]) dX9_pushes_92 rfl (by rw [← ex1v25]; rfl) (by decide) rfl ?_
        refine j_goto X (tgt := 192) dX9_pushes_95 (by decide) ?_
        obtain ⟨x3v26, ex3v26, hR⟩ := lt_some hR
        refine j_iinc X (k := 3) (v := x3v26) (lv2 := [(3, .int x3v26), (1, .int x1v25), (0, .ref r_), (2, .int x2), (4, .int x4), (6, .int x6)]) dX9_pushes_192 rfl (by rw [← ex3v26]; rfl) (by decide) rfl ?_
        refine j_goto X (tgt := 12) dX9_pushes_195 (by decide) ?_
        refine j_sub (lv2 := [(0, .ref r_), (1, .int x1v25), (2, .int x2), (3, .int x3v26)]) [2, 1, 3, 0] rfl ?_
        exact hK_12 _ _ _ _ hR
      · replace hR := (if_neg cv24).symm.trans hR
        refine j_aload_n X (q := 0) dX9_pushes_62 rfl ?_
        refine j_get X 0 0 hiX9 k_665 dX9_pushes_63 rfl rfl (by decide) rfl ?_
        refine j_bipush X (v := 15) dX9_pushes_66 (by decide) ?_
        refine j_iconst X (v := 3) dX9_pushes_68 (by decide) ?_
        refine j_iload_n X (q := 1) dX9_pushes_69 rfl ?_
        refine j_imul X dX9_pushes_70 ?_
        refine j_iadd X dX9_pushes_71 ?_
        refine j_iload X (q := 5) dX9_pushes_72 rfl ?_
        refine j_iadd X dX9_pushes_74 ?_
        refine j_aload_n X (q := 0) dX9_pushes_75 rfl ?_
        refine j_get X 0 0 hiX9 k_665 dX9_pushes_76 rfl rfl (by decide) rfl ?_
        refine j_iload X (q := 4) dX9_pushes_79 rfl ?_
        refine j_iload X (q := 5) dX9_pushes_81 rfl ?_
        refine j_iadd X dX9_pushes_83 ?_
        obtain ⟨gv27, hR⟩ := gd_some hR
        refine j_iald X 1 0 rfl dX9_pushes_84 rfl rfl gv27 ?_
        obtain ⟨gv28, hR⟩ := gd_some hR
        obtain ⟨f_nv29, ef_nv29, hR⟩ := lt_some hR
        refine j_iast X (ws2 := [cMod r_ r_n r_o r_h r_A r_O r_H r_b r_x r_c r_m r_s r_z r_i r_v im be bg tx ta fa cl, cIar cI r_n 69 f_nv29]) 1 0 rfl dX9_pushes_85 rfl rfl gv28 ef_nv29 rfl ?_
        obtain ⟨x6v30, ex6v30, hR⟩ := lt_some hR
        refine j_iinc X (k := 5) (v := x6v30) (lv2 := [(6, .int x6v30), (0, .ref r_), (1, .int x1), (2, .int x2), (3, .int x3), (4, .int x4)]) dX9_pushes_86 rfl (by rw [← ex6v30]; rfl) (by decide) rfl ?_
        refine j_goto X (tgt := 56) dX9_pushes_89 (by decide) ?_
        refine j_sub (lv2 := [(0, .ref r_), (1, .int x1), (2, .int x2), (3, .int x3), (4, .int x4), (6, .int x6v30)]) [1, 2, 3, 4, 5, 0] rfl ?_
        exact ih _ _ _ _ _ _ hR
  have L_12 : ∀ (fuel : Nat) (x1 : Int32) (x2 : Int32) (x3 : Int32) (f_n : Nat → Int32), fX9_pushes_12 im be bg tx ta fa cl  fuel x1 x2 x3 f_n = some out → jW p l e rmX9_pushes s m ([.ref r_] : List Value).toArray below meth c D A 7 (MQ below (jQ D (none) [cMod r_ r_n r_o r_h r_A r_O r_H r_b r_x r_c r_m r_s r_z r_i r_v im be bg tx ta fa cl, cIar cI r_n 69 out] A) ([.ref r_] : List Value).toArray s 0 0 A) 0 0 12 [(0, .ref r_), (1, .int x1), (2, .int x2), (3, .int x3)] [] [cMod r_ r_n r_o r_h r_A r_O r_H r_b r_x r_c r_m r_s r_z r_i r_v im be bg tx ta fa cl, cIar cI r_n 69 f_n] := by
    intro  fuel
    induction fuel with
    | zero =>
      intro x1 x2 x3 f_n hR
      rw [fX9_pushes_12] at hR
      cases hR
    | succ fu ih =>
      intro x1 x2 x3 f_n hR
      rw [fX9_pushes_12] at hR
      refine j_iload_n X (q := 3) dX9_pushes_12 rfl ?_
      refine j_iload_n X (q := 2) dX9_pushes_13 rfl ?_
      refine j_icmp_ge X (tgt := 198) dX9_pushes_14 (by decide) (fun cv2 => ?_) (fun cv2 => ?_)
      · replace hR := (if_pos cv2).symm.trans hR
        refine j_aload_n X (q := 0) dX9_pushes_198 rfl ?_
        refine j_get X 0 0 hiX9 k_665 dX9_pushes_199 rfl rfl (by decide) rfl ?_
        refine j_bipush X (v := 11) dX9_pushes_202 (by decide) ?_
        refine j_iload_n X (q := 1) dX9_pushes_204 rfl ?_
        obtain ⟨f_nv3, ef_nv3, hR⟩ := lt_some hR
        refine j_iast X (k := 11) (ws2 := [cMod r_ r_n r_o r_h r_A r_O r_H r_b r_x r_c r_m r_s r_z r_i r_v im be bg tx ta fa cl, cIar cI r_n 69 f_nv3]) 1 0 rfl dX9_pushes_205 rfl rfl (by decide) ef_nv3 rfl ?_
        have hR := Option.some.inj hR
        exact j_vret X hr dX9_pushes_206 rfl (by rw [← hR])
      · replace hR := (if_neg cv2).symm.trans hR
        refine j_bipush X (v := 15) dX9_pushes_17 (by decide) ?_
        refine j_iconst X (v := 3) dX9_pushes_19 (by decide) ?_
        refine j_iload_n X (q := 3) dX9_pushes_20 rfl ?_
        refine j_imul X dX9_pushes_21 ?_
        refine j_iadd X dX9_pushes_22 ?_
        obtain ⟨x4v4, ex4v4, hR⟩ := lt_some hR
        refine j_eq (congrArg (fun z => Value.int z :: _) ex4v4) rfl ?_
        refine j_istore X (lv2 := [(4, .int x4v4), (0, .ref r_), (1, .int x1), (2, .int x2), (3, .int x3)]) dX9_pushes_23 (by decide) rfl ?_
        refine j_aload_n X (q := 1) dX9_pushes_25 rfl ?_
        refine j_get X 0 0 hiX9 k_665 dX9_pushes_26 rfl rfl (by decide) rfl ?_
        refine j_iload X (q := 0) dX9_pushes_29 rfl ?_
        refine j_iconst X (v := 2) dX9_pushes_31 (by decide) ?_
        refine j_iadd X dX9_pushes_32 ?_
        obtain ⟨gv5, hR⟩ := gd_some hR
        refine j_iald X 1 0 rfl dX9_pushes_33 rfl rfl gv5 ?_
        obtain ⟨x5v6, ex5v6, hR⟩ := lt_some hR
        refine j_eq (congrArg (fun z => Value.int z :: _) ex5v6) rfl ?_
        refine j_istore X (lv2 := [(5, .int x5v6), (4, .int x4v4), (0, .ref r_), (1, .int x1), (2, .int x2), (3, .int x3)]) dX9_pushes_34 (by decide) rfl ?_
        refine j_aload_n X (q := 2) dX9_pushes_36 rfl ?_
        refine j_get X 0 0 hiX9 k_665 dX9_pushes_37 rfl rfl (by decide) rfl ?_
        refine j_iload X (q := 1) dX9_pushes_40 rfl ?_
        obtain ⟨gv7, hR⟩ := gd_some hR
        refine j_iald X 1 0 rfl dX9_pushes_42 rfl rfl gv7 ?_
        refine j_aload_n X (q := 2) dX9_pushes_43 rfl ?_
        refine j_get X 0 0 hiX9 k_665 dX9_pushes_44 rfl rfl (by decide) rfl ?_
        refine j_bipush X (v := 8) dX9_pushes_47 (by decide) ?_
        refine j_iald X (k := 8) 1 0 rfl dX9_pushes_49 rfl rfl (by decide) ?_
        refine j_icmp_eq X (tgt := 98) dX9_pushes_50 (by decide) (fun cv8 => ?_) (fun cv8 => ?_)
        · replace hR := (if_pos cv8).symm.trans hR
          refine j_aload_n X (q := 2) dX9_pushes_98 rfl ?_
          refine j_get X 0 0 hiX9 k_665 dX9_pushes_99 rfl rfl (by decide) rfl ?_
          refine j_iload X (q := 1) dX9_pushes_102 rfl ?_
          refine j_iconst X (v := 1) dX9_pushes_104 (by decide) ?_
          refine j_iadd X dX9_pushes_105 ?_
          obtain ⟨gv9, hR⟩ := gd_some hR
          refine j_iald X 1 0 rfl dX9_pushes_106 rfl rfl gv9 ?_
          obtain ⟨wv10, ewv10, hR⟩ := lt_some hR
          refine j_eq (congrArg (fun z => Value.int z :: _) ewv10) rfl ?_
          by_cases cv11 : wv10 = 0
          · replace hR := (if_pos cv11).symm.trans hR
            refine j_tableIn X (tgt := 132) dX9_pushes_107 (by rw [cv11]; decide) (by rw [cv11]; decide) (by rw [cv11]; rfl) (by decide) ?_
            refine j_aload_n X (q := 2) dX9_pushes_132 rfl ?_
            refine j_get X 0 0 hiX9 k_665 dX9_pushes_133 rfl rfl (by decide) rfl ?_
            refine j_iconst X (v := 1) dX9_pushes_136 (by decide) ?_
            refine j_dup2_11 X dX9_pushes_137 rfl rfl ?_
            refine j_iald X (k := 1) 1 0 rfl dX9_pushes_138 rfl rfl (by decide) ?_
            refine j_iload X (q := 0) dX9_pushes_139 rfl ?_
            refine j_iadd X dX9_pushes_141 ?_
            obtain ⟨f_nv12, ef_nv12, hR⟩ := lt_some hR
            refine j_iast X (k := 1) (ws2 := [cMod r_ r_n r_o r_h r_A r_O r_H r_b r_x r_c r_m r_s r_z r_i r_v im be bg tx ta fa cl, cIar cI r_n 69 f_nv12]) 1 0 rfl dX9_pushes_142 rfl rfl (by decide) ef_nv12 rfl ?_
            refine j_goto X (tgt := 192) dX9_pushes_143 (by decide) ?_
            obtain ⟨x3v13, ex3v13, hR⟩ := lt_some hR
            refine j_iinc X (k := 5) (v := x3v13) (lv2 := [(3, .int x3v13), (5, .int x5v6), (4, .int x4v4), (0, .ref r_), (1, .int x1), (2, .int x2)]) dX9_pushes_192 rfl (by rw [← ex3v13]; rfl) (by decide) rfl ?_
            refine j_goto X (tgt := 12) dX9_pushes_195 (by decide) ?_
            refine j_sub (lv2 := [(0, .ref r_), (1, .int x1), (2, .int x2), (3, .int x3v13)]) [3, 4, 5, 0] rfl ?_
            exact ih _ _ _ _ hR
          · replace hR := (if_neg cv11).symm.trans hR
            by_cases cv14 : wv10 = 1
            · replace hR := (if_pos cv14).symm.trans hR
              refine j_tableIn X (tgt := 146) dX9_pushes_107 (by rw [cv14]; decide) (by rw [cv14]; decide) (by rw [cv14]; rfl) (by decide) ?_
              refine j_aload_n X (q := 2) dX9_pushes_146 rfl ?_
              refine j_get X 0 0 hiX9 k_665 dX9_pushes_147 rfl rfl (by decide) rfl ?_
              refine j_iconst X (v := 5) dX9_pushes_150 (by decide) ?_
              refine j_iconst X (v := 0) dX9_pushes_151 (by decide) ?_
              refine j_bipush X (v := 60) dX9_pushes_152 (by decide) ?_
              refine j_aload_n X (q := 2) dX9_pushes_154 rfl ?_
              refine j_get X 0 0 hiX9 k_665 dX9_pushes_155 rfl rfl (by decide) rfl ?_
              refine j_iconst X (v := 5) dX9_pushes_158 (by decide) ?_
              refine j_iald X (k := 5) 1 0 rfl dX9_pushes_159 rfl rfl (by decide) ?_
              refine j_iload X (q := 0) dX9_pushes_160 rfl ?_
              refine j_iadd X dX9_pushes_162 ?_
              obtain ⟨uv15, euv15, hR⟩ := lt_some hR
              refine j_eq (congrArg (fun z => Value.int z :: _) euv15) rfl ?_
              refine j_mmin X k_773 k_362 k_48 k_363 ⟨by decide, Nat.le_of_ble_eq_true rfl, Nat.zero_le _, Nat.zero_le _⟩ dX9_pushes_163 ?_
              obtain ⟨uv16, euv16, hR⟩ := lt_some hR
              refine j_eq (congrArg (fun z => Value.int z :: _) euv16) rfl ?_
              refine j_mmax X k_774 k_365 k_48 k_366 ⟨by decide, Nat.le_of_ble_eq_true rfl, Nat.zero_le _, Nat.zero_le _⟩ dX9_pushes_166 ?_
              obtain ⟨f_nv17, ef_nv17, hR⟩ := lt_some hR
              refine j_iast X (k := 5) (ws2 := [cMod r_ r_n r_o r_h r_A r_O r_H r_b r_x r_c r_m r_s r_z r_i r_v im be bg tx ta fa cl, cIar cI r_n 69 f_nv17]) 1 0 rfl dX9_pushes_169 rfl rfl (by decide) ef_nv17 rfl ?_
              refine j_goto X (tgt := 192) dX9_pushes_170 (by decide) ?_
              obtain ⟨x3v18, ex3v18, hR⟩ := lt_some hR
              refine j_iinc X (k := 5) (v := x3v18) (lv2 := [(3, .int x3v18), (5, .int x5v6), (4, .int x4v4), (0, .ref r_), (1, .int x1), (2, .int x2)]) dX9_pushes_192 rfl (by rw [← ex3v18]; rfl) (by decide) rfl ?_
              refine j_goto X (tgt := 12) dX9_pushes_195 (by decide) ?_
              refine j_sub (lv2 := [(0, .ref r_), (1, .int x1), (2, .int x2), (3, .int x3v18)]) [3, 4, 5, 0] rfl ?_
              exact ih _ _ _ _ hR
            · replace hR := (if_neg cv14).symm.trans hR
              by_cases cv19 : wv10 = 2
              · replace hR := (if_pos cv19).symm.trans hR
                refine j_tableIn X (tgt := 173) dX9_pushes_107 (by rw [cv19]; decide) (by rw [cv19]; decide) (by rw [cv19]; rfl) (by decide) ?_
                refine j_aload_n X (q := 2) dX9_pushes_173 rfl ?_
                refine j_get X 0 0 hiX9 k_665 dX9_pushes_174 rfl rfl (by decide) rfl ?_
                refine j_iconst X (v := 4) dX9_pushes_177 (by decide) ?_
                refine j_iload X (q := 0) dX9_pushes_178 rfl ?_
                obtain ⟨f_nv20, ef_nv20, hR⟩ := lt_some hR
                refine j_iast X (k := 4) (ws2 := [cMod r_ r_n r_o r_h r_A r_O r_H r_b r_x r_c r_m r_s r_z r_i r_v im be bg tx ta fa cl, cIar cI r_n 69 f_nv20]) 1 0 rfl dX9_pushes_180 rfl rfl (by decide) ef_nv20 rfl ?_
                refine j_goto X (tgt := 192) dX9_pushes_181 (by decide) ?_
                obtain ⟨x3v21, ex3v21, hR⟩ := lt_some hR
                refine j_iinc X (k := 5) (v := x3v21) (lv2 := [(3, .int x3v21), (5, .int x5v6), (4, .int x4v4), (0, .ref r_), (1, .int x1), (2, .int x2)]) dX9_pushes_192 rfl (by rw [← ex3v21]; rfl) (by decide) rfl ?_
                refine j_goto X (tgt := 12) dX9_pushes_195 (by decide) ?_
                refine j_sub (lv2 := [(0, .ref r_), (1, .int x1), (2, .int x2), (3, .int x3v21)]) [3, 4, 5, 0] rfl ?_
                exact ih _ _ _ _ hR
              · replace hR := (if_neg cv19).symm.trans hR
                refine j_tableOut X (tgt := 184) dX9_pushes_107 (by have hcv11 := lv_neT cv11 (a := 0) rfl; have hcv14 := lv_neT cv14 (a := 1) rfl; have hcv19 := lv_neT cv19 (a := 2) rfl; omega) (by decide) ?_
                refine j_aload_n X (q := 2) dX9_pushes_184 rfl ?_
                refine j_get X 0 0 hiX9 k_665 dX9_pushes_185 rfl rfl (by decide) rfl ?_
                refine j_iconst X (v := 3) dX9_pushes_188 (by decide) ?_
                refine j_iload X (q := 0) dX9_pushes_189 rfl ?_
                obtain ⟨f_nv22, ef_nv22, hR⟩ := lt_some hR
                refine j_iast X (k := 3) (ws2 := [cMod r_ r_n r_o r_h r_A r_O r_H r_b r_x r_c r_m r_s r_z r_i r_v im be bg tx ta fa cl, cIar cI r_n 69 f_nv22]) 1 0 rfl dX9_pushes_191 rfl rfl (by decide) ef_nv22 rfl ?_
                obtain ⟨x3v23, ex3v23, hR⟩ := lt_some hR
                refine j_iinc X (k := 5) (v := x3v23) (lv2 := [(3, .int x3v23), (5, .int x5v6), (4, .int x4v4), (0, .ref r_), (1, .int x1), (2, .int x2)]) dX9_pushes_192 rfl (by rw [← ex3v23]; rfl) (by decide) rfl ?_
                refine j_goto X (tgt := 12) dX9_pushes_195 (by decide) ?_
                refine j_sub (lv2 := [(0, .ref r_), (1, .int x1), (2, .int x2), (3, .int x3v23)]) [3, 4, 5, 0] rfl ?_
                exact ih _ _ _ _ hR
        · replace hR := (if_neg cv8).symm.trans hR
          refine j_iconst X (v := 0) dX9_pushes_53 (by decide) ?_
          refine j_istore X (lv2 := [(6, .int 0), (5, .int x5v6), (4, .int x4v4), (0, .ref r_), (1, .int x1), (2, .int x2), (3, .int x3)]) dX9_pushes_54 (by decide) rfl ?_
          refine j_sub (lv2 := [(0, .ref r_), (1, .int x1), (2, .int x2), (3, .int x3), (4, .int x4v4), (6, .int 0)]) [3, 4, 5, 6, 2, 0] rfl ?_
          exact L_56 _ ih _ _ _ _ _ _ _ hR
  refine j_sub (lv2 := [(0, .ref r_)]) [0] rfl ?_
  have hR := h
  unfold fX9_pushes at hR
  refine j_iconst X (v := 0) dX9_pushes_0 (by decide) ?_
  refine j_istore_n X (lv2 := [(1, .int 0), (0, .ref r_)]) dX9_pushes_1 (by decide) rfl ?_
  refine j_aload_n X (q := 1) dX9_pushes_2 rfl ?_
  refine j_get X 0 0 hiX9 k_665 dX9_pushes_3 rfl rfl (by decide) rfl ?_
  refine j_bipush X (v := 11) dX9_pushes_6 (by decide) ?_
  refine j_iald X (k := 11) 1 0 rfl dX9_pushes_8 rfl rfl (by decide) ?_
  obtain ⟨x2v1, ex2v1, hR⟩ := lt_some hR
  refine j_eq (congrArg (fun z => Value.int z :: _) ex2v1) rfl ?_
  refine j_istore_n X (lv2 := [(2, .int x2v1), (1, .int 0), (0, .ref r_)]) dX9_pushes_9 (by decide) rfl ?_
  refine j_iconst X (v := 0) dX9_pushes_10 (by decide) ?_
  refine j_istore_n X (lv2 := [(3, .int 0), (2, .int x2v1), (1, .int 0), (0, .ref r_)]) dX9_pushes_11 (by decide) rfl ?_
  refine j_sub (lv2 := [(0, .ref r_), (1, .int 0), (2, .int x2v1), (3, .int 0)]) [3, 2, 1, 0] rfl ?_
  exact L_12 _ _ _ _ _ hR

def rmX9_accounts : Room := { frames := 1, cells := 0, slots := 0, locals := 20 }
theorem hdX9_accounts : yX9_accounts.cls ≠ "java/lang/invoke/MethodHandle" ∧ yX9_accounts.cls ≠ "java/lang/invoke/VarHandle" ∧ (parseMethodDescriptor yX9_accounts.desc).map (fun d => d.parameters.length) = some 2 := by decide +kernel
def fX9_accounts (i1 : Int32) (i2 : Int64) (im : Int32) (be : Int32) (bg : Int32) (tx : Int32) (ta : Int32) (fa : Int32) (cl : Int32) (f_A : Nat → Int64) (f_n : Nat → Int32) : Option (Int64 × (Nat → Int64)) :=
  (fX9_energyNow im be bg tx ta fa cl f_n).bind fun ov1 =>
  gd (inb i1 4) (gd (inb i1 4) (lt' (vp_updL f_A i1.toNatClampNeg ((f_A i1.toNatClampNeg) + (ov1 - i2))) fun f_Av4 =>
  some (ov1, f_Av4)))
set_option maxHeartbeats 8000000 in
set_option maxRecDepth 100000 in
theorem mX9_accounts (l : Launch) (D : va_G) (cI cJ cB cT : ClassId) (tt : Nat → Nat) (r_ r_n r_o r_h r_A r_O r_H r_b r_x r_c r_m r_s r_z r_i r_v : Nat) {i1 : Int32} {i2 : Int64} {im : Int32} {be : Int32} {bg : Int32} {tx : Int32} {ta : Int32} {fa : Int32} {cl : Int32} {f_A : Nat → Int64} {f_n : Nat → Int32} {out : Int64 × (Nat → Int64)} (h : fX9_accounts i1 i2 im be bg tx ta fa cl f_A f_n = some out) :
    jM l yX9_accounts (.code yX9_accounts cX9_accounts 6 (some .long)) rmX9_accounts D (wTy cI cJ cB cT) tt [.ref r_, .int i1, .long i2] [cMod r_ r_n r_o r_h r_A r_O r_H r_b r_x r_c r_m r_s r_z r_i r_v im be bg tx ta fa cl, cJar cJ r_A 4 f_A, cIar cI r_n 69 f_n] (some (.long out.1)) [cMod r_ r_n r_o r_h r_A r_O r_H r_b r_x r_c r_m r_s r_z r_i r_v im be bg tx ta fa cl, cJar cJ r_A 4 out.2, cIar cI r_n 69 f_n] := by
  refine jM.of (by decide) (Nat.le_of_ble_eq_true rfl) ?_
  intro p e s m below meth c A X hr
  refine j_sub (lv2 := [(0, .ref r_), (1, .int i1), (2, .long i2)]) [0, 1, 2] rfl ?_
  have hR := h
  unfold fX9_accounts at hR
  refine j_aload_n X (q := 0) dX9_accounts_0 rfl ?_
  obtain ⟨ov1, hov1, hR⟩ := bd_some hR
  refine j_callV X (As := []) (rest := []) (ws2 := [cMod r_ r_n r_o r_h r_A r_O r_H r_b r_x r_c r_m r_s r_z r_i r_v im be bg tx ta fa cl, cJar cJ r_A 4 f_A, cIar cI r_n 69 f_n]) (q0 := 0) (ci := 9) (mX9_energyNow l D cI cJ cB cT tt r_ r_n r_o r_h r_A r_O r_H r_b r_x r_c r_m r_s r_z r_i r_v hov1) [0, 2] [.inr 0, .inl 1, .inr 1] k_742 k_739 k_741 k_20 rfl rfl k_47 hdX9_energyNow (by decide) (Nat.le_of_ble_eq_true rfl) dX9_accounts_1 (by decide) rfl rfl (by decide) rfl rfl ?_
  refine j_lstore X (lv2 := [(4, .long ov1), (0, .ref r_), (1, .int i1), (2, .long i2)]) dX9_accounts_4 (by decide) rfl ?_
  refine j_aload_n X (q := 1) dX9_accounts_6 rfl ?_
  refine j_get X 0 4 hiX9 k_669 dX9_accounts_7 rfl rfl (by decide) rfl ?_
  refine j_iload_n X (q := 2) dX9_accounts_10 rfl ?_
  refine j_dup2_11 X dX9_accounts_11 rfl rfl ?_
  obtain ⟨gv2, hR⟩ := gd_some hR
  refine j_lald X 1 1 rfl dX9_accounts_12 rfl rfl gv2 ?_
  refine j_lload X (q := 0) dX9_accounts_13 rfl ?_
  refine j_lload_n X (q := 3) dX9_accounts_15 rfl ?_
  refine j_lsub X dX9_accounts_16 ?_
  refine j_ladd X dX9_accounts_17 ?_
  obtain ⟨gv3, hR⟩ := gd_some hR
  obtain ⟨f_Av4, ef_Av4, hR⟩ := lt_some hR
  refine j_last X (ws2 := [cMod r_ r_n r_o r_h r_A r_O r_H r_b r_x r_c r_m r_s r_z r_i r_v im be bg tx ta fa cl, cJar cJ r_A 4 f_Av4, cIar cI r_n 69 f_n]) 1 1 rfl dX9_accounts_18 rfl rfl gv3 ef_Av4 rfl ?_
  refine j_lload X (q := 0) dX9_accounts_19 rfl ?_
  have hR := Option.some.inj hR
  exact j_lret X hr dX9_accounts_21 (by rw [← hR]) (by rw [← hR])

def rmX9_tick : Room := { frames := 2, cells := 0, slots := 0, locals := 45 }
theorem hdX9_tick : yX9_tick.cls ≠ "java/lang/invoke/MethodHandle" ∧ yX9_tick.cls ≠ "java/lang/invoke/VarHandle" ∧ (parseMethodDescriptor yX9_tick.desc).map (fun d => d.parameters.length) = some 0 := by decide +kernel
def fX9_tick_424 (im : Int32) (bg : Int32) (tx : Int32) (ta : Int32) (fa : Int32) (cl : Int32) : Int64 → Int32 → (Nat → Int64) → (Nat → Int32) → (Nat → Int32) → Option (Int32 × (Nat → Int64) × (Nat → Int32) × (Nat → Int32)) := fun x1 be f_A f_b f_n =>
    (fX9_accounts 3 x1 im be bg tx ta fa cl f_A f_n).bind fun ov35 =>
  lt' (upd f_n 8 ((f_n 8) + 1)) fun f_nv36 =>
  some (be, ov35.2, f_b, f_nv36)
def fX9_tick_383 (im : Int32) (bg : Int32) (tx : Int32) (ta : Int32) (fa : Int32) (cl : Int32) : Int64 → Int32 → (Nat → Int64) → (Nat → Int32) → (Nat → Int32) → Option (Int32 × (Nat → Int64) × (Nat → Int32) × (Nat → Int32)) := fun x1 be f_A f_b f_n =>
    if (400 : Int32) ≤ be then (lt' (be + 1) fun bev45 =>
  fX9_tick_424 im bg tx ta fa cl x1 bev45 f_A f_b f_n) else (gd (inb be 400) (lt' (upd f_b be.toNatClampNeg ((f_n 8) - bg)) fun f_bv47 =>
  lt' (be + 1) fun bev48 =>
  fX9_tick_424 im bg tx ta fa cl x1 bev48 f_A f_bv47 f_n))
def fX9_tick_326 (im : Int32) (bg : Int32) (tx : Int32) (ta : Int32) (fa : Int32) (cl : Int32) : Int64 → Int32 → Int32 → Int32 → Int32 → (Nat → Int64) → (Nat → Int32) → (Nat → Int32) → Option (Int32 × (Nat → Int64) × (Nat → Int32) × (Nat → Int32)) := fun x1 y0 y1 y2 be f_A f_b f_n =>
    gd (inb y2 69) (lt' (upd f_n y2.toNatClampNeg (y1 + y0)) fun f_nv38 =>
  lt' (upd f_nv38 7 ((1 : Int32) - (f_nv38 7))) fun f_nv39 =>
  lt' (upd f_nv39 9 ((f_nv39 9) + 1)) fun f_nv40 =>
  gd (!decide (f_nv40 6 = 0)) (if ((f_nv40 9) - (f_nv40 9) / (f_nv40 6) * (f_nv40 6)) = 0 then (lt' (upd f_nv40 5 ((f_nv40 5) - 1)) fun f_nv43 =>
  fX9_tick_383 im bg tx ta fa cl x1 be f_A f_b f_nv43) else (fX9_tick_383 im bg tx ta fa cl x1 be f_A f_b f_nv40)))
def fX9_tick_278 (im : Int32) (bg : Int32) (tx : Int32) (ta : Int32) (fa : Int32) (cl : Int32) : Int64 → Int32 → Int32 → Int32 → (Nat → Int64) → (Nat → Int32) → (Nat → Int32) → Option (Int32 × (Nat → Int64) × (Nat → Int32) × (Nat → Int32)) := fun x1 x5 y0 be f_A f_b f_n =>
    if (f_n 5) ≤ 0 then (fX9_tick_424 im bg tx ta fa cl x1 be f_A f_b f_n) else (if y0 = 0 then (fX9_tick_424 im bg tx ta fa cl x1 be f_A f_b f_n) else (lt' (((f_n 5) + 3) / 4) fun x8v33 =>
  if x5 = 0 then (fX9_tick_326 im bg tx ta fa cl x1 (-x8v33) (f_n 1) 1 be f_A f_b f_n) else (fX9_tick_326 im bg tx ta fa cl x1 x8v33 (f_n 1) 1 be f_A f_b f_n)))
def fX9_tick_214 (im : Int32) (bg : Int32) (tx : Int32) (ta : Int32) (fa : Int32) (cl : Int32) : Int64 → Int32 → Int32 → Int32 → (Nat → Int64) → (Nat → Int32) → (Nat → Int32) → Option (Int32 × (Nat → Int64) × (Nat → Int32) × (Nat → Int32)) := fun x1 x4 y0 be f_A f_b f_n =>
    lt' (f_n 4) fun x6v25 =>
  if y0 = 0 then (if x4 < x6v25 then (fX9_tick_278 im bg tx ta fa cl x1 y0 0 be f_A f_b f_n) else (if x6v25 ≤ (f_n 0) then (fX9_tick_278 im bg tx ta fa cl x1 y0 0 be f_A f_b f_n) else (fX9_tick_278 im bg tx ta fa cl x1 y0 1 be f_A f_b f_n))) else (if x6v25 < x4 then (fX9_tick_278 im bg tx ta fa cl x1 y0 0 be f_A f_b f_n) else (if (f_n 0) ≤ x6v25 then (fX9_tick_278 im bg tx ta fa cl x1 y0 0 be f_A f_b f_n) else (fX9_tick_278 im bg tx ta fa cl x1 y0 1 be f_A f_b f_n)))
def fX9_tick_192 (im : Int32) (bg : Int32) (tx : Int32) (ta : Int32) (fa : Int32) (cl : Int32) : Int64 → Int32 → Int32 → (Nat → Int64) → (Nat → Int32) → (Nat → Int32) → Option (Int32 × (Nat → Int64) × (Nat → Int32) × (Nat → Int32)) := fun x1 x4 be f_A f_b f_n =>
    (fX9_accounts 1 x1 im be bg tx ta fa cl f_A f_n).bind fun ov19 =>
  if (f_n 7) = 0 then (fX9_tick_214 im bg tx ta fa cl ov19.1 x4 1 be ov19.2 f_b f_n) else (fX9_tick_214 im bg tx ta fa cl ov19.1 x4 0 be ov19.2 f_b f_n)
def fX9_tick_173 (im : Int32) (bg : Int32) (tx : Int32) (ta : Int32) (fa : Int32) (cl : Int32) : Int64 → Int32 → Int32 → Int32 → Int32 → (Nat → Int64) → (Nat → Int32) → (Nat → Int32) → Option (Int32 × (Nat → Int64) × (Nat → Int32) × (Nat → Int32)) := fun x1 x4 y0 y1 be f_A f_b f_n =>
    gd (inb y1 69) (lt' (upd f_n y1.toNatClampNeg y0) fun f_nv22 =>
  lt' (upd f_nv22 1 0) fun f_nv23 =>
  lt' (upd f_nv23 10 ((f_nv23 10) + 1)) fun f_nv24 =>
  fX9_tick_192 im bg tx ta fa cl x1 x4 be f_A f_b f_nv24)
def fX9_tick_101 (im : Int32) (bg : Int32) (tx : Int32) (ta : Int32) (fa : Int32) (cl : Int32) : Int64 → Int32 → Int32 → Int32 → (Nat → Int64) → (Nat → Int32) → (Nat → Int32) → Option (Int32 × (Nat → Int64) × (Nat → Int32) × (Nat → Int32)) := fun x1 y0 y1 be f_A f_b f_n =>
    gd (inb y1 69) (lt' (upd f_n y1.toNatClampNeg y0) fun f_nv12 =>
  (fX9_accounts 2 x1 im be bg tx ta fa cl f_A f_nv12).bind fun ov13 =>
  lt' (f_nv12 0) fun x4v14 =>
  lt' (upd f_nv12 0 ((f_nv12 0) + (f_nv12 1))) fun f_nv15 =>
  (fX9_within (f_nv15 0) (-300) 300).bind fun ov16 =>
  if ov16 = 0 then (if (f_nv15 0) ≤ 0 then (fX9_tick_173 im bg tx ta fa cl ov13.1 x4v14 (-300) 0 be ov13.2 f_b f_nv15) else (fX9_tick_173 im bg tx ta fa cl ov13.1 x4v14 300 0 be ov13.2 f_b f_nv15)) else (fX9_tick_192 im bg tx ta fa cl ov13.1 x4v14 be ov13.2 f_b f_nv15))
def fX9_tick_19 (im : Int32) (bg : Int32) (tx : Int32) (ta : Int32) (fa : Int32) (cl : Int32) : Int64 → Int32 → (Nat → Int64) → (Nat → Int32) → (Nat → Int32) → Option (Int32 × (Nat → Int64) × (Nat → Int32) × (Nat → Int32)) := fun x1 be f_A f_b f_n =>
    (fX9_accounts 0 x1 im be bg tx ta fa cl f_A f_n).bind fun ov4 =>
  lt' (upd f_n 1 ((f_n 1) - (((f_n 0) * (f_n 2)) / 32))) fun f_nv5 =>
  (fX9_accounts 1 ov4.1 im be bg tx ta fa cl ov4.2 f_nv5).bind fun ov6 =>
  lt' (f_nv5 1) fun x3v7 =>
  if x3v7 ≤ 0 then (lt' (x3v7 + (f_nv5 3)) fun uv9 =>
  fX9_tick_101 im bg tx ta fa cl ov6.1 (if uv9 < 0 then uv9 else 0) 1 be ov6.2 f_b f_nv5) else (lt' (x3v7 - (f_nv5 3)) fun uv10 =>
  fX9_tick_101 im bg tx ta fa cl ov6.1 (if (0 : Int32) < uv10 then uv10 else 0) 1 be ov6.2 f_b f_nv5)
def fX9_tick (im : Int32) (be : Int32) (bg : Int32) (tx : Int32) (ta : Int32) (fa : Int32) (cl : Int32) (f_A : Nat → Int64) (f_b : Nat → Int32) (f_n : Nat → Int32) : Option (Int32 × (Nat → Int64) × (Nat → Int32) × (Nat → Int32)) :=
  (fX9_energyNow im be bg tx ta fa cl f_n).bind fun ov1 =>
  if (f_n 11) ≤ 0 then (fX9_tick_19 im bg tx ta fa cl ov1 be f_A f_b f_n) else ((fX9_pushes im be bg tx ta fa cl f_n).bind fun ov3 =>
  fX9_tick_19 im bg tx ta fa cl ov1 be f_A f_b ov3)
set_option maxHeartbeats 8000000 in
set_option maxRecDepth 100000 in
theorem mX9_tick (l : Launch) (D : va_G) (cI cJ cB cT : ClassId) (tt : Nat → Nat) (r_ r_n r_o r_h r_A r_O r_H r_b r_x r_c r_m r_s r_z r_i r_v : Nat)  {im : Int32} {be : Int32} {bg : Int32} {tx : Int32} {ta : Int32} {fa : Int32} {cl : Int32} {f_A : Nat → Int64} {f_b : Nat → Int32} {f_n : Nat → Int32} {out : Int32 × (Nat → Int64) × (Nat → Int32) × (Nat → Int32)} (h : fX9_tick im be bg tx ta fa cl f_A f_b f_n = some out) :
    jM l yX9_tick (.code yX9_tick cX9_tick 9 none) rmX9_tick D (wTy cI cJ cB cT) tt [.ref r_] [cMod r_ r_n r_o r_h r_A r_O r_H r_b r_x r_c r_m r_s r_z r_i r_v im be bg tx ta fa cl, cJar cJ r_A 4 f_A, cIar cI r_b 400 f_b, cIar cI r_n 69 f_n] (none) [cMod r_ r_n r_o r_h r_A r_O r_H r_b r_x r_c r_m r_s r_z r_i r_v im out.1 bg tx ta fa cl, cJar cJ r_A 4 out.2.1, cIar cI r_b 400 out.2.2.1, cIar cI r_n 69 out.2.2.2] := by
  refine jM.of (by decide) (Nat.le_of_ble_eq_true rfl) ?_
  intro p e s m below meth c A X hr
  have L_424 : ∀ (x1 : Int64) (be : Int32) (f_A : Nat → Int64) (f_b : Nat → Int32) (f_n : Nat → Int32), fX9_tick_424 im bg tx ta fa cl  x1 be f_A f_b f_n = some out → jW p l e rmX9_tick s m ([.ref r_] : List Value).toArray below meth c D A 9 (MQ below (jQ D (none) [cMod r_ r_n r_o r_h r_A r_O r_H r_b r_x r_c r_m r_s r_z r_i r_v im out.1 bg tx ta fa cl, cJar cJ r_A 4 out.2.1, cIar cI r_b 400 out.2.2.1, cIar cI r_n 69 out.2.2.2] A) ([.ref r_] : List Value).toArray s 0 0 A) 0 0 424 [(0, .ref r_), (1, .long x1)] [] [cMod r_ r_n r_o r_h r_A r_O r_H r_b r_x r_c r_m r_s r_z r_i r_v im be bg tx ta fa cl, cJar cJ r_A 4 f_A, cIar cI r_b 400 f_b, cIar cI r_n 69 f_n] := by
    intro  x1 be f_A f_b f_n hR
    unfold fX9_tick_424 at hR
    refine j_aload_n X (q := 0) dX9_tick_424 rfl ?_
    refine j_iconst X (v := 3) dX9_tick_425 (by decide) ?_
    refine j_lload_n X (q := 1) dX9_tick_426 rfl ?_
    obtain ⟨ov35, hov35, hR⟩ := bd_some hR
    refine j_callV X (As := [.int 3, .long x1]) (rest := []) (ws2 := [cMod r_ r_n r_o r_h r_A r_O r_H r_b r_x r_c r_m r_s r_z r_i r_v im be bg tx ta fa cl, cJar cJ r_A 4 ov35.2, cIar cI r_b 400 f_b, cIar cI r_n 69 f_n]) (q0 := 0) (ci := 9) (mX9_accounts l D cI cJ cB cT tt r_ r_n r_o r_h r_A r_O r_H r_b r_x r_c r_m r_s r_z r_i r_v hov35) [0, 1, 3] [.inr 0, .inr 1, .inl 2, .inr 2] k_778 k_775 k_777 k_24 rfl rfl k_47 hdX9_accounts (by decide) (Nat.le_of_ble_eq_true rfl) dX9_tick_427 (by decide) rfl rfl (by decide) rfl rfl ?_
    refine j_pop2_2 X dX9_tick_430 rfl ?_
    refine j_aload_n X (q := 0) dX9_tick_431 rfl ?_
    refine j_get X 0 0 hiX9 k_665 dX9_tick_432 rfl rfl (by decide) rfl ?_
    refine j_bipush X (v := 8) dX9_tick_435 (by decide) ?_
    refine j_dup2_11 X dX9_tick_437 rfl rfl ?_
    refine j_iald X (k := 8) 3 0 rfl dX9_tick_438 rfl rfl (by decide) ?_
    refine j_iconst X (v := 1) dX9_tick_439 (by decide) ?_
    refine j_iadd X dX9_tick_440 ?_
    obtain ⟨f_nv36, ef_nv36, hR⟩ := lt_some hR
    refine j_iast X (k := 8) (ws2 := [cMod r_ r_n r_o r_h r_A r_O r_H r_b r_x r_c r_m r_s r_z r_i r_v im be bg tx ta fa cl, cJar cJ r_A 4 ov35.2, cIar cI r_b 400 f_b, cIar cI r_n 69 f_nv36]) 3 0 rfl dX9_tick_441 rfl rfl (by decide) ef_nv36 rfl ?_
    have hR := Option.some.inj hR
    exact j_vret X hr dX9_tick_442 rfl (by rw [← hR])
  have L_383 : ∀ (x1 : Int64) (be : Int32) (f_A : Nat → Int64) (f_b : Nat → Int32) (f_n : Nat → Int32), fX9_tick_383 im bg tx ta fa cl  x1 be f_A f_b f_n = some out → jW p l e rmX9_tick s m ([.ref r_] : List Value).toArray below meth c D A 9 (MQ below (jQ D (none) [cMod r_ r_n r_o r_h r_A r_O r_H r_b r_x r_c r_m r_s r_z r_i r_v im out.1 bg tx ta fa cl, cJar cJ r_A 4 out.2.1, cIar cI r_b 400 out.2.2.1, cIar cI r_n 69 out.2.2.2] A) ([.ref r_] : List Value).toArray s 0 0 A) 0 0 383 [(0, .ref r_), (1, .long x1)] [] [cMod r_ r_n r_o r_h r_A r_O r_H r_b r_x r_c r_m r_s r_z r_i r_v im be bg tx ta fa cl, cJar cJ r_A 4 f_A, cIar cI r_b 400 f_b, cIar cI r_n 69 f_n] := by
    intro  x1 be f_A f_b f_n hR
    unfold fX9_tick_383 at hR
    refine j_aload_n X (q := 0) dX9_tick_383 rfl ?_
    refine j_get X 0 7 hiX9 k_672 dX9_tick_384 rfl rfl (by decide) rfl ?_
    refine j_sipush X (v := 400) dX9_tick_387 (by decide) ?_
    refine j_icmp_ge X (tgt := 414) dX9_tick_390 (by decide) (fun cv44 => ?_) (fun cv44 => ?_)
    · replace hR := (if_pos cv44).symm.trans hR
      refine j_aload_n X (q := 0) dX9_tick_414 rfl ?_
      refine j_dup X dX9_tick_415 rfl ?_
      refine j_get X 0 7 hiX9 k_672 dX9_tick_416 rfl rfl (by decide) rfl ?_
      refine j_iconst X (v := 1) dX9_tick_419 (by decide) ?_
      refine j_iadd X dX9_tick_420 ?_
      obtain ⟨bev45, ebev45, hR⟩ := lt_some hR
      refine j_put X (ws2 := [cMod r_ r_n r_o r_h r_A r_O r_H r_b r_x r_c r_m r_s r_z r_i r_v im bev45 bg tx ta fa cl, cJar cJ r_A 4 f_A, cIar cI r_b 400 f_b, cIar cI r_n 69 f_n]) 0 7 hiX9 tyX9_ok nmX9 k_672 dX9_tick_421 rfl rfl (by decide) (by decide) rfl rfl (Nat.le_of_ble_eq_true rfl) (by subst ebev45; rfl) ?_
      exact L_424 _ _ _ _ _ hR
    · replace hR := (if_neg cv44).symm.trans hR
      refine j_aload_n X (q := 0) dX9_tick_393 rfl ?_
      refine j_get X 0 9 hiX9 k_674 dX9_tick_394 rfl rfl (by decide) rfl ?_
      refine j_aload_n X (q := 0) dX9_tick_397 rfl ?_
      refine j_get X 0 7 hiX9 k_672 dX9_tick_398 rfl rfl (by decide) rfl ?_
      refine j_aload_n X (q := 0) dX9_tick_401 rfl ?_
      refine j_get X 0 0 hiX9 k_665 dX9_tick_402 rfl rfl (by decide) rfl ?_
      refine j_bipush X (v := 8) dX9_tick_405 (by decide) ?_
      refine j_iald X (k := 8) 3 0 rfl dX9_tick_407 rfl rfl (by decide) ?_
      refine j_aload_n X (q := 0) dX9_tick_408 rfl ?_
      refine j_get X 0 8 hiX9 k_673 dX9_tick_409 rfl rfl (by decide) rfl ?_
      refine j_isub X dX9_tick_412 ?_
      obtain ⟨gv46, hR⟩ := gd_some hR
      obtain ⟨f_bv47, ef_bv47, hR⟩ := lt_some hR
      refine j_iast X (ws2 := [cMod r_ r_n r_o r_h r_A r_O r_H r_b r_x r_c r_m r_s r_z r_i r_v im be bg tx ta fa cl, cJar cJ r_A 4 f_A, cIar cI r_b 400 f_bv47, cIar cI r_n 69 f_n]) 2 0 rfl dX9_tick_413 rfl rfl gv46 ef_bv47 rfl ?_
      refine j_aload_n X (q := 0) dX9_tick_414 rfl ?_
      refine j_dup X dX9_tick_415 rfl ?_
      refine j_get X 0 7 hiX9 k_672 dX9_tick_416 rfl rfl (by decide) rfl ?_
      refine j_iconst X (v := 1) dX9_tick_419 (by decide) ?_
      refine j_iadd X dX9_tick_420 ?_
      obtain ⟨bev48, ebev48, hR⟩ := lt_some hR
      refine j_put X (ws2 := [cMod r_ r_n r_o r_h r_A r_O r_H r_b r_x r_c r_m r_s r_z r_i r_v im bev48 bg tx ta fa cl, cJar cJ r_A 4 f_A, cIar cI r_b 400 f_bv47, cIar cI r_n 69 f_n]) 0 7 hiX9 tyX9_ok nmX9 k_672 dX9_tick_421 rfl rfl (by decide) (by decide) rfl rfl (Nat.le_of_ble_eq_true rfl) (by subst ebev48; rfl) ?_
      exact L_424 _ _ _ _ _ hR
  have L_326 : ∀ (x1 : Int64) (y0 : Int32) (y1 : Int32) (y2 : Int32) (be : Int32) (f_A : Nat → Int64) (f_b : Nat → Int32) (f_n : Nat → Int32), fX9_tick_326 im bg tx ta fa cl  x1 y0 y1 y2 be f_A f_b f_n = some out → jW p l e rmX9_tick s m ([.ref r_] : List Value).toArray below meth c D A 9 (MQ below (jQ D (none) [cMod r_ r_n r_o r_h r_A r_O r_H r_b r_x r_c r_m r_s r_z r_i r_v im out.1 bg tx ta fa cl, cJar cJ r_A 4 out.2.1, cIar cI r_b 400 out.2.2.1, cIar cI r_n 69 out.2.2.2] A) ([.ref r_] : List Value).toArray s 0 0 A) 0 0 326 [(0, .ref r_), (1, .long x1)] [.int y0, .int y1, .int y2, .ref r_n] [cMod r_ r_n r_o r_h r_A r_O r_H r_b r_x r_c r_m r_s r_z r_i r_v im be bg tx ta fa cl, cJar cJ r_A 4 f_A, cIar cI r_b 400 f_b, cIar cI r_n 69 f_n] := by
    intro  x1 y0 y1 y2 be f_A f_b f_n hR
    unfold fX9_tick_326 at hR
    refine j_iadd X dX9_tick_326 ?_
    obtain ⟨gv37, hR⟩ := gd_some hR
    obtain ⟨f_nv38, ef_nv38, hR⟩ := lt_some hR
    refine j_iast X (ws2 := [cMod r_ r_n r_o r_h r_A r_O r_H r_b r_x r_c r_m r_s r_z r_i r_v im be bg tx ta fa cl, cJar cJ r_A 4 f_A, cIar cI r_b 400 f_b, cIar cI r_n 69 f_nv38]) 3 0 rfl dX9_tick_327 rfl rfl gv37 ef_nv38 rfl ?_
    refine j_aload_n X (q := 0) dX9_tick_328 rfl ?_
    refine j_get X 0 0 hiX9 k_665 dX9_tick_329 rfl rfl (by decide) rfl ?_
    refine j_bipush X (v := 7) dX9_tick_332 (by decide) ?_
    refine j_iconst X (v := 1) dX9_tick_334 (by decide) ?_
    refine j_aload_n X (q := 0) dX9_tick_335 rfl ?_
    refine j_get X 0 0 hiX9 k_665 dX9_tick_336 rfl rfl (by decide) rfl ?_
    refine j_bipush X (v := 7) dX9_tick_339 (by decide) ?_
    refine j_iald X (k := 7) 3 0 rfl dX9_tick_341 rfl rfl (by decide) ?_
    refine j_isub X dX9_tick_342 ?_
    obtain ⟨f_nv39, ef_nv39, hR⟩ := lt_some hR
    refine j_iast X (k := 7) (ws2 := [cMod r_ r_n r_o r_h r_A r_O r_H r_b r_x r_c r_m r_s r_z r_i r_v im be bg tx ta fa cl, cJar cJ r_A 4 f_A, cIar cI r_b 400 f_b, cIar cI r_n 69 f_nv39]) 3 0 rfl dX9_tick_343 rfl rfl (by decide) ef_nv39 rfl ?_
    refine j_aload_n X (q := 0) dX9_tick_344 rfl ?_
    refine j_get X 0 0 hiX9 k_665 dX9_tick_345 rfl rfl (by decide) rfl ?_
    refine j_bipush X (v := 9) dX9_tick_348 (by decide) ?_
    refine j_dup2_11 X dX9_tick_350 rfl rfl ?_
    refine j_iald X (k := 9) 3 0 rfl dX9_tick_351 rfl rfl (by decide) ?_
    refine j_iconst X (v := 1) dX9_tick_352 (by decide) ?_
    refine j_iadd X dX9_tick_353 ?_
    obtain ⟨f_nv40, ef_nv40, hR⟩ := lt_some hR
    refine j_iast X (k := 9) (ws2 := [cMod r_ r_n r_o r_h r_A r_O r_H r_b r_x r_c r_m r_s r_z r_i r_v im be bg tx ta fa cl, cJar cJ r_A 4 f_A, cIar cI r_b 400 f_b, cIar cI r_n 69 f_nv40]) 3 0 rfl dX9_tick_354 rfl rfl (by decide) ef_nv40 rfl ?_
    refine j_aload_n X (q := 0) dX9_tick_355 rfl ?_
    refine j_get X 0 0 hiX9 k_665 dX9_tick_356 rfl rfl (by decide) rfl ?_
    refine j_bipush X (v := 9) dX9_tick_359 (by decide) ?_
    refine j_iald X (k := 9) 3 0 rfl dX9_tick_361 rfl rfl (by decide) ?_
    refine j_aload_n X (q := 0) dX9_tick_362 rfl ?_
    refine j_get X 0 0 hiX9 k_665 dX9_tick_363 rfl rfl (by decide) rfl ?_
    refine j_bipush X (v := 6) dX9_tick_366 (by decide) ?_
    refine j_iald X (k := 6) 3 0 rfl dX9_tick_368 rfl rfl (by decide) ?_
    obtain ⟨gv41, hR⟩ := gd_some hR
    refine j_irem X dX9_tick_369 (by simpa using gv41) ?_
    refine j_if_ne X (tgt := 383) dX9_tick_370 (by decide) (fun cv42 => ?_) (fun cv42 => ?_)
    · replace hR := (if_neg cv42).symm.trans hR
      exact L_383 _ _ _ _ _ hR
    · replace hR := (if_pos cv42).symm.trans hR
      refine j_aload_n X (q := 0) dX9_tick_373 rfl ?_
      refine j_get X 0 0 hiX9 k_665 dX9_tick_374 rfl rfl (by decide) rfl ?_
      refine j_iconst X (v := 5) dX9_tick_377 (by decide) ?_
      refine j_dup2_11 X dX9_tick_378 rfl rfl ?_
      refine j_iald X (k := 5) 3 0 rfl dX9_tick_379 rfl rfl (by decide) ?_
      refine j_iconst X (v := 1) dX9_tick_380 (by decide) ?_
      refine j_isub X dX9_tick_381 ?_
      obtain ⟨f_nv43, ef_nv43, hR⟩ := lt_some hR
      refine j_iast X (k := 5) (ws2 := [cMod r_ r_n r_o r_h r_A r_O r_H r_b r_x r_c r_m r_s r_z r_i r_v im be bg tx ta fa cl, cJar cJ r_A 4 f_A, cIar cI r_b 400 f_b, cIar cI r_n 69 f_nv43]) 3 0 rfl dX9_tick_382 rfl rfl (by decide) ef_nv43 rfl ?_
      exact L_383 _ _ _ _ _ hR
  have L_278 : ∀ (x1 : Int64) (x5 : Int32) (y0 : Int32) (be : Int32) (f_A : Nat → Int64) (f_b : Nat → Int32) (f_n : Nat → Int32), fX9_tick_278 im bg tx ta fa cl  x1 x5 y0 be f_A f_b f_n = some out → jW p l e rmX9_tick s m ([.ref r_] : List Value).toArray below meth c D A 9 (MQ below (jQ D (none) [cMod r_ r_n r_o r_h r_A r_O r_H r_b r_x r_c r_m r_s r_z r_i r_v im out.1 bg tx ta fa cl, cJar cJ r_A 4 out.2.1, cIar cI r_b 400 out.2.2.1, cIar cI r_n 69 out.2.2.2] A) ([.ref r_] : List Value).toArray s 0 0 A) 0 0 278 [(0, .ref r_), (1, .long x1), (5, .int x5)] [.int y0] [cMod r_ r_n r_o r_h r_A r_O r_H r_b r_x r_c r_m r_s r_z r_i r_v im be bg tx ta fa cl, cJar cJ r_A 4 f_A, cIar cI r_b 400 f_b, cIar cI r_n 69 f_n] := by
    intro  x1 x5 y0 be f_A f_b f_n hR
    unfold fX9_tick_278 at hR
    refine j_istore X (lv2 := [(7, .int y0), (0, .ref r_), (1, .long x1), (5, .int x5)]) dX9_tick_278 (by decide) rfl ?_
    refine j_aload_n X (q := 1) dX9_tick_280 rfl ?_
    refine j_get X 0 0 hiX9 k_665 dX9_tick_281 rfl rfl (by decide) rfl ?_
    refine j_iconst X (v := 5) dX9_tick_284 (by decide) ?_
    refine j_iald X (k := 5) 3 0 rfl dX9_tick_285 rfl rfl (by decide) ?_
    refine j_if_le X (tgt := 424) dX9_tick_286 (by decide) (fun cv31 => ?_) (fun cv31 => ?_)
    · replace hR := (if_pos cv31).symm.trans hR
      refine j_sub (lv2 := [(0, .ref r_), (1, .long x1)]) [1, 2] rfl ?_
      exact L_424 _ _ _ _ _ hR
    · replace hR := (if_neg cv31).symm.trans hR
      refine j_iload X (q := 0) dX9_tick_289 rfl ?_
      refine j_if_eq X (tgt := 424) dX9_tick_291 (by decide) (fun cv32 => ?_) (fun cv32 => ?_)
      · replace hR := (if_pos cv32).symm.trans hR
        refine j_sub (lv2 := [(0, .ref r_), (1, .long x1)]) [1, 2] rfl ?_
        exact L_424 _ _ _ _ _ hR
      · replace hR := (if_neg cv32).symm.trans hR
        refine j_aload_n X (q := 1) dX9_tick_294 rfl ?_
        refine j_get X 0 0 hiX9 k_665 dX9_tick_295 rfl rfl (by decide) rfl ?_
        refine j_iconst X (v := 5) dX9_tick_298 (by decide) ?_
        refine j_iald X (k := 5) 3 0 rfl dX9_tick_299 rfl rfl (by decide) ?_
        refine j_iconst X (v := 3) dX9_tick_300 (by decide) ?_
        refine j_iadd X dX9_tick_301 ?_
        refine j_iconst X (v := 4) dX9_tick_302 (by decide) ?_
        refine j_idiv X dX9_tick_303 (by decide) ?_
        obtain ⟨x8v33, ex8v33, hR⟩ := lt_some hR
        refine j_eq (congrArg (fun z => Value.int z :: _) ex8v33) rfl ?_
        refine j_istore X (lv2 := [(8, .int x8v33), (7, .int y0), (0, .ref r_), (1, .long x1), (5, .int x5)]) dX9_tick_304 (by decide) rfl ?_
        refine j_aload_n X (q := 2) dX9_tick_306 rfl ?_
        refine j_get X 0 0 hiX9 k_665 dX9_tick_307 rfl rfl (by decide) rfl ?_
        refine j_iconst X (v := 1) dX9_tick_310 (by decide) ?_
        refine j_dup2_11 X dX9_tick_311 rfl rfl ?_
        refine j_iald X (k := 1) 3 0 rfl dX9_tick_312 rfl rfl (by decide) ?_
        refine j_iload X (q := 4) dX9_tick_313 rfl ?_
        refine j_if_eq X (tgt := 323) dX9_tick_315 (by decide) (fun cv34 => ?_) (fun cv34 => ?_)
        · replace hR := (if_pos cv34).symm.trans hR
          refine j_iload X (q := 0) dX9_tick_323 rfl ?_
          refine j_ineg X dX9_tick_325 ?_
          refine j_sub (lv2 := [(0, .ref r_), (1, .long x1)]) [2, 3] rfl ?_
          exact L_326 _ _ _ _ _ _ _ _ hR
        · replace hR := (if_neg cv34).symm.trans hR
          refine j_iload X (q := 0) dX9_tick_318 rfl ?_
          refine j_goto X (tgt := 326) dX9_tick_320 (by decide) ?_
          refine j_sub (lv2 := [(0, .ref r_), (1, .long x1)]) [2, 3] rfl ?_
          exact L_326 _ _ _ _ _ _ _ _ hR
  have L_214 : ∀ (x1 : Int64) (x4 : Int32) (y0 : Int32) (be : Int32) (f_A : Nat → Int64) (f_b : Nat → Int32) (f_n : Nat → Int32), fX9_tick_214 im bg tx ta fa cl  x1 x4 y0 be f_A f_b f_n = some out → jW p l e rmX9_tick s m ([.ref r_] : List Value).toArray below meth c D A 9 (MQ below (jQ D (none) [cMod r_ r_n r_o r_h r_A r_O r_H r_b r_x r_c r_m r_s r_z r_i r_v im out.1 bg tx ta fa cl, cJar cJ r_A 4 out.2.1, cIar cI r_b 400 out.2.2.1, cIar cI r_n 69 out.2.2.2] A) ([.ref r_] : List Value).toArray s 0 0 A) 0 0 214 [(0, .ref r_), (1, .long x1), (4, .int x4)] [.int y0] [cMod r_ r_n r_o r_h r_A r_O r_H r_b r_x r_c r_m r_s r_z r_i r_v im be bg tx ta fa cl, cJar cJ r_A 4 f_A, cIar cI r_b 400 f_b, cIar cI r_n 69 f_n] := by
    intro  x1 x4 y0 be f_A f_b f_n hR
    unfold fX9_tick_214 at hR
    refine j_istore X (lv2 := [(5, .int y0), (0, .ref r_), (1, .long x1), (4, .int x4)]) dX9_tick_214 (by decide) rfl ?_
    refine j_aload_n X (q := 1) dX9_tick_216 rfl ?_
    refine j_get X 0 0 hiX9 k_665 dX9_tick_217 rfl rfl (by decide) rfl ?_
    refine j_iconst X (v := 4) dX9_tick_220 (by decide) ?_
    refine j_iald X (k := 4) 3 0 rfl dX9_tick_221 rfl rfl (by decide) ?_
    obtain ⟨x6v25, ex6v25, hR⟩ := lt_some hR
    refine j_eq (congrArg (fun z => Value.int z :: _) ex6v25) rfl ?_
    refine j_istore X (lv2 := [(6, .int x6v25), (5, .int y0), (0, .ref r_), (1, .long x1), (4, .int x4)]) dX9_tick_222 (by decide) rfl ?_
    refine j_iload X (q := 1) dX9_tick_224 rfl ?_
    refine j_if_eq X (tgt := 255) dX9_tick_226 (by decide) (fun cv26 => ?_) (fun cv26 => ?_)
    · replace hR := (if_pos cv26).symm.trans hR
      refine j_iload X (q := 4) dX9_tick_255 rfl ?_
      refine j_iload X (q := 0) dX9_tick_257 rfl ?_
      refine j_icmp_lt X (tgt := 277) dX9_tick_259 (by decide) (fun cv27 => ?_) (fun cv27 => ?_)
      · replace hR := (if_pos cv27).symm.trans hR
        refine j_iconst X (v := 0) dX9_tick_277 (by decide) ?_
        refine j_sub (lv2 := [(0, .ref r_), (1, .long x1), (5, .int y0)]) [2, 3, 1] rfl ?_
        exact L_278 _ _ _ _ _ _ _ hR
      · replace hR := (if_neg cv27).symm.trans hR
        refine j_aload_n X (q := 2) dX9_tick_262 rfl ?_
        refine j_get X 0 0 hiX9 k_665 dX9_tick_263 rfl rfl (by decide) rfl ?_
        refine j_iconst X (v := 0) dX9_tick_266 (by decide) ?_
        refine j_iald X (k := 0) 3 0 rfl dX9_tick_267 rfl rfl (by decide) ?_
        refine j_iload X (q := 0) dX9_tick_268 rfl ?_
        refine j_icmp_ge X (tgt := 277) dX9_tick_270 (by decide) (fun cv28 => ?_) (fun cv28 => ?_)
        · replace hR := (if_pos cv28).symm.trans hR
          refine j_iconst X (v := 0) dX9_tick_277 (by decide) ?_
          refine j_sub (lv2 := [(0, .ref r_), (1, .long x1), (5, .int y0)]) [2, 3, 1] rfl ?_
          exact L_278 _ _ _ _ _ _ _ hR
        · replace hR := (if_neg cv28).symm.trans hR
          refine j_iconst X (v := 1) dX9_tick_273 (by decide) ?_
          refine j_goto X (tgt := 278) dX9_tick_274 (by decide) ?_
          refine j_sub (lv2 := [(0, .ref r_), (1, .long x1), (5, .int y0)]) [2, 3, 1] rfl ?_
          exact L_278 _ _ _ _ _ _ _ hR
    · replace hR := (if_neg cv26).symm.trans hR
      refine j_iload X (q := 4) dX9_tick_229 rfl ?_
      refine j_iload X (q := 0) dX9_tick_231 rfl ?_
      refine j_icmp_gt X (tgt := 251) dX9_tick_233 (by decide) (fun cv29 => ?_) (fun cv29 => ?_)
      · replace hR := (if_pos cv29).symm.trans hR
        refine j_iconst X (v := 0) dX9_tick_251 (by decide) ?_
        refine j_goto X (tgt := 278) dX9_tick_252 (by decide) ?_
        refine j_sub (lv2 := [(0, .ref r_), (1, .long x1), (5, .int y0)]) [2, 3, 1] rfl ?_
        exact L_278 _ _ _ _ _ _ _ hR
      · replace hR := (if_neg cv29).symm.trans hR
        refine j_aload_n X (q := 2) dX9_tick_236 rfl ?_
        refine j_get X 0 0 hiX9 k_665 dX9_tick_237 rfl rfl (by decide) rfl ?_
        refine j_iconst X (v := 0) dX9_tick_240 (by decide) ?_
        refine j_iald X (k := 0) 3 0 rfl dX9_tick_241 rfl rfl (by decide) ?_
        refine j_iload X (q := 0) dX9_tick_242 rfl ?_
        refine j_icmp_le X (tgt := 251) dX9_tick_244 (by decide) (fun cv30 => ?_) (fun cv30 => ?_)
        · replace hR := (if_pos cv30).symm.trans hR
          refine j_iconst X (v := 0) dX9_tick_251 (by decide) ?_
          refine j_goto X (tgt := 278) dX9_tick_252 (by decide) ?_
          refine j_sub (lv2 := [(0, .ref r_), (1, .long x1), (5, .int y0)]) [2, 3, 1] rfl ?_
          exact L_278 _ _ _ _ _ _ _ hR
        · replace hR := (if_neg cv30).symm.trans hR
          refine j_iconst X (v := 1) dX9_tick_247 (by decide) ?_
          refine j_goto X (tgt := 278) dX9_tick_248 (by decide) ?_
          refine j_sub (lv2 := [(0, .ref r_), (1, .long x1), (5, .int y0)]) [2, 3, 1] rfl ?_
          exact L_278 _ _ _ _ _ _ _ hR
  have L_192 : ∀ (x1 : Int64) (x4 : Int32) (be : Int32) (f_A : Nat → Int64) (f_b : Nat → Int32) (f_n : Nat → Int32), fX9_tick_192 im bg tx ta fa cl  x1 x4 be f_A f_b f_n = some out → jW p l e rmX9_tick s m ([.ref r_] : List Value).toArray below meth c D A 9 (MQ below (jQ D (none) [cMod r_ r_n r_o r_h r_A r_O r_H r_b r_x r_c r_m r_s r_z r_i r_v im out.1 bg tx ta fa cl, cJar cJ r_A 4 out.2.1, cIar cI r_b 400 out.2.2.1, cIar cI r_n 69 out.2.2.2] A) ([.ref r_] : List Value).toArray s 0 0 A) 0 0 192 [(0, .ref r_), (1, .long x1), (4, .int x4)] [] [cMod r_ r_n r_o r_h r_A r_O r_H r_b r_x r_c r_m r_s r_z r_i r_v im be bg tx ta fa cl, cJar cJ r_A 4 f_A, cIar cI r_b 400 f_b, cIar cI r_n 69 f_n] := by
    intro  x1 x4 be f_A f_b f_n hR
    unfold fX9_tick_192 at hR
    refine j_aload_n X (q := 0) dX9_tick_192 rfl ?_
    refine j_iconst X (v := 1) dX9_tick_193 (by decide) ?_
    refine j_lload_n X (q := 1) dX9_tick_194 rfl ?_
    obtain ⟨ov19, hov19, hR⟩ := bd_some hR
    refine j_callV X (As := [.int 1, .long x1]) (rest := []) (ws2 := [cMod r_ r_n r_o r_h r_A r_O r_H r_b r_x r_c r_m r_s r_z r_i r_v im be bg tx ta fa cl, cJar cJ r_A 4 ov19.2, cIar cI r_b 400 f_b, cIar cI r_n 69 f_n]) (q0 := 0) (ci := 9) (mX9_accounts l D cI cJ cB cT tt r_ r_n r_o r_h r_A r_O r_H r_b r_x r_c r_m r_s r_z r_i r_v hov19) [0, 1, 3] [.inr 0, .inr 1, .inl 2, .inr 2] k_778 k_775 k_777 k_24 rfl rfl k_47 hdX9_accounts (by decide) (Nat.le_of_ble_eq_true rfl) dX9_tick_195 (by decide) rfl rfl (by decide) rfl rfl ?_
    refine j_lstore_n X (lv2 := [(1, .long ov19.1), (0, .ref r_), (4, .int x4)]) dX9_tick_198 (by decide) rfl ?_
    refine j_aload_n X (q := 1) dX9_tick_199 rfl ?_
    refine j_get X 0 0 hiX9 k_665 dX9_tick_200 rfl rfl (by decide) rfl ?_
    refine j_bipush X (v := 7) dX9_tick_203 (by decide) ?_
    refine j_iald X (k := 7) 3 0 rfl dX9_tick_205 rfl rfl (by decide) ?_
    refine j_if_ne X (tgt := 213) dX9_tick_206 (by decide) (fun cv20 => ?_) (fun cv20 => ?_)
    · replace hR := (if_neg cv20).symm.trans hR
      refine j_iconst X (v := 0) dX9_tick_213 (by decide) ?_
      refine j_sub (lv2 := [(0, .ref r_), (1, .long ov19.1), (4, .int x4)]) [1, 0, 2] rfl ?_
      exact L_214 _ _ _ _ _ _ _ hR
    · replace hR := (if_pos cv20).symm.trans hR
      refine j_iconst X (v := 1) dX9_tick_209 (by decide) ?_
      refine j_goto X (tgt := 214) dX9_tick_210 (by decide) ?_
      refine j_sub (lv2 := [(0, .ref r_), (1, .long ov19.1), (4, .int x4)]) [1, 0, 2] rfl ?_
      exact L_214 _ _ _ _ _ _ _ hR
  have L_173 : ∀ (x1 : Int64) (x4 : Int32) (y0 : Int32) (y1 : Int32) (be : Int32) (f_A : Nat → Int64) (f_b : Nat → Int32) (f_n : Nat → Int32), fX9_tick_173 im bg tx ta fa cl  x1 x4 y0 y1 be f_A f_b f_n = some out → jW p l e rmX9_tick s m ([.ref r_] : List Value).toArray below meth c D A 9 (MQ below (jQ D (none) [cMod r_ r_n r_o r_h r_A r_O r_H r_b r_x r_c r_m r_s r_z r_i r_v im out.1 bg tx ta fa cl, cJar cJ r_A 4 out.2.1, cIar cI r_b 400 out.2.2.1, cIar cI r_n 69 out.2.2.2] A) ([.ref r_] : List Value).toArray s 0 0 A) 0 0 173 [(0, .ref r_), (1, .long x1), (4, .int x4)] [.int y0, .int y1, .ref r_n] [cMod r_ r_n r_o r_h r_A r_O r_H r_b r_x r_c r_m r_s r_z r_i r_v im be bg tx ta fa cl, cJar cJ r_A 4 f_A, cIar cI r_b 400 f_b, cIar cI r_n 69 f_n] := by
    intro  x1 x4 y0 y1 be f_A f_b f_n hR
    unfold fX9_tick_173 at hR
    obtain ⟨gv21, hR⟩ := gd_some hR
    obtain ⟨f_nv22, ef_nv22, hR⟩ := lt_some hR
    refine j_iast X (ws2 := [cMod r_ r_n r_o r_h r_A r_O r_H r_b r_x r_c r_m r_s r_z r_i r_v im be bg tx ta fa cl, cJar cJ r_A 4 f_A, cIar cI r_b 400 f_b, cIar cI r_n 69 f_nv22]) 3 0 rfl dX9_tick_173 rfl rfl gv21 ef_nv22 rfl ?_
    refine j_aload_n X (q := 0) dX9_tick_174 rfl ?_
    refine j_get X 0 0 hiX9 k_665 dX9_tick_175 rfl rfl (by decide) rfl ?_
    refine j_iconst X (v := 1) dX9_tick_178 (by decide) ?_
    refine j_iconst X (v := 0) dX9_tick_179 (by decide) ?_
    obtain ⟨f_nv23, ef_nv23, hR⟩ := lt_some hR
    refine j_iast X (k := 1) (ws2 := [cMod r_ r_n r_o r_h r_A r_O r_H r_b r_x r_c r_m r_s r_z r_i r_v im be bg tx ta fa cl, cJar cJ r_A 4 f_A, cIar cI r_b 400 f_b, cIar cI r_n 69 f_nv23]) 3 0 rfl dX9_tick_180 rfl rfl (by decide) ef_nv23 rfl ?_
    refine j_aload_n X (q := 0) dX9_tick_181 rfl ?_
    refine j_get X 0 0 hiX9 k_665 dX9_tick_182 rfl rfl (by decide) rfl ?_
    refine j_bipush X (v := 10) dX9_tick_185 (by decide) ?_
    refine j_dup2_11 X dX9_tick_187 rfl rfl ?_
    refine j_iald X (k := 10) 3 0 rfl dX9_tick_188 rfl rfl (by decide) ?_
    refine j_iconst X (v := 1) dX9_tick_189 (by decide) ?_
    refine j_iadd X dX9_tick_190 ?_
    obtain ⟨f_nv24, ef_nv24, hR⟩ := lt_some hR
    refine j_iast X (k := 10) (ws2 := [cMod r_ r_n r_o r_h r_A r_O r_H r_b r_x r_c r_m r_s r_z r_i r_v im be bg tx ta fa cl, cJar cJ r_A 4 f_A, cIar cI r_b 400 f_b, cIar cI r_n 69 f_nv24]) 3 0 rfl dX9_tick_191 rfl rfl (by decide) ef_nv24 rfl ?_
    exact L_192 _ _ _ _ _ _ hR
  have L_101 : ∀ (x1 : Int64) (y0 : Int32) (y1 : Int32) (be : Int32) (f_A : Nat → Int64) (f_b : Nat → Int32) (f_n : Nat → Int32), fX9_tick_101 im bg tx ta fa cl  x1 y0 y1 be f_A f_b f_n = some out → jW p l e rmX9_tick s m ([.ref r_] : List Value).toArray below meth c D A 9 (MQ below (jQ D (none) [cMod r_ r_n r_o r_h r_A r_O r_H r_b r_x r_c r_m r_s r_z r_i r_v im out.1 bg tx ta fa cl, cJar cJ r_A 4 out.2.1, cIar cI r_b 400 out.2.2.1, cIar cI r_n 69 out.2.2.2] A) ([.ref r_] : List Value).toArray s 0 0 A) 0 0 101 [(0, .ref r_), (1, .long x1)] [.int y0, .int y1, .ref r_n] [cMod r_ r_n r_o r_h r_A r_O r_H r_b r_x r_c r_m r_s r_z r_i r_v im be bg tx ta fa cl, cJar cJ r_A 4 f_A, cIar cI r_b 400 f_b, cIar cI r_n 69 f_n] := by
    intro  x1 y0 y1 be f_A f_b f_n hR
    unfold fX9_tick_101 at hR
    obtain ⟨gv11, hR⟩ := gd_some hR
    obtain ⟨f_nv12, ef_nv12, hR⟩ := lt_some hR
    refine j_iast X (ws2 := [cMod r_ r_n r_o r_h r_A r_O r_H r_b r_x r_c r_m r_s r_z r_i r_v im be bg tx ta fa cl, cJar cJ r_A 4 f_A, cIar cI r_b 400 f_b, cIar cI r_n 69 f_nv12]) 3 0 rfl dX9_tick_101 rfl rfl gv11 ef_nv12 rfl ?_
    refine j_aload_n X (q := 0) dX9_tick_102 rfl ?_
    refine j_iconst X (v := 2) dX9_tick_103 (by decide) ?_
    refine j_lload_n X (q := 1) dX9_tick_104 rfl ?_
    obtain ⟨ov13, hov13, hR⟩ := bd_some hR
    refine j_callV X (As := [.int 2, .long x1]) (rest := []) (ws2 := [cMod r_ r_n r_o r_h r_A r_O r_H r_b r_x r_c r_m r_s r_z r_i r_v im be bg tx ta fa cl, cJar cJ r_A 4 ov13.2, cIar cI r_b 400 f_b, cIar cI r_n 69 f_nv12]) (q0 := 0) (ci := 9) (mX9_accounts l D cI cJ cB cT tt r_ r_n r_o r_h r_A r_O r_H r_b r_x r_c r_m r_s r_z r_i r_v hov13) [0, 1, 3] [.inr 0, .inr 1, .inl 2, .inr 2] k_778 k_775 k_777 k_24 rfl rfl k_47 hdX9_accounts (by decide) (Nat.le_of_ble_eq_true rfl) dX9_tick_105 (by decide) rfl rfl (by decide) rfl rfl ?_
    refine j_lstore_n X (lv2 := [(1, .long ov13.1), (0, .ref r_)]) dX9_tick_108 (by decide) rfl ?_
    refine j_aload_n X (q := 1) dX9_tick_109 rfl ?_
    refine j_get X 0 0 hiX9 k_665 dX9_tick_110 rfl rfl (by decide) rfl ?_
    refine j_iconst X (v := 0) dX9_tick_113 (by decide) ?_
    refine j_iald X (k := 0) 3 0 rfl dX9_tick_114 rfl rfl (by decide) ?_
    obtain ⟨x4v14, ex4v14, hR⟩ := lt_some hR
    refine j_eq (congrArg (fun z => Value.int z :: _) ex4v14) rfl ?_
    refine j_istore X (lv2 := [(4, .int x4v14), (1, .long ov13.1), (0, .ref r_)]) dX9_tick_115 (by decide) rfl ?_
    refine j_aload_n X (q := 2) dX9_tick_117 rfl ?_
    refine j_get X 0 0 hiX9 k_665 dX9_tick_118 rfl rfl (by decide) rfl ?_
    refine j_iconst X (v := 0) dX9_tick_121 (by decide) ?_
    refine j_dup2_11 X dX9_tick_122 rfl rfl ?_
    refine j_iald X (k := 0) 3 0 rfl dX9_tick_123 rfl rfl (by decide) ?_
    refine j_aload_n X (q := 2) dX9_tick_124 rfl ?_
    refine j_get X 0 0 hiX9 k_665 dX9_tick_125 rfl rfl (by decide) rfl ?_
    refine j_iconst X (v := 1) dX9_tick_128 (by decide) ?_
    refine j_iald X (k := 1) 3 0 rfl dX9_tick_129 rfl rfl (by decide) ?_
    refine j_iadd X dX9_tick_130 ?_
    obtain ⟨f_nv15, ef_nv15, hR⟩ := lt_some hR
    refine j_iast X (k := 0) (ws2 := [cMod r_ r_n r_o r_h r_A r_O r_H r_b r_x r_c r_m r_s r_z r_i r_v im be bg tx ta fa cl, cJar cJ r_A 4 ov13.2, cIar cI r_b 400 f_b, cIar cI r_n 69 f_nv15]) 3 0 rfl dX9_tick_131 rfl rfl (by decide) ef_nv15 rfl ?_
    refine j_aload_n X (q := 2) dX9_tick_132 rfl ?_
    refine j_get X 0 0 hiX9 k_665 dX9_tick_133 rfl rfl (by decide) rfl ?_
    refine j_iconst X (v := 0) dX9_tick_136 (by decide) ?_
    refine j_iald X (k := 0) 3 0 rfl dX9_tick_137 rfl rfl (by decide) ?_
    refine j_sipush X (v := (-300)) dX9_tick_138 (by decide) ?_
    refine j_sipush X (v := 300) dX9_tick_141 (by decide) ?_
    obtain ⟨ov16, hov16, hR⟩ := bd_some hR
    refine j_callS X (As := [.int (f_nv15 0), .int (-300), .int 300]) (rest := []) (ws2 := [cMod r_ r_n r_o r_h r_A r_O r_H r_b r_x r_c r_m r_s r_z r_i r_v im be bg tx ta fa cl, cJar cJ r_A 4 ov13.2, cIar cI r_b 400 f_b, cIar cI r_n 69 f_nv15]) (mX9_within l D cI cJ cB cT tt  hov16) [] [.inl 0, .inl 1, .inl 2, .inl 3] k_735 k_733 k_734 k_47 hdX9_within (by decide) (Nat.le_of_ble_eq_true rfl) dX9_tick_144 (by decide) rfl rfl (by decide) rfl rfl ?_
    refine j_if_ne X (tgt := 192) dX9_tick_147 (by decide) (fun cv17 => ?_) (fun cv17 => ?_)
    · replace hR := (if_neg cv17).symm.trans hR
      refine j_sub (lv2 := [(0, .ref r_), (1, .long ov13.1), (4, .int x4v14)]) [2, 1, 0] rfl ?_
      exact L_192 _ _ _ _ _ _ hR
    · replace hR := (if_pos cv17).symm.trans hR
      refine j_aload_n X (q := 2) dX9_tick_150 rfl ?_
      refine j_get X 0 0 hiX9 k_665 dX9_tick_151 rfl rfl (by decide) rfl ?_
      refine j_iconst X (v := 0) dX9_tick_154 (by decide) ?_
      refine j_aload_n X (q := 2) dX9_tick_155 rfl ?_
      refine j_get X 0 0 hiX9 k_665 dX9_tick_156 rfl rfl (by decide) rfl ?_
      refine j_iconst X (v := 0) dX9_tick_159 (by decide) ?_
      refine j_iald X (k := 0) 3 0 rfl dX9_tick_160 rfl rfl (by decide) ?_
      refine j_if_le X (tgt := 170) dX9_tick_161 (by decide) (fun cv18 => ?_) (fun cv18 => ?_)
      · replace hR := (if_pos cv18).symm.trans hR
        refine j_sipush X (v := (-300)) dX9_tick_170 (by decide) ?_
        refine j_sub (lv2 := [(0, .ref r_), (1, .long ov13.1), (4, .int x4v14)]) [2, 1, 0] rfl ?_
        exact L_173 _ _ _ _ _ _ _ _ hR
      · replace hR := (if_neg cv18).symm.trans hR
        refine j_sipush X (v := 300) dX9_tick_164 (by decide) ?_
        refine j_goto X (tgt := 173) dX9_tick_167 (by decide) ?_
        refine j_sub (lv2 := [(0, .ref r_), (1, .long ov13.1), (4, .int x4v14)]) [2, 1, 0] rfl ?_
        exact L_173 _ _ _ _ _ _ _ _ hR
  have L_19 : ∀ (x1 : Int64) (be : Int32) (f_A : Nat → Int64) (f_b : Nat → Int32) (f_n : Nat → Int32), fX9_tick_19 im bg tx ta fa cl  x1 be f_A f_b f_n = some out → jW p l e rmX9_tick s m ([.ref r_] : List Value).toArray below meth c D A 9 (MQ below (jQ D (none) [cMod r_ r_n r_o r_h r_A r_O r_H r_b r_x r_c r_m r_s r_z r_i r_v im out.1 bg tx ta fa cl, cJar cJ r_A 4 out.2.1, cIar cI r_b 400 out.2.2.1, cIar cI r_n 69 out.2.2.2] A) ([.ref r_] : List Value).toArray s 0 0 A) 0 0 19 [(0, .ref r_), (1, .long x1)] [] [cMod r_ r_n r_o r_h r_A r_O r_H r_b r_x r_c r_m r_s r_z r_i r_v im be bg tx ta fa cl, cJar cJ r_A 4 f_A, cIar cI r_b 400 f_b, cIar cI r_n 69 f_n] := by
    intro  x1 be f_A f_b f_n hR
    unfold fX9_tick_19 at hR
    refine j_aload_n X (q := 0) dX9_tick_19 rfl ?_
    refine j_iconst X (v := 0) dX9_tick_20 (by decide) ?_
    refine j_lload_n X (q := 1) dX9_tick_21 rfl ?_
    obtain ⟨ov4, hov4, hR⟩ := bd_some hR
    refine j_callV X (As := [.int 0, .long x1]) (rest := []) (ws2 := [cMod r_ r_n r_o r_h r_A r_O r_H r_b r_x r_c r_m r_s r_z r_i r_v im be bg tx ta fa cl, cJar cJ r_A 4 ov4.2, cIar cI r_b 400 f_b, cIar cI r_n 69 f_n]) (q0 := 0) (ci := 9) (mX9_accounts l D cI cJ cB cT tt r_ r_n r_o r_h r_A r_O r_H r_b r_x r_c r_m r_s r_z r_i r_v hov4) [0, 1, 3] [.inr 0, .inr 1, .inl 2, .inr 2] k_778 k_775 k_777 k_24 rfl rfl k_47 hdX9_accounts (by decide) (Nat.le_of_ble_eq_true rfl) dX9_tick_22 (by decide) rfl rfl (by decide) rfl rfl ?_
    refine j_lstore_n X (lv2 := [(1, .long ov4.1), (0, .ref r_)]) dX9_tick_25 (by decide) rfl ?_
    refine j_aload_n X (q := 1) dX9_tick_26 rfl ?_
    refine j_get X 0 0 hiX9 k_665 dX9_tick_27 rfl rfl (by decide) rfl ?_
    refine j_iconst X (v := 1) dX9_tick_30 (by decide) ?_
    refine j_dup2_11 X dX9_tick_31 rfl rfl ?_
    refine j_iald X (k := 1) 3 0 rfl dX9_tick_32 rfl rfl (by decide) ?_
    refine j_aload_n X (q := 1) dX9_tick_33 rfl ?_
    refine j_get X 0 0 hiX9 k_665 dX9_tick_34 rfl rfl (by decide) rfl ?_
    refine j_iconst X (v := 0) dX9_tick_37 (by decide) ?_
    refine j_iald X (k := 0) 3 0 rfl dX9_tick_38 rfl rfl (by decide) ?_
    refine j_aload_n X (q := 1) dX9_tick_39 rfl ?_
    refine j_get X 0 0 hiX9 k_665 dX9_tick_40 rfl rfl (by decide) rfl ?_
    refine j_iconst X (v := 2) dX9_tick_43 (by decide) ?_
    refine j_iald X (k := 2) 3 0 rfl dX9_tick_44 rfl rfl (by decide) ?_
    refine j_imul X dX9_tick_45 ?_
    refine j_bipush X (v := 32) dX9_tick_46 (by decide) ?_
    refine j_idiv X dX9_tick_48 (by decide) ?_
    refine j_isub X dX9_tick_49 ?_
    obtain ⟨f_nv5, ef_nv5, hR⟩ := lt_some hR
    refine j_iast X (k := 1) (ws2 := [cMod r_ r_n r_o r_h r_A r_O r_H r_b r_x r_c r_m r_s r_z r_i r_v im be bg tx ta fa cl, cJar cJ r_A 4 ov4.2, cIar cI r_b 400 f_b, cIar cI r_n 69 f_nv5]) 3 0 rfl dX9_tick_50 rfl rfl (by decide) ef_nv5 rfl ?_
    refine j_aload_n X (q := 1) dX9_tick_51 rfl ?_
    refine j_iconst X (v := 1) dX9_tick_52 (by decide) ?_
    refine j_lload_n X (q := 0) dX9_tick_53 rfl ?_
    obtain ⟨ov6, hov6, hR⟩ := bd_some hR
    refine j_callV X (As := [.int 1, .long ov4.1]) (rest := []) (ws2 := [cMod r_ r_n r_o r_h r_A r_O r_H r_b r_x r_c r_m r_s r_z r_i r_v im be bg tx ta fa cl, cJar cJ r_A 4 ov6.2, cIar cI r_b 400 f_b, cIar cI r_n 69 f_nv5]) (q0 := 0) (ci := 9) (mX9_accounts l D cI cJ cB cT tt r_ r_n r_o r_h r_A r_O r_H r_b r_x r_c r_m r_s r_z r_i r_v hov6) [0, 1, 3] [.inr 0, .inr 1, .inl 2, .inr 2] k_778 k_775 k_777 k_24 rfl rfl k_47 hdX9_accounts (by decide) (Nat.le_of_ble_eq_true rfl) dX9_tick_54 (by decide) rfl rfl (by decide) rfl rfl ?_
    refine j_lstore_n X (lv2 := [(1, .long ov6.1), (0, .ref r_)]) dX9_tick_57 (by decide) rfl ?_
    refine j_aload_n X (q := 1) dX9_tick_58 rfl ?_
    refine j_get X 0 0 hiX9 k_665 dX9_tick_59 rfl rfl (by decide) rfl ?_
    refine j_iconst X (v := 1) dX9_tick_62 (by decide) ?_
    refine j_iald X (k := 1) 3 0 rfl dX9_tick_63 rfl rfl (by decide) ?_
    obtain ⟨x3v7, ex3v7, hR⟩ := lt_some hR
    refine j_eq (congrArg (fun z => Value.int z :: _) ex3v7) rfl ?_
    refine j_istore_n X (lv2 := [(3, .int x3v7), (1, .long ov6.1), (0, .ref r_)]) dX9_tick_64 (by decide) rfl ?_
    refine j_aload_n X (q := 2) dX9_tick_65 rfl ?_
    refine j_get X 0 0 hiX9 k_665 dX9_tick_66 rfl rfl (by decide) rfl ?_
    refine j_iconst X (v := 1) dX9_tick_69 (by decide) ?_
    refine j_iload_n X (q := 0) dX9_tick_70 rfl ?_
    refine j_if_le X (tgt := 89) dX9_tick_71 (by decide) (fun cv8 => ?_) (fun cv8 => ?_)
    · replace hR := (if_pos cv8).symm.trans hR
      refine j_iconst X (v := 0) dX9_tick_89 (by decide) ?_
      refine j_iload_n X (q := 0) dX9_tick_90 rfl ?_
      refine j_aload_n X (q := 2) dX9_tick_91 rfl ?_
      refine j_get X 0 0 hiX9 k_665 dX9_tick_92 rfl rfl (by decide) rfl ?_
      refine j_iconst X (v := 3) dX9_tick_95 (by decide) ?_
      refine j_iald X (k := 3) 3 0 rfl dX9_tick_96 rfl rfl (by decide) ?_
      refine j_iadd X dX9_tick_97 ?_
      obtain ⟨uv9, euv9, hR⟩ := lt_some hR
      refine j_eq (congrArg (fun z => Value.int z :: _) euv9) rfl ?_
      refine j_mmin X k_773 k_362 k_48 k_363 ⟨by decide, Nat.le_of_ble_eq_true rfl, Nat.zero_le _, Nat.zero_le _⟩ dX9_tick_98 ?_
      refine j_sub (lv2 := [(0, .ref r_), (1, .long ov6.1)]) [2, 1] rfl ?_
      exact L_101 _ _ _ _ _ _ _ hR
    · replace hR := (if_neg cv8).symm.trans hR
      refine j_iconst X (v := 0) dX9_tick_74 (by decide) ?_
      refine j_iload_n X (q := 0) dX9_tick_75 rfl ?_
      refine j_aload_n X (q := 2) dX9_tick_76 rfl ?_
      refine j_get X 0 0 hiX9 k_665 dX9_tick_77 rfl rfl (by decide) rfl ?_
      refine j_iconst X (v := 3) dX9_tick_80 (by decide) ?_
      refine j_iald X (k := 3) 3 0 rfl dX9_tick_81 rfl rfl (by decide) ?_
      refine j_isub X dX9_tick_82 ?_
      obtain ⟨uv10, euv10, hR⟩ := lt_some hR
      refine j_eq (congrArg (fun z => Value.int z :: _) euv10) rfl ?_
      refine j_mmax X k_774 k_365 k_48 k_366 ⟨by decide, Nat.le_of_ble_eq_true rfl, Nat.zero_le _, Nat.zero_le _⟩ dX9_tick_83 ?_
      refine j_goto X (tgt := 101) dX9_tick_86 (by decide) ?_
      refine j_sub (lv2 := [(0, .ref r_), (1, .long ov6.1)]) [2, 1] rfl ?_
      exact L_101 _ _ _ _ _ _ _ hR
  refine j_sub (lv2 := [(0, .ref r_)]) [0] rfl ?_
  have hR := h
  unfold fX9_tick at hR
  refine j_aload_n X (q := 0) dX9_tick_0 rfl ?_
  obtain ⟨ov1, hov1, hR⟩ := bd_some hR
  refine j_callV X (As := []) (rest := []) (ws2 := [cMod r_ r_n r_o r_h r_A r_O r_H r_b r_x r_c r_m r_s r_z r_i r_v im be bg tx ta fa cl, cJar cJ r_A 4 f_A, cIar cI r_b 400 f_b, cIar cI r_n 69 f_n]) (q0 := 0) (ci := 9) (mX9_energyNow l D cI cJ cB cT tt r_ r_n r_o r_h r_A r_O r_H r_b r_x r_c r_m r_s r_z r_i r_v hov1) [0, 3] [.inr 0, .inl 1, .inl 2, .inr 1] k_742 k_739 k_741 k_20 rfl rfl k_47 hdX9_energyNow (by decide) (Nat.le_of_ble_eq_true rfl) dX9_tick_1 (by decide) rfl rfl (by decide) rfl rfl ?_
  refine j_lstore_n X (lv2 := [(1, .long ov1), (0, .ref r_)]) dX9_tick_4 (by decide) rfl ?_
  refine j_aload_n X (q := 1) dX9_tick_5 rfl ?_
  refine j_get X 0 0 hiX9 k_665 dX9_tick_6 rfl rfl (by decide) rfl ?_
  refine j_bipush X (v := 11) dX9_tick_9 (by decide) ?_
  refine j_iald X (k := 11) 3 0 rfl dX9_tick_11 rfl rfl (by decide) ?_
  refine j_if_le X (tgt := 19) dX9_tick_12 (by decide) (fun cv2 => ?_) (fun cv2 => ?_)
  · replace hR := (if_pos cv2).symm.trans hR
    refine j_sub (lv2 := [(0, .ref r_), (1, .long ov1)]) [1, 0] rfl ?_
    exact L_19 _ _ _ _ _ hR
  · replace hR := (if_neg cv2).symm.trans hR
    refine j_aload_n X (q := 1) dX9_tick_15 rfl ?_
    obtain ⟨ov3, hov3, hR⟩ := bd_some hR
    refine j_callV X (As := []) (rest := []) (ws2 := [cMod r_ r_n r_o r_h r_A r_O r_H r_b r_x r_c r_m r_s r_z r_i r_v im be bg tx ta fa cl, cJar cJ r_A 4 f_A, cIar cI r_b 400 f_b, cIar cI r_n 69 ov3]) (q0 := 0) (ci := 9) (mX9_pushes l D cI cJ cB cT tt r_ r_n r_o r_h r_A r_O r_H r_b r_x r_c r_m r_s r_z r_i r_v hov3) [0, 3] [.inr 0, .inl 1, .inl 2, .inr 1] k_772 k_769 k_771 k_23 rfl rfl k_47 hdX9_pushes (by decide) (Nat.le_of_ble_eq_true rfl) dX9_tick_16 (by decide) rfl rfl (by decide) rfl rfl ?_
    refine j_sub (lv2 := [(0, .ref r_), (1, .long ov1)]) [1, 0] rfl ?_
    exact L_19 _ _ _ _ _ hR

def rmX9_goes : Room := { frames := 3, cells := 0, slots := 0, locals := 73 }
theorem hdX9_goes : yX9_goes.cls ≠ "java/lang/invoke/MethodHandle" ∧ yX9_goes.cls ≠ "java/lang/invoke/VarHandle" ∧ (parseMethodDescriptor yX9_goes.desc).map (fun d => d.parameters.length) = some 1 := by decide +kernel
def fX9_goes_18 (i1 : Int32) (im : Int32) (tx : Int32) (ta : Int32) (fa : Int32) (cl : Int32) : Nat → Int32 → Int32 → Int32 → (Nat → Int64) → (Nat → Int32) → (Nat → Int32) → Option (Int32 × Int32 × (Nat → Int64) × (Nat → Int32) × (Nat → Int32))
  | 0, _, _, _, _, _, _ => none
  | fu + 1, x2, be, bg, f_A, f_b, f_n =>
    if i1 ≤ x2 then (some (be, bg, f_A, f_b, f_n)) else ((fX9_tick im be bg tx ta fa cl f_A f_b f_n).bind fun ov3 =>
  lt' (x2 + 1) fun x2v4 =>
  fX9_goes_18 i1 im tx ta fa cl fu x2v4 ov3.1 bg ov3.2.1 ov3.2.2.1 ov3.2.2.2)
def fX9_goes (i1 : Int32) (im : Int32) (be : Int32) (bg : Int32) (tx : Int32) (ta : Int32) (fa : Int32) (cl : Int32) (f_A : Nat → Int64) (f_b : Nat → Int32) (f_n : Nat → Int32) : Option (Int32 × Int32 × (Nat → Int64) × (Nat → Int32) × (Nat → Int32)) :=
  lt' (f_n 8) fun bgv1 =>
  fX9_goes_18 i1 im tx ta fa cl 500 0 0 bgv1 f_A f_b f_n
set_option maxHeartbeats 8000000 in
set_option maxRecDepth 100000 in
theorem mX9_goes (l : Launch) (D : va_G) (cI cJ cB cT : ClassId) (tt : Nat → Nat) (r_ r_n r_o r_h r_A r_O r_H r_b r_x r_c r_m r_s r_z r_i r_v : Nat) {i1 : Int32} {im : Int32} {be : Int32} {bg : Int32} {tx : Int32} {ta : Int32} {fa : Int32} {cl : Int32} {f_A : Nat → Int64} {f_b : Nat → Int32} {f_n : Nat → Int32} {out : Int32 × Int32 × (Nat → Int64) × (Nat → Int32) × (Nat → Int32)} (h : fX9_goes i1 im be bg tx ta fa cl f_A f_b f_n = some out) :
    jM l yX9_goes (.code yX9_goes cX9_goes 3 none) rmX9_goes D (wTy cI cJ cB cT) tt [.ref r_, .int i1] [cMod r_ r_n r_o r_h r_A r_O r_H r_b r_x r_c r_m r_s r_z r_i r_v im be bg tx ta fa cl, cJar cJ r_A 4 f_A, cIar cI r_b 400 f_b, cIar cI r_n 69 f_n] (none) [cMod r_ r_n r_o r_h r_A r_O r_H r_b r_x r_c r_m r_s r_z r_i r_v im out.1 out.2.1 tx ta fa cl, cJar cJ r_A 4 out.2.2.1, cIar cI r_b 400 out.2.2.2.1, cIar cI r_n 69 out.2.2.2.2] := by
  refine jM.of (by decide) (Nat.le_of_ble_eq_true rfl) ?_
  intro p e s m below meth c A X hr
  have L_18 : ∀ (fuel : Nat) (x2 : Int32) (be : Int32) (bg : Int32) (f_A : Nat → Int64) (f_b : Nat → Int32) (f_n : Nat → Int32), fX9_goes_18 i1 im tx ta fa cl  fuel x2 be bg f_A f_b f_n = some out → jW p l e rmX9_goes s m ([.ref r_, .int i1] : List Value).toArray below meth c D A 3 (MQ below (jQ D (none) [cMod r_ r_n r_o r_h r_A r_O r_H r_b r_x r_c r_m r_s r_z r_i r_v im out.1 out.2.1 tx ta fa cl, cJar cJ r_A 4 out.2.2.1, cIar cI r_b 400 out.2.2.2.1, cIar cI r_n 69 out.2.2.2.2] A) ([.ref r_, .int i1] : List Value).toArray s 0 0 A) 0 0 18 [(0, .ref r_), (1, .int i1), (2, .int x2)] [] [cMod r_ r_n r_o r_h r_A r_O r_H r_b r_x r_c r_m r_s r_z r_i r_v im be bg tx ta fa cl, cJar cJ r_A 4 f_A, cIar cI r_b 400 f_b, cIar cI r_n 69 f_n] := by
    intro  fuel
    induction fuel with
    | zero =>
      intro x2 be bg f_A f_b f_n hR
      rw [fX9_goes_18] at hR
      cases hR
    | succ fu ih =>
      intro x2 be bg f_A f_b f_n hR
      rw [fX9_goes_18] at hR
      refine j_iload_n X (q := 2) dX9_goes_18 rfl ?_
      refine j_iload_n X (q := 1) dX9_goes_19 rfl ?_
      refine j_icmp_ge X (tgt := 33) dX9_goes_20 (by decide) (fun cv2 => ?_) (fun cv2 => ?_)
      · replace hR := (if_pos cv2).symm.trans hR
        have hR := Option.some.inj hR
        exact j_vret X hr dX9_goes_33 rfl (by rw [← hR])
      · replace hR := (if_neg cv2).symm.trans hR
        refine j_aload_n X (q := 0) dX9_goes_23 rfl ?_
        obtain ⟨ov3, hov3, hR⟩ := bd_some hR
        refine j_callV X (As := []) (rest := []) (ws2 := [cMod r_ r_n r_o r_h r_A r_O r_H r_b r_x r_c r_m r_s r_z r_i r_v im ov3.1 bg tx ta fa cl, cJar cJ r_A 4 ov3.2.1, cIar cI r_b 400 ov3.2.2.1, cIar cI r_n 69 ov3.2.2.2]) (q0 := 0) (ci := 9) (mX9_tick l D cI cJ cB cT tt r_ r_n r_o r_h r_A r_O r_H r_b r_x r_c r_m r_s r_z r_i r_v hov3) [0, 1, 2, 3] [.inr 0, .inr 1, .inr 2, .inr 3] k_768 k_765 k_767 k_22 rfl rfl k_47 hdX9_tick (by decide) (Nat.le_of_ble_eq_true rfl) dX9_goes_24 (by decide) rfl rfl (by decide) rfl rfl ?_
        obtain ⟨x2v4, ex2v4, hR⟩ := lt_some hR
        refine j_iinc X (k := 2) (v := x2v4) (lv2 := [(2, .int x2v4), (0, .ref r_), (1, .int i1)]) dX9_goes_27 rfl (by rw [← ex2v4]; rfl) (by decide) rfl ?_
        refine j_goto X (tgt := 18) dX9_goes_30 (by decide) ?_
        refine j_sub (lv2 := [(0, .ref r_), (1, .int i1), (2, .int x2v4)]) [1, 2, 0] rfl ?_
        exact ih _ _ _ _ _ _ hR
  refine j_sub (lv2 := [(0, .ref r_), (1, .int i1)]) [0, 1] rfl ?_
  have hR := h
  unfold fX9_goes at hR
  refine j_aload_n X (q := 0) dX9_goes_0 rfl ?_
  refine j_iconst X (v := 0) dX9_goes_1 (by decide) ?_
  refine j_put X (ws2 := [cMod r_ r_n r_o r_h r_A r_O r_H r_b r_x r_c r_m r_s r_z r_i r_v im 0 bg tx ta fa cl, cJar cJ r_A 4 f_A, cIar cI r_b 400 f_b, cIar cI r_n 69 f_n]) 0 7 hiX9 tyX9_ok nmX9 k_672 dX9_goes_2 rfl rfl (by decide) (by decide) rfl rfl (Nat.le_of_ble_eq_true rfl) rfl ?_
  refine j_aload_n X (q := 0) dX9_goes_5 rfl ?_
  refine j_aload_n X (q := 0) dX9_goes_6 rfl ?_
  refine j_get X 0 0 hiX9 k_665 dX9_goes_7 rfl rfl (by decide) rfl ?_
  refine j_bipush X (v := 8) dX9_goes_10 (by decide) ?_
  refine j_iald X (k := 8) 3 0 rfl dX9_goes_12 rfl rfl (by decide) ?_
  obtain ⟨bgv1, ebgv1, hR⟩ := lt_some hR
  refine j_put X (ws2 := [cMod r_ r_n r_o r_h r_A r_O r_H r_b r_x r_c r_m r_s r_z r_i r_v im 0 bgv1 tx ta fa cl, cJar cJ r_A 4 f_A, cIar cI r_b 400 f_b, cIar cI r_n 69 f_n]) 0 8 hiX9 tyX9_ok nmX9 k_673 dX9_goes_13 rfl rfl (by decide) (by decide) rfl rfl (Nat.le_of_ble_eq_true rfl) (by subst ebgv1; rfl) ?_
  refine j_iconst X (v := 0) dX9_goes_16 (by decide) ?_
  refine j_istore_n X (lv2 := [(2, .int 0), (0, .ref r_), (1, .int i1)]) dX9_goes_17 (by decide) rfl ?_
  refine j_sub (lv2 := [(0, .ref r_), (1, .int i1), (2, .int 0)]) [1, 2, 0] rfl ?_
  exact L_18 _ _ _ _ _ _ _ hR

def rmX9_go : Room := { frames := 4, cells := 0, slots := 0, locals := 95 }
theorem hdX9_go : yX9_go.cls ≠ "java/lang/invoke/MethodHandle" ∧ yX9_go.cls ≠ "java/lang/invoke/VarHandle" ∧ (parseMethodDescriptor yX9_go.desc).map (fun d => d.parameters.length) = some 1 := by decide +kernel
def fX9_go (i1 : Int32) (im : Int32) (be : Int32) (bg : Int32) (tx : Int32) (ta : Int32) (fa : Int32) (cl : Int32) (f_A : Nat → Int64) (f_b : Nat → Int32) (f_n : Nat → Int32) : Option (Int32 × Int32 × Int32 × (Nat → Int64) × (Nat → Int32) × (Nat → Int32)) :=
  (fX9_within i1 1 400).bind fun ov1 =>
  if ov1 = 0 then (some ((-2), be, bg, f_A, f_b, f_n)) else (if ((f_n 8) + i1) ≤ 99999 then ((fX9_goes i1 im be bg tx ta fa cl f_A f_b f_n).bind fun ov4 =>
  some (ov4.1, ov4.1, ov4.2.1, ov4.2.2.1, ov4.2.2.2.1, ov4.2.2.2.2)) else (some ((-4), be, bg, f_A, f_b, f_n)))
set_option maxHeartbeats 8000000 in
set_option maxRecDepth 100000 in
theorem mX9_go (l : Launch) (D : va_G) (cI cJ cB cT : ClassId) (tt : Nat → Nat) (r_ r_n r_o r_h r_A r_O r_H r_b r_x r_c r_m r_s r_z r_i r_v : Nat) {i1 : Int32} {im : Int32} {be : Int32} {bg : Int32} {tx : Int32} {ta : Int32} {fa : Int32} {cl : Int32} {f_A : Nat → Int64} {f_b : Nat → Int32} {f_n : Nat → Int32} {out : Int32 × Int32 × Int32 × (Nat → Int64) × (Nat → Int32) × (Nat → Int32)} (h : fX9_go i1 im be bg tx ta fa cl f_A f_b f_n = some out) :
    jM l yX9_go (.code yX9_go cX9_go 2 (some .int)) rmX9_go D (wTy cI cJ cB cT) tt [.ref r_, .int i1] [cMod r_ r_n r_o r_h r_A r_O r_H r_b r_x r_c r_m r_s r_z r_i r_v im be bg tx ta fa cl, cJar cJ r_A 4 f_A, cIar cI r_b 400 f_b, cIar cI r_n 69 f_n] (some (.int out.1)) [cMod r_ r_n r_o r_h r_A r_O r_H r_b r_x r_c r_m r_s r_z r_i r_v im out.2.1 out.2.2.1 tx ta fa cl, cJar cJ r_A 4 out.2.2.2.1, cIar cI r_b 400 out.2.2.2.2.1, cIar cI r_n 69 out.2.2.2.2.2] := by
  refine jM.of (by decide) (Nat.le_of_ble_eq_true rfl) ?_
  intro p e s m below meth c A X hr
  refine j_sub (lv2 := [(0, .ref r_), (1, .int i1)]) [0, 1] rfl ?_
  have hR := h
  unfold fX9_go at hR
  refine j_iload_n X (q := 1) dX9_go_0 rfl ?_
  refine j_iconst X (v := 1) dX9_go_1 (by decide) ?_
  refine j_sipush X (v := 400) dX9_go_2 (by decide) ?_
  obtain ⟨ov1, hov1, hR⟩ := bd_some hR
  refine j_callS X (As := [.int i1, .int 1, .int 400]) (rest := []) (ws2 := [cMod r_ r_n r_o r_h r_A r_O r_H r_b r_x r_c r_m r_s r_z r_i r_v im be bg tx ta fa cl, cJar cJ r_A 4 f_A, cIar cI r_b 400 f_b, cIar cI r_n 69 f_n]) (mX9_within l D cI cJ cB cT tt  hov1) [] [.inl 0, .inl 1, .inl 2, .inl 3] k_735 k_733 k_734 k_47 hdX9_within (by decide) (Nat.le_of_ble_eq_true rfl) dX9_go_5 (by decide) rfl rfl (by decide) rfl rfl ?_
  refine j_if_ne X (tgt := 14) dX9_go_8 (by decide) (fun cv2 => ?_) (fun cv2 => ?_)
  · replace hR := (if_neg cv2).symm.trans hR
    refine j_aload_n X (q := 0) dX9_go_14 rfl ?_
    refine j_get X 0 0 hiX9 k_665 dX9_go_15 rfl rfl (by decide) rfl ?_
    refine j_bipush X (v := 8) dX9_go_18 (by decide) ?_
    refine j_iald X (k := 8) 3 0 rfl dX9_go_20 rfl rfl (by decide) ?_
    refine j_iload_n X (q := 1) dX9_go_21 rfl ?_
    refine j_iadd X dX9_go_22 ?_
    refine j_ldc X k_752 dX9_go_23 ?_
    refine j_icmp_le X (tgt := 31) dX9_go_25 (by decide) (fun cv3 => ?_) (fun cv3 => ?_)
    · replace hR := (if_pos cv3).symm.trans hR
      refine j_aload_n X (q := 0) dX9_go_31 rfl ?_
      refine j_iload_n X (q := 1) dX9_go_32 rfl ?_
      obtain ⟨ov4, hov4, hR⟩ := bd_some hR
      refine j_callV X (As := [.int i1]) (rest := []) (ws2 := [cMod r_ r_n r_o r_h r_A r_O r_H r_b r_x r_c r_m r_s r_z r_i r_v im ov4.1 ov4.2.1 tx ta fa cl, cJar cJ r_A 4 ov4.2.2.1, cIar cI r_b 400 ov4.2.2.2.1, cIar cI r_n 69 ov4.2.2.2.2]) (q0 := 0) (ci := 9) (mX9_goes l D cI cJ cB cT tt r_ r_n r_o r_h r_A r_O r_H r_b r_x r_c r_m r_s r_z r_i r_v hov4) [0, 1, 2, 3] [.inr 0, .inr 1, .inr 2, .inr 3] k_764 k_761 k_763 k_21 rfl rfl k_47 hdX9_goes (by decide) (Nat.le_of_ble_eq_true rfl) dX9_go_33 (by decide) rfl rfl (by decide) rfl rfl ?_
      refine j_aload_n X (q := 0) dX9_go_36 rfl ?_
      refine j_get X 0 7 hiX9 k_672 dX9_go_37 rfl rfl (by decide) rfl ?_
      have hR := Option.some.inj hR
      exact j_iret X hr dX9_go_40 (by rw [← hR]) (by rw [← hR])
    · replace hR := (if_neg cv3).symm.trans hR
      refine j_bipush X (v := (-4)) dX9_go_28 (by decide) ?_
      have hR := Option.some.inj hR
      exact j_iret X hr dX9_go_30 (by rw [← hR]) (by rw [← hR])
  · replace hR := (if_pos cv2).symm.trans hR
    refine j_bipush X (v := (-2)) dX9_go_11 (by decide) ?_
    have hR := Option.some.inj hR
    exact j_iret X hr dX9_go_13 (by rw [← hR]) (by rw [← hR])

def rmX9_wheel : Room := { frames := 1, cells := 0, slots := 0, locals := 22 }
theorem hdX9_wheel : yX9_wheel.cls ≠ "java/lang/invoke/MethodHandle" ∧ yX9_wheel.cls ≠ "java/lang/invoke/VarHandle" ∧ (parseMethodDescriptor yX9_wheel.desc).map (fun d => d.parameters.length) = some 1 := by decide +kernel
def fX9_wheel (i1 : Int32) (im : Int32) (be : Int32) (bg : Int32) (tx : Int32) (ta : Int32) (fa : Int32) (cl : Int32) (f_n : Nat → Int32) : Option (Int32 × (Nat → Int32)) :=
  (fX9_within i1 2 99).bind fun ov1 =>
  if ov1 = 0 then (some ((-2), f_n)) else (if (f_n 12) = 4 then (some ((-4), f_n)) else (gd (inb ((39 : Int32) + (f_n 12)) 69) (lt' (upd f_n (((39 : Int32) + (f_n 12)).toNatClampNeg) i1) fun f_nv5 =>
  lt' (f_nv5 12) fun dv6 =>
  lt' (upd f_nv5 12 (dv6 + 1)) fun f_nv7 =>
  some (dv6, f_nv7))))
set_option maxHeartbeats 8000000 in
set_option maxRecDepth 100000 in
theorem mX9_wheel (l : Launch) (D : va_G) (cI cJ cB cT : ClassId) (tt : Nat → Nat) (r_ r_n r_o r_h r_A r_O r_H r_b r_x r_c r_m r_s r_z r_i r_v : Nat) {i1 : Int32} {im : Int32} {be : Int32} {bg : Int32} {tx : Int32} {ta : Int32} {fa : Int32} {cl : Int32} {f_n : Nat → Int32} {out : Int32 × (Nat → Int32)} (h : fX9_wheel i1 im be bg tx ta fa cl f_n = some out) :
    jM l yX9_wheel (.code yX9_wheel cX9_wheel 2 (some .int)) rmX9_wheel D (wTy cI cJ cB cT) tt [.ref r_, .int i1] [cMod r_ r_n r_o r_h r_A r_O r_H r_b r_x r_c r_m r_s r_z r_i r_v im be bg tx ta fa cl, cIar cI r_n 69 f_n] (some (.int out.1)) [cMod r_ r_n r_o r_h r_A r_O r_H r_b r_x r_c r_m r_s r_z r_i r_v im be bg tx ta fa cl, cIar cI r_n 69 out.2] := by
  refine jM.of (by decide) (Nat.le_of_ble_eq_true rfl) ?_
  intro p e s m below meth c A X hr
  refine j_sub (lv2 := [(0, .ref r_), (1, .int i1)]) [0, 1] rfl ?_
  have hR := h
  unfold fX9_wheel at hR
  refine j_iload_n X (q := 1) dX9_wheel_0 rfl ?_
  refine j_iconst X (v := 2) dX9_wheel_1 (by decide) ?_
  refine j_bipush X (v := 99) dX9_wheel_2 (by decide) ?_
  obtain ⟨ov1, hov1, hR⟩ := bd_some hR
  refine j_callS X (As := [.int i1, .int 2, .int 99]) (rest := []) (ws2 := [cMod r_ r_n r_o r_h r_A r_O r_H r_b r_x r_c r_m r_s r_z r_i r_v im be bg tx ta fa cl, cIar cI r_n 69 f_n]) (mX9_within l D cI cJ cB cT tt  hov1) [] [.inl 0, .inl 1] k_735 k_733 k_734 k_47 hdX9_within (by decide) (Nat.le_of_ble_eq_true rfl) dX9_wheel_4 (by decide) rfl rfl (by decide) rfl rfl ?_
  refine j_if_ne X (tgt := 13) dX9_wheel_7 (by decide) (fun cv2 => ?_) (fun cv2 => ?_)
  · replace hR := (if_neg cv2).symm.trans hR
    refine j_aload_n X (q := 0) dX9_wheel_13 rfl ?_
    refine j_get X 0 0 hiX9 k_665 dX9_wheel_14 rfl rfl (by decide) rfl ?_
    refine j_bipush X (v := 12) dX9_wheel_17 (by decide) ?_
    refine j_iald X (k := 12) 1 0 rfl dX9_wheel_19 rfl rfl (by decide) ?_
    refine j_iconst X (v := 4) dX9_wheel_20 (by decide) ?_
    refine j_icmp_ne X (tgt := 27) dX9_wheel_21 (by decide) (fun cv3 => ?_) (fun cv3 => ?_)
    · replace hR := (if_neg cv3).symm.trans hR
      refine j_aload_n X (q := 0) dX9_wheel_27 rfl ?_
      refine j_get X 0 0 hiX9 k_665 dX9_wheel_28 rfl rfl (by decide) rfl ?_
      refine j_bipush X (v := 39) dX9_wheel_31 (by decide) ?_
      refine j_aload_n X (q := 0) dX9_wheel_33 rfl ?_
      refine j_get X 0 0 hiX9 k_665 dX9_wheel_34 rfl rfl (by decide) rfl ?_
      refine j_bipush X (v := 12) dX9_wheel_37 (by decide) ?_
      refine j_iald X (k := 12) 1 0 rfl dX9_wheel_39 rfl rfl (by decide) ?_
      refine j_iadd X dX9_wheel_40 ?_
      refine j_iload_n X (q := 1) dX9_wheel_41 rfl ?_
      obtain ⟨gv4, hR⟩ := gd_some hR
      obtain ⟨f_nv5, ef_nv5, hR⟩ := lt_some hR
      refine j_iast X (ws2 := [cMod r_ r_n r_o r_h r_A r_O r_H r_b r_x r_c r_m r_s r_z r_i r_v im be bg tx ta fa cl, cIar cI r_n 69 f_nv5]) 1 0 rfl dX9_wheel_42 rfl rfl gv4 ef_nv5 rfl ?_
      refine j_aload_n X (q := 0) dX9_wheel_43 rfl ?_
      refine j_get X 0 0 hiX9 k_665 dX9_wheel_44 rfl rfl (by decide) rfl ?_
      refine j_bipush X (v := 12) dX9_wheel_47 (by decide) ?_
      refine j_dup2_11 X dX9_wheel_49 rfl rfl ?_
      refine j_iald X (k := 12) 1 0 rfl dX9_wheel_50 rfl rfl (by decide) ?_
      obtain ⟨dv6, edv6, hR⟩ := lt_some hR
      refine j_eq (congrArg (fun z => Value.int z :: _) edv6) rfl ?_
      refine j_dup_x2 X dX9_wheel_51 rfl rfl rfl ?_
      refine j_iconst X (v := 1) dX9_wheel_52 (by decide) ?_
      refine j_iadd X dX9_wheel_53 ?_
      obtain ⟨f_nv7, ef_nv7, hR⟩ := lt_some hR
      refine j_iast X (k := 12) (ws2 := [cMod r_ r_n r_o r_h r_A r_O r_H r_b r_x r_c r_m r_s r_z r_i r_v im be bg tx ta fa cl, cIar cI r_n 69 f_nv7]) 1 0 rfl dX9_wheel_54 rfl rfl (by decide) ef_nv7 rfl ?_
      have hR := Option.some.inj hR
      exact j_iret X hr dX9_wheel_55 (by rw [← hR]) (by rw [← hR])
    · replace hR := (if_pos cv3).symm.trans hR
      refine j_bipush X (v := (-4)) dX9_wheel_24 (by decide) ?_
      have hR := Option.some.inj hR
      exact j_iret X hr dX9_wheel_26 (by rw [← hR]) (by rw [← hR])
  · replace hR := (if_pos cv2).symm.trans hR
    refine j_bipush X (v := (-2)) dX9_wheel_10 (by decide) ?_
    have hR := Option.some.inj hR
    exact j_iret X hr dX9_wheel_12 (by rw [← hR]) (by rw [← hR])

def rmX9_lowest : Room := { frames := 0, cells := 0, slots := 0, locals := 0 }
theorem hdX9_lowest : yX9_lowest.cls ≠ "java/lang/invoke/MethodHandle" ∧ yX9_lowest.cls ≠ "java/lang/invoke/VarHandle" ∧ (parseMethodDescriptor yX9_lowest.desc).map (fun d => d.parameters.length) = some 3 := by decide +kernel
def fX9_lowest_6 (i0 : Int64) (i2 : Int64) (i4 : Int32) : Nat → Int64 → Int64 → Option (Int64)
  | 0, _, _ => none
  | fu + 1, x5, x7 =>
    if (lg_cmp x7 0) = 0 then (if i4 = 0 then (gd (!decide (x5 = 0)) (some (i0 / x5))) else (gd (!decide (x5 = 0)) (some (i2 / x5)))) else (gd (!decide (x7 = 0)) (lt' (x5 - x5 / x7 * x7) fun x9v6 =>
  fX9_lowest_6 i0 i2 i4 fu x7 x9v6))
def fX9_lowest (i0 : Int64) (i2 : Int64) (i4 : Int32) : Option (Int64) :=
  fX9_lowest_6 i0 i2 i4 500 i0 i2
set_option maxHeartbeats 8000000 in
set_option maxRecDepth 100000 in
theorem mX9_lowest (l : Launch) (D : va_G) (cI cJ cB cT : ClassId) (tt : Nat → Nat) {i0 : Int64} {i2 : Int64} {i4 : Int32}  {out : Int64} (h : fX9_lowest i0 i2 i4 = some out) :
    jM l yX9_lowest (.code yX9_lowest cX9_lowest 11 (some .long)) rmX9_lowest D (wTy cI cJ cB cT) tt [.long i0, .long i2, .int i4] [] (some (.long out)) [] := by
  refine jM.of (by decide) (Nat.le_of_ble_eq_true rfl) ?_
  intro p e s m below meth c A X hr
  have L_6 : ∀ (fuel : Nat) (x5 : Int64) (x7 : Int64), fX9_lowest_6 i0 i2 i4  fuel x5 x7 = some out → jW p l e rmX9_lowest s m ([.long i0, .long i2, .int i4] : List Value).toArray below meth c D A 11 (MQ below (jQ D (some (.long out)) [] A) ([.long i0, .long i2, .int i4] : List Value).toArray s 0 0 A) 0 0 6 [(0, .long i0), (2, .long i2), (4, .int i4), (5, .long x5), (7, .long x7)] [] [] := by
    intro  fuel
    induction fuel with
    | zero =>
      intro x5 x7 hR
      rw [fX9_lowest_6] at hR
      cases hR
    | succ fu ih =>
      intro x5 x7 hR
      rw [fX9_lowest_6] at hR
      refine j_lload X (q := 4) dX9_lowest_6 rfl ?_
      refine j_lconst X (v := 0) dX9_lowest_8 (by decide) ?_
      refine j_lcmp X dX9_lowest_9 ?_
      refine j_if_eq X (tgt := 31) dX9_lowest_10 (by decide) (fun cv1 => ?_) (fun cv1 => ?_)
      · replace hR := (if_pos cv1).symm.trans hR
        refine j_iload X (q := 2) dX9_lowest_31 rfl ?_
        refine j_if_ne X (tgt := 43) dX9_lowest_33 (by decide) (fun cv2 => ?_) (fun cv2 => ?_)
        · replace hR := (if_neg cv2).symm.trans hR
          refine j_lload_n X (q := 1) dX9_lowest_43 rfl ?_
          refine j_lload X (q := 3) dX9_lowest_44 rfl ?_
          obtain ⟨gv3, hR⟩ := gd_some hR
          refine j_ldiv X dX9_lowest_46 (by simpa using gv3) ?_
          have hR := Option.some.inj hR
          exact j_lret X hr dX9_lowest_47 (by rw [← hR]) rfl
        · replace hR := (if_pos cv2).symm.trans hR
          refine j_lload_n X (q := 0) dX9_lowest_36 rfl ?_
          refine j_lload X (q := 3) dX9_lowest_37 rfl ?_
          obtain ⟨gv4, hR⟩ := gd_some hR
          refine j_ldiv X dX9_lowest_39 (by simpa using gv4) ?_
          refine j_goto X (tgt := 47) dX9_lowest_40 (by decide) ?_
          have hR := Option.some.inj hR
          exact j_lret X hr dX9_lowest_47 (by rw [← hR]) rfl
      · replace hR := (if_neg cv1).symm.trans hR
        refine j_lload X (q := 3) dX9_lowest_13 rfl ?_
        refine j_lload X (q := 4) dX9_lowest_15 rfl ?_
        obtain ⟨gv5, hR⟩ := gd_some hR
        refine j_lrem X dX9_lowest_17 (by simpa using gv5) ?_
        obtain ⟨x9v6, ex9v6, hR⟩ := lt_some hR
        refine j_eq (congrArg (fun z => Value.long z :: _) ex9v6) rfl ?_
        refine j_lstore X (lv2 := [(9, .long x9v6), (0, .long i0), (2, .long i2), (4, .int i4), (5, .long x5), (7, .long x7)]) dX9_lowest_18 (by decide) rfl ?_
        refine j_lload X (q := 5) dX9_lowest_20 rfl ?_
        refine j_lstore X (lv2 := [(5, .long x7), (9, .long x9v6), (0, .long i0), (2, .long i2), (4, .int i4), (7, .long x7)]) dX9_lowest_22 (by decide) rfl ?_
        refine j_lload X (q := 1) dX9_lowest_24 rfl ?_
        refine j_lstore X (lv2 := [(7, .long x9v6), (5, .long x7), (9, .long x9v6), (0, .long i0), (2, .long i2), (4, .int i4)]) dX9_lowest_26 (by decide) rfl ?_
        refine j_goto X (tgt := 6) dX9_lowest_28 (by decide) ?_
        refine j_sub (lv2 := [(0, .long i0), (2, .long i2), (4, .int i4), (5, .long x7), (7, .long x9v6)]) [3, 4, 5, 1, 0] rfl ?_
        exact ih _ _ hR
  refine j_sub (lv2 := [(0, .long i0), (2, .long i2), (4, .int i4)]) [0, 1, 2] rfl ?_
  have hR := h
  unfold fX9_lowest at hR
  refine j_lload_n X (q := 0) dX9_lowest_0 rfl ?_
  refine j_lstore X (lv2 := [(5, .long i0), (0, .long i0), (2, .long i2), (4, .int i4)]) dX9_lowest_1 (by decide) rfl ?_
  refine j_lload_n X (q := 2) dX9_lowest_3 rfl ?_
  refine j_lstore X (lv2 := [(7, .long i2), (5, .long i0), (0, .long i0), (2, .long i2), (4, .int i4)]) dX9_lowest_4 (by decide) rfl ?_
  refine j_sub (lv2 := [(0, .long i0), (2, .long i2), (4, .int i4), (5, .long i0), (7, .long i2)]) [2, 3, 4, 1, 0] rfl ?_
  exact L_6 _ _ _ hR

def rmX9_turns : Room := { frames := 1, cells := 0, slots := 0, locals := 30 }
theorem hdX9_turns : yX9_turns.cls ≠ "java/lang/invoke/MethodHandle" ∧ yX9_turns.cls ≠ "java/lang/invoke/VarHandle" ∧ (parseMethodDescriptor yX9_turns.desc).map (fun d => d.parameters.length) = some 2 := by decide +kernel
def fX9_turns_37 (i1 : Int32) (i2 : Int32) (im : Int32) (be : Int32) (bg : Int32) (tx : Int32) (ta : Int32) (fa : Int32) (cl : Int32) (f_n : Nat → Int32) : Nat → Int64 → Int32 → Option (Int64)
  | 0, _, _ => none
  | fu + 1, x3, x5 =>
    if i1 < x5 then ((fX9_lowest ((f_n 9).toInt64) x3 i2).bind fun ov6 =>
  some ov6) else (gd (inb ((39 : Int32) + x5) 69) (lt' (x3 * ((f_n ((39 : Int32) + x5).toNatClampNeg).toInt64)) fun x3v8 =>
  lt' (x5 + 1) fun x5v9 =>
  fX9_turns_37 i1 i2 im be bg tx ta fa cl f_n fu x3v8 x5v9))
def fX9_turns (i1 : Int32) (i2 : Int32) (im : Int32) (be : Int32) (bg : Int32) (tx : Int32) (ta : Int32) (fa : Int32) (cl : Int32) (f_n : Nat → Int32) : Option (Int64) :=
  (fX9_within i1 0 ((f_n 12) - 1)).bind fun ov1 =>
  if ov1 = 0 then (some (-9223372036854775808)) else ((fX9_within i2 0 1).bind fun ov3 =>
  if ov3 = 0 then (some (-9223372036854775808)) else (fX9_turns_37 i1 i2 im be bg tx ta fa cl f_n 500 2 0))
set_option maxHeartbeats 8000000 in
set_option maxRecDepth 100000 in
theorem mX9_turns (l : Launch) (D : va_G) (cI cJ cB cT : ClassId) (tt : Nat → Nat) (r_ r_n r_o r_h r_A r_O r_H r_b r_x r_c r_m r_s r_z r_i r_v : Nat) {i1 : Int32} {i2 : Int32} {im : Int32} {be : Int32} {bg : Int32} {tx : Int32} {ta : Int32} {fa : Int32} {cl : Int32} {f_n : Nat → Int32} {out : Int64} (h : fX9_turns i1 i2 im be bg tx ta fa cl f_n = some out) :
    jM l yX9_turns (.code yX9_turns cX9_turns 6 (some .long)) rmX9_turns D (wTy cI cJ cB cT) tt [.ref r_, .int i1, .int i2] [cMod r_ r_n r_o r_h r_A r_O r_H r_b r_x r_c r_m r_s r_z r_i r_v im be bg tx ta fa cl, cIar cI r_n 69 f_n] (some (.long out)) [cMod r_ r_n r_o r_h r_A r_O r_H r_b r_x r_c r_m r_s r_z r_i r_v im be bg tx ta fa cl, cIar cI r_n 69 f_n] := by
  refine jM.of (by decide) (Nat.le_of_ble_eq_true rfl) ?_
  intro p e s m below meth c A X hr
  have L_37 : ∀ (fuel : Nat) (x3 : Int64) (x5 : Int32), fX9_turns_37 i1 i2 im be bg tx ta fa cl f_n  fuel x3 x5 = some out → jW p l e rmX9_turns s m ([.ref r_, .int i1, .int i2] : List Value).toArray below meth c D A 6 (MQ below (jQ D (some (.long out)) [cMod r_ r_n r_o r_h r_A r_O r_H r_b r_x r_c r_m r_s r_z r_i r_v im be bg tx ta fa cl, cIar cI r_n 69 f_n] A) ([.ref r_, .int i1, .int i2] : List Value).toArray s 0 0 A) 0 0 37 [(0, .ref r_), (1, .int i1), (2, .int i2), (3, .long x3), (5, .int x5)] [] [cMod r_ r_n r_o r_h r_A r_O r_H r_b r_x r_c r_m r_s r_z r_i r_v im be bg tx ta fa cl, cIar cI r_n 69 f_n] := by
    intro  fuel
    induction fuel with
    | zero =>
      intro x3 x5 hR
      rw [fX9_turns_37] at hR
      cases hR
    | succ fu ih =>
      intro x3 x5 hR
      rw [fX9_turns_37] at hR
      refine j_iload X (q := 4) dX9_turns_37 rfl ?_
      refine j_iload_n X (q := 1) dX9_turns_39 rfl ?_
      refine j_icmp_gt X (tgt := 63) dX9_turns_40 (by decide) (fun cv5 => ?_) (fun cv5 => ?_)
      · replace hR := (if_pos cv5).symm.trans hR
        refine j_aload_n X (q := 0) dX9_turns_63 rfl ?_
        refine j_get X 0 0 hiX9 k_665 dX9_turns_64 rfl rfl (by decide) rfl ?_
        refine j_bipush X (v := 9) dX9_turns_67 (by decide) ?_
        refine j_iald X (k := 9) 1 0 rfl dX9_turns_69 rfl rfl (by decide) ?_
        refine j_i2l X dX9_turns_70 ?_
        refine j_lload_n X (q := 3) dX9_turns_71 rfl ?_
        refine j_iload_n X (q := 2) dX9_turns_72 rfl ?_
        obtain ⟨ov6, hov6, hR⟩ := bd_some hR
        refine j_callS X (As := [.long ((f_n 9).toInt64), .long x3, .int i2]) (rest := []) (ws2 := [cMod r_ r_n r_o r_h r_A r_O r_H r_b r_x r_c r_m r_s r_z r_i r_v im be bg tx ta fa cl, cIar cI r_n 69 f_n]) (mX9_lowest l D cI cJ cB cT tt  hov6) [] [.inl 0, .inl 1] k_791 k_789 k_790 k_47 hdX9_lowest (by decide) (Nat.le_of_ble_eq_true rfl) dX9_turns_73 (by decide) rfl rfl (by decide) rfl rfl ?_
        have hR := Option.some.inj hR
        exact j_lret X hr dX9_turns_76 (by rw [← hR]) rfl
      · replace hR := (if_neg cv5).symm.trans hR
        refine j_lload_n X (q := 3) dX9_turns_43 rfl ?_
        refine j_aload_n X (q := 0) dX9_turns_44 rfl ?_
        refine j_get X 0 0 hiX9 k_665 dX9_turns_45 rfl rfl (by decide) rfl ?_
        refine j_bipush X (v := 39) dX9_turns_48 (by decide) ?_
        refine j_iload X (q := 4) dX9_turns_50 rfl ?_
        refine j_iadd X dX9_turns_52 ?_
        obtain ⟨gv7, hR⟩ := gd_some hR
        refine j_iald X 1 0 rfl dX9_turns_53 rfl rfl gv7 ?_
        refine j_i2l X dX9_turns_54 ?_
        refine j_lmul X dX9_turns_55 ?_
        obtain ⟨x3v8, ex3v8, hR⟩ := lt_some hR
        refine j_eq (congrArg (fun z => Value.long z :: _) ex3v8) rfl ?_
        refine j_lstore_n X (lv2 := [(3, .long x3v8), (0, .ref r_), (1, .int i1), (2, .int i2), (5, .int x5)]) dX9_turns_56 (by decide) rfl ?_
        obtain ⟨x5v9, ex5v9, hR⟩ := lt_some hR
        refine j_iinc X (k := 4) (v := x5v9) (lv2 := [(5, .int x5v9), (3, .long x3v8), (0, .ref r_), (1, .int i1), (2, .int i2)]) dX9_turns_57 rfl (by rw [← ex5v9]; rfl) (by decide) rfl ?_
        refine j_goto X (tgt := 37) dX9_turns_60 (by decide) ?_
        refine j_sub (lv2 := [(0, .ref r_), (1, .int i1), (2, .int i2), (3, .long x3v8), (5, .int x5v9)]) [2, 3, 4, 1, 0] rfl ?_
        exact ih _ _ hR
  refine j_sub (lv2 := [(0, .ref r_), (1, .int i1), (2, .int i2)]) [0, 1, 2] rfl ?_
  have hR := h
  unfold fX9_turns at hR
  refine j_iload_n X (q := 1) dX9_turns_0 rfl ?_
  refine j_iconst X (v := 0) dX9_turns_1 (by decide) ?_
  refine j_aload_n X (q := 0) dX9_turns_2 rfl ?_
  refine j_get X 0 0 hiX9 k_665 dX9_turns_3 rfl rfl (by decide) rfl ?_
  refine j_bipush X (v := 12) dX9_turns_6 (by decide) ?_
  refine j_iald X (k := 12) 1 0 rfl dX9_turns_8 rfl rfl (by decide) ?_
  refine j_iconst X (v := 1) dX9_turns_9 (by decide) ?_
  refine j_isub X dX9_turns_10 ?_
  obtain ⟨ov1, hov1, hR⟩ := bd_some hR
  refine j_callS X (As := [.int i1, .int 0, .int ((f_n 12) - 1)]) (rest := []) (ws2 := [cMod r_ r_n r_o r_h r_A r_O r_H r_b r_x r_c r_m r_s r_z r_i r_v im be bg tx ta fa cl, cIar cI r_n 69 f_n]) (mX9_within l D cI cJ cB cT tt  hov1) [] [.inl 0, .inl 1] k_735 k_733 k_734 k_47 hdX9_within (by decide) (Nat.le_of_ble_eq_true rfl) dX9_turns_11 (by decide) rfl rfl (by decide) rfl rfl ?_
  refine j_if_eq X (tgt := 26) dX9_turns_14 (by decide) (fun cv2 => ?_) (fun cv2 => ?_)
  · replace hR := (if_pos cv2).symm.trans hR
    refine j_ldc2 X k_787 dX9_turns_26 ?_
    have hR := Option.some.inj hR
    exact j_lret X hr dX9_turns_29 (by rw [← hR]) rfl
  · replace hR := (if_neg cv2).symm.trans hR
    refine j_iload_n X (q := 2) dX9_turns_17 rfl ?_
    refine j_iconst X (v := 0) dX9_turns_18 (by decide) ?_
    refine j_iconst X (v := 1) dX9_turns_19 (by decide) ?_
    obtain ⟨ov3, hov3, hR⟩ := bd_some hR
    refine j_callS X (As := [.int i2, .int 0, .int 1]) (rest := []) (ws2 := [cMod r_ r_n r_o r_h r_A r_O r_H r_b r_x r_c r_m r_s r_z r_i r_v im be bg tx ta fa cl, cIar cI r_n 69 f_n]) (mX9_within l D cI cJ cB cT tt  hov3) [] [.inl 0, .inl 1] k_735 k_733 k_734 k_47 hdX9_within (by decide) (Nat.le_of_ble_eq_true rfl) dX9_turns_20 (by decide) rfl rfl (by decide) rfl rfl ?_
    refine j_if_ne X (tgt := 30) dX9_turns_23 (by decide) (fun cv4 => ?_) (fun cv4 => ?_)
    · replace hR := (if_neg cv4).symm.trans hR
      refine j_ldc2 X k_788 dX9_turns_30 ?_
      refine j_lstore_n X (lv2 := [(3, .long 2), (0, .ref r_), (1, .int i1), (2, .int i2)]) dX9_turns_33 (by decide) rfl ?_
      refine j_iconst X (v := 0) dX9_turns_34 (by decide) ?_
      refine j_istore X (lv2 := [(5, .int 0), (3, .long 2), (0, .ref r_), (1, .int i1), (2, .int i2)]) dX9_turns_35 (by decide) rfl ?_
      refine j_sub (lv2 := [(0, .ref r_), (1, .int i1), (2, .int i2), (3, .long 2), (5, .int 0)]) [2, 3, 4, 1, 0] rfl ?_
      exact L_37 _ _ _ hR
    · replace hR := (if_pos cv4).symm.trans hR
      refine j_ldc2 X k_787 dX9_turns_26 ?_
      have hR := Option.some.inj hR
      exact j_lret X hr dX9_turns_29 (by rw [← hR]) rfl

def rmX9_energy : Room := { frames := 1, cells := 0, slots := 0, locals := 22 }
theorem hdX9_energy : yX9_energy.cls ≠ "java/lang/invoke/MethodHandle" ∧ yX9_energy.cls ≠ "java/lang/invoke/VarHandle" ∧ (parseMethodDescriptor yX9_energy.desc).map (fun d => d.parameters.length) = some 1 := by decide +kernel
def fX9_energy (i1 : Int32) (im : Int32) (be : Int32) (bg : Int32) (tx : Int32) (ta : Int32) (fa : Int32) (cl : Int32) (f_A : Nat → Int64) (f_n : Nat → Int32) : Option (Int64) :=
  (fX9_within i1 0 4).bind fun ov1 =>
  if ov1 = 0 then (some (-9223372036854775808)) else (if i1 = 4 then ((fX9_energyNow im be bg tx ta fa cl f_n).bind fun ov5 =>
  some ov5) else (gd (inb i1 4) (some (f_A i1.toNatClampNeg))))
set_option maxHeartbeats 8000000 in
set_option maxRecDepth 100000 in
theorem mX9_energy (l : Launch) (D : va_G) (cI cJ cB cT : ClassId) (tt : Nat → Nat) (r_ r_n r_o r_h r_A r_O r_H r_b r_x r_c r_m r_s r_z r_i r_v : Nat) {i1 : Int32} {im : Int32} {be : Int32} {bg : Int32} {tx : Int32} {ta : Int32} {fa : Int32} {cl : Int32} {f_A : Nat → Int64} {f_n : Nat → Int32} {out : Int64} (h : fX9_energy i1 im be bg tx ta fa cl f_A f_n = some out) :
    jM l yX9_energy (.code yX9_energy cX9_energy 2 (some .long)) rmX9_energy D (wTy cI cJ cB cT) tt [.ref r_, .int i1] [cMod r_ r_n r_o r_h r_A r_O r_H r_b r_x r_c r_m r_s r_z r_i r_v im be bg tx ta fa cl, cJar cJ r_A 4 f_A, cIar cI r_n 69 f_n] (some (.long out)) [cMod r_ r_n r_o r_h r_A r_O r_H r_b r_x r_c r_m r_s r_z r_i r_v im be bg tx ta fa cl, cJar cJ r_A 4 f_A, cIar cI r_n 69 f_n] := by
  refine jM.of (by decide) (Nat.le_of_ble_eq_true rfl) ?_
  intro p e s m below meth c A X hr
  refine j_sub (lv2 := [(0, .ref r_), (1, .int i1)]) [0, 1] rfl ?_
  have hR := h
  unfold fX9_energy at hR
  refine j_iload_n X (q := 1) dX9_energy_0 rfl ?_
  refine j_iconst X (v := 0) dX9_energy_1 (by decide) ?_
  refine j_iconst X (v := 4) dX9_energy_2 (by decide) ?_
  obtain ⟨ov1, hov1, hR⟩ := bd_some hR
  refine j_callS X (As := [.int i1, .int 0, .int 4]) (rest := []) (ws2 := [cMod r_ r_n r_o r_h r_A r_O r_H r_b r_x r_c r_m r_s r_z r_i r_v im be bg tx ta fa cl, cJar cJ r_A 4 f_A, cIar cI r_n 69 f_n]) (mX9_within l D cI cJ cB cT tt  hov1) [] [.inl 0, .inl 1, .inl 2] k_735 k_733 k_734 k_47 hdX9_within (by decide) (Nat.le_of_ble_eq_true rfl) dX9_energy_3 (by decide) rfl rfl (by decide) rfl rfl ?_
  refine j_if_ne X (tgt := 13) dX9_energy_6 (by decide) (fun cv2 => ?_) (fun cv2 => ?_)
  · replace hR := (if_neg cv2).symm.trans hR
    refine j_iload_n X (q := 1) dX9_energy_13 rfl ?_
    refine j_iconst X (v := 4) dX9_energy_14 (by decide) ?_
    refine j_icmp_ne X (tgt := 25) dX9_energy_15 (by decide) (fun cv3 => ?_) (fun cv3 => ?_)
    · replace hR := (if_neg cv3).symm.trans hR
      refine j_aload_n X (q := 0) dX9_energy_25 rfl ?_
      refine j_get X 0 4 hiX9 k_669 dX9_energy_26 rfl rfl (by decide) rfl ?_
      refine j_iload_n X (q := 1) dX9_energy_29 rfl ?_
      obtain ⟨gv4, hR⟩ := gd_some hR
      refine j_lald X 1 1 rfl dX9_energy_30 rfl rfl gv4 ?_
      have hR := Option.some.inj hR
      exact j_lret X hr dX9_energy_31 (by rw [← hR]) rfl
    · replace hR := (if_pos cv3).symm.trans hR
      refine j_aload_n X (q := 0) dX9_energy_18 rfl ?_
      obtain ⟨ov5, hov5, hR⟩ := bd_some hR
      refine j_callV X (As := []) (rest := []) (ws2 := [cMod r_ r_n r_o r_h r_A r_O r_H r_b r_x r_c r_m r_s r_z r_i r_v im be bg tx ta fa cl, cJar cJ r_A 4 f_A, cIar cI r_n 69 f_n]) (q0 := 0) (ci := 9) (mX9_energyNow l D cI cJ cB cT tt r_ r_n r_o r_h r_A r_O r_H r_b r_x r_c r_m r_s r_z r_i r_v hov5) [0, 2] [.inr 0, .inl 1, .inr 1] k_742 k_739 k_741 k_20 rfl rfl k_47 hdX9_energyNow (by decide) (Nat.le_of_ble_eq_true rfl) dX9_energy_19 (by decide) rfl rfl (by decide) rfl rfl ?_
      refine j_goto X (tgt := 31) dX9_energy_22 (by decide) ?_
      have hR := Option.some.inj hR
      exact j_lret X hr dX9_energy_31 (by rw [← hR]) rfl
  · replace hR := (if_pos cv2).symm.trans hR
    refine j_ldc2 X k_787 dX9_energy_9 ?_
    have hR := Option.some.inj hR
    exact j_lret X hr dX9_energy_12 (by rw [← hR]) rfl

def rmX9_feed : Room := { frames := 1, cells := 0, slots := 0, locals := 22 }
theorem hdX9_feed : yX9_feed.cls ≠ "java/lang/invoke/MethodHandle" ∧ yX9_feed.cls ≠ "java/lang/invoke/VarHandle" ∧ (parseMethodDescriptor yX9_feed.desc).map (fun d => d.parameters.length) = some 1 := by decide +kernel
def fX9_feed (i1 : Int32) (im : Int32) (be : Int32) (bg : Int32) (tx : Int32) (ta : Int32) (fa : Int32) (cl : Int32) (f_x : Nat → Int32) : Option (Int32 × Int32 × (Nat → Int32)) :=
  (fX9_within i1 0 127).bind fun ov1 =>
  if ov1 = 0 then (some ((-2), tx, f_x)) else (if tx = 100 then (some ((-4), tx, f_x)) else (lt' (tx + 1) fun txv4 =>
  gd (inb tx 100) (lt' (upd f_x tx.toNatClampNeg i1) fun f_xv6 =>
  some (txv4, txv4, f_xv6))))
set_option maxHeartbeats 8000000 in
set_option maxRecDepth 100000 in
theorem mX9_feed (l : Launch) (D : va_G) (cI cJ cB cT : ClassId) (tt : Nat → Nat) (r_ r_n r_o r_h r_A r_O r_H r_b r_x r_c r_m r_s r_z r_i r_v : Nat) {i1 : Int32} {im : Int32} {be : Int32} {bg : Int32} {tx : Int32} {ta : Int32} {fa : Int32} {cl : Int32} {f_x : Nat → Int32} {out : Int32 × Int32 × (Nat → Int32)} (h : fX9_feed i1 im be bg tx ta fa cl f_x = some out) :
    jM l yX9_feed (.code yX9_feed cX9_feed 2 (some .int)) rmX9_feed D (wTy cI cJ cB cT) tt [.ref r_, .int i1] [cMod r_ r_n r_o r_h r_A r_O r_H r_b r_x r_c r_m r_s r_z r_i r_v im be bg tx ta fa cl, cIar cI r_x 100 f_x] (some (.int out.1)) [cMod r_ r_n r_o r_h r_A r_O r_H r_b r_x r_c r_m r_s r_z r_i r_v im be bg out.2.1 ta fa cl, cIar cI r_x 100 out.2.2] := by
  refine jM.of (by decide) (Nat.le_of_ble_eq_true rfl) ?_
  intro p e s m below meth c A X hr
  refine j_sub (lv2 := [(0, .ref r_), (1, .int i1)]) [0, 1] rfl ?_
  have hR := h
  unfold fX9_feed at hR
  refine j_iload_n X (q := 1) dX9_feed_0 rfl ?_
  refine j_iconst X (v := 0) dX9_feed_1 (by decide) ?_
  refine j_bipush X (v := 127) dX9_feed_2 (by decide) ?_
  obtain ⟨ov1, hov1, hR⟩ := bd_some hR
  refine j_callS X (As := [.int i1, .int 0, .int 127]) (rest := []) (ws2 := [cMod r_ r_n r_o r_h r_A r_O r_H r_b r_x r_c r_m r_s r_z r_i r_v im be bg tx ta fa cl, cIar cI r_x 100 f_x]) (mX9_within l D cI cJ cB cT tt  hov1) [] [.inl 0, .inl 1] k_735 k_733 k_734 k_47 hdX9_within (by decide) (Nat.le_of_ble_eq_true rfl) dX9_feed_4 (by decide) rfl rfl (by decide) rfl rfl ?_
  refine j_if_ne X (tgt := 13) dX9_feed_7 (by decide) (fun cv2 => ?_) (fun cv2 => ?_)
  · replace hR := (if_neg cv2).symm.trans hR
    refine j_aload_n X (q := 0) dX9_feed_13 rfl ?_
    refine j_get X 0 10 hiX9 k_675 dX9_feed_14 rfl rfl (by decide) rfl ?_
    refine j_bipush X (v := 100) dX9_feed_17 (by decide) ?_
    refine j_icmp_ne X (tgt := 25) dX9_feed_19 (by decide) (fun cv3 => ?_) (fun cv3 => ?_)
    · replace hR := (if_neg cv3).symm.trans hR
      refine j_aload_n X (q := 0) dX9_feed_25 rfl ?_
      refine j_get X 0 11 hiX9 k_676 dX9_feed_26 rfl rfl (by decide) rfl ?_
      refine j_aload_n X (q := 0) dX9_feed_29 rfl ?_
      refine j_dup X dX9_feed_30 rfl ?_
      refine j_get X 0 10 hiX9 k_675 dX9_feed_31 rfl rfl (by decide) rfl ?_
      refine j_dup_x1 X dX9_feed_34 rfl rfl ?_
      refine j_iconst X (v := 1) dX9_feed_35 (by decide) ?_
      refine j_iadd X dX9_feed_36 ?_
      obtain ⟨txv4, etxv4, hR⟩ := lt_some hR
      refine j_put X (ws2 := [cMod r_ r_n r_o r_h r_A r_O r_H r_b r_x r_c r_m r_s r_z r_i r_v im be bg txv4 ta fa cl, cIar cI r_x 100 f_x]) 0 10 hiX9 tyX9_ok nmX9 k_675 dX9_feed_37 rfl rfl (by decide) (by decide) rfl rfl (Nat.le_of_ble_eq_true rfl) (by subst etxv4; rfl) ?_
      refine j_iload_n X (q := 1) dX9_feed_40 rfl ?_
      obtain ⟨gv5, hR⟩ := gd_some hR
      obtain ⟨f_xv6, ef_xv6, hR⟩ := lt_some hR
      refine j_iast X (ws2 := [cMod r_ r_n r_o r_h r_A r_O r_H r_b r_x r_c r_m r_s r_z r_i r_v im be bg txv4 ta fa cl, cIar cI r_x 100 f_xv6]) 1 0 rfl dX9_feed_41 rfl rfl gv5 ef_xv6 rfl ?_
      refine j_aload_n X (q := 0) dX9_feed_42 rfl ?_
      refine j_get X 0 10 hiX9 k_675 dX9_feed_43 rfl rfl (by decide) rfl ?_
      have hR := Option.some.inj hR
      exact j_iret X hr dX9_feed_46 (by rw [← hR]) (by rw [← hR])
    · replace hR := (if_pos cv3).symm.trans hR
      refine j_bipush X (v := (-4)) dX9_feed_22 (by decide) ?_
      have hR := Option.some.inj hR
      exact j_iret X hr dX9_feed_24 (by rw [← hR]) (by rw [← hR])
  · replace hR := (if_pos cv2).symm.trans hR
    refine j_bipush X (v := (-2)) dX9_feed_10 (by decide) ?_
    have hR := Option.some.inj hR
    exact j_iret X hr dX9_feed_12 (by rw [← hR]) (by rw [← hR])

def rmX9_isFrom : Room := { frames := 1, cells := 0, slots := 0, locals := 22 }
theorem hdX9_isFrom : yX9_isFrom.cls ≠ "java/lang/invoke/MethodHandle" ∧ yX9_isFrom.cls ≠ "java/lang/invoke/VarHandle" ∧ (parseMethodDescriptor yX9_isFrom.desc).map (fun d => d.parameters.length) = some 2 := by decide +kernel
def fX9_isFrom (i1 : Int32) (i2 : Int32) (im : Int32) (be : Int32) (bg : Int32) (tx : Int32) (ta : Int32) (fa : Int32) (cl : Int32) (f_x : Nat → Int32) : Option (Int32) :=
  if tx ≤ ta then (some 0) else (gd (inb ta 100) ((fX9_within (f_x ta.toNatClampNeg) i1 i2).bind fun ov3 =>
  if ov3 = 0 then (some 0) else (some 1)))
set_option maxHeartbeats 8000000 in
set_option maxRecDepth 100000 in
theorem mX9_isFrom (l : Launch) (D : va_G) (cI cJ cB cT : ClassId) (tt : Nat → Nat) (r_ r_n r_o r_h r_A r_O r_H r_b r_x r_c r_m r_s r_z r_i r_v : Nat) {i1 : Int32} {i2 : Int32} {im : Int32} {be : Int32} {bg : Int32} {tx : Int32} {ta : Int32} {fa : Int32} {cl : Int32} {f_x : Nat → Int32} {out : Int32} (h : fX9_isFrom i1 i2 im be bg tx ta fa cl f_x = some out) :
    jM l yX9_isFrom (.code yX9_isFrom cX9_isFrom 3 (some .boolean)) rmX9_isFrom D (wTy cI cJ cB cT) tt [.ref r_, .int i1, .int i2] [cMod r_ r_n r_o r_h r_A r_O r_H r_b r_x r_c r_m r_s r_z r_i r_v im be bg tx ta fa cl, cIar cI r_x 100 f_x] (some (.int out)) [cMod r_ r_n r_o r_h r_A r_O r_H r_b r_x r_c r_m r_s r_z r_i r_v im be bg tx ta fa cl, cIar cI r_x 100 f_x] := by
  refine jM.of (by decide) (Nat.le_of_ble_eq_true rfl) ?_
  intro p e s m below meth c A X hr
  refine j_sub (lv2 := [(0, .ref r_), (1, .int i1), (2, .int i2)]) [0, 1, 2] rfl ?_
  have hR := h
  unfold fX9_isFrom at hR
  refine j_aload_n X (q := 0) dX9_isFrom_0 rfl ?_
  refine j_get X 0 12 hiX9 k_677 dX9_isFrom_1 rfl rfl (by decide) rfl ?_
  refine j_aload_n X (q := 0) dX9_isFrom_4 rfl ?_
  refine j_get X 0 10 hiX9 k_675 dX9_isFrom_5 rfl rfl (by decide) rfl ?_
  refine j_icmp_ge X (tgt := 32) dX9_isFrom_8 (by decide) (fun cv1 => ?_) (fun cv1 => ?_)
  · replace hR := (if_pos cv1).symm.trans hR
    refine j_iconst X (v := 0) dX9_isFrom_32 (by decide) ?_
    have hR := Option.some.inj hR
    exact j_zret X hr rfl dX9_isFrom_33 (by rw [← hR]) rfl
  · replace hR := (if_neg cv1).symm.trans hR
    refine j_aload_n X (q := 0) dX9_isFrom_11 rfl ?_
    refine j_get X 0 11 hiX9 k_676 dX9_isFrom_12 rfl rfl (by decide) rfl ?_
    refine j_aload_n X (q := 0) dX9_isFrom_15 rfl ?_
    refine j_get X 0 12 hiX9 k_677 dX9_isFrom_16 rfl rfl (by decide) rfl ?_
    obtain ⟨gv2, hR⟩ := gd_some hR
    refine j_iald X 1 0 rfl dX9_isFrom_19 rfl rfl gv2 ?_
    refine j_iload_n X (q := 1) dX9_isFrom_20 rfl ?_
    refine j_iload_n X (q := 2) dX9_isFrom_21 rfl ?_
    obtain ⟨ov3, hov3, hR⟩ := bd_some hR
    refine j_callS X (As := [.int (f_x ta.toNatClampNeg), .int i1, .int i2]) (rest := []) (ws2 := [cMod r_ r_n r_o r_h r_A r_O r_H r_b r_x r_c r_m r_s r_z r_i r_v im be bg tx ta fa cl, cIar cI r_x 100 f_x]) (mX9_within l D cI cJ cB cT tt  hov3) [] [.inl 0, .inl 1] k_735 k_733 k_734 k_47 hdX9_within (by decide) (Nat.le_of_ble_eq_true rfl) dX9_isFrom_22 (by decide) rfl rfl (by decide) rfl rfl ?_
    refine j_if_eq X (tgt := 32) dX9_isFrom_25 (by decide) (fun cv4 => ?_) (fun cv4 => ?_)
    · replace hR := (if_pos cv4).symm.trans hR
      refine j_iconst X (v := 0) dX9_isFrom_32 (by decide) ?_
      have hR := Option.some.inj hR
      exact j_zret X hr rfl dX9_isFrom_33 (by rw [← hR]) rfl
    · replace hR := (if_neg cv4).symm.trans hR
      refine j_iconst X (v := 1) dX9_isFrom_28 (by decide) ?_
      refine j_goto X (tgt := 33) dX9_isFrom_29 (by decide) ?_
      have hR := Option.some.inj hR
      exact j_zret X hr rfl dX9_isFrom_33 (by rw [← hR]) rfl

def rmX9_letter : Room := { frames := 0, cells := 0, slots := 0, locals := 0 }
theorem hdX9_letter : yX9_letter.cls ≠ "java/lang/invoke/MethodHandle" ∧ yX9_letter.cls ≠ "java/lang/invoke/VarHandle" ∧ (parseMethodDescriptor yX9_letter.desc).map (fun d => d.parameters.length) = some 1 := by decide +kernel
def fX9_letter (i0 : Int32) : Option (Int32) :=
  if i0 = 97 then (some 0) else (if i0 = 118 then (some 1) else (if i0 = 115 then (some 2) else (if i0 = 103 then (some 3) else (if i0 = 111 then (some 4) else (if i0 = 102 then (some 5) else (if i0 = 108 then (some 6) else (if i0 = 119 then (some 7) else (if i0 = 116 then (some 8) else (some (-1))))))))))
set_option maxHeartbeats 8000000 in
set_option maxRecDepth 100000 in
theorem mX9_letter (l : Launch) (D : va_G) (cI cJ cB cT : ClassId) (tt : Nat → Nat) {i0 : Int32}  {out : Int32} (h : fX9_letter i0 = some out) :
    jM l yX9_letter (.code yX9_letter cX9_letter 1 (some .int)) rmX9_letter D (wTy cI cJ cB cT) tt [.int i0] [] (some (.int out)) [] := by
  refine jM.of (by decide) (Nat.le_of_ble_eq_true rfl) ?_
  intro p e s m below meth c A X hr
  refine j_sub (lv2 := [(0, .int i0)]) [0] rfl ?_
  have hR := h
  unfold fX9_letter at hR
  refine j_iload_n X (q := 0) dX9_letter_0 rfl ?_
  refine j_bipush X (v := 97) dX9_letter_1 (by decide) ?_
  refine j_icmp_ne X (tgt := 10) dX9_letter_3 (by decide) (fun cv1 => ?_) (fun cv1 => ?_)
  · replace hR := (if_neg cv1).symm.trans hR
    refine j_iload_n X (q := 0) dX9_letter_10 rfl ?_
    refine j_bipush X (v := 118) dX9_letter_11 (by decide) ?_
    refine j_icmp_ne X (tgt := 20) dX9_letter_13 (by decide) (fun cv2 => ?_) (fun cv2 => ?_)
    · replace hR := (if_neg cv2).symm.trans hR
      refine j_iload_n X (q := 0) dX9_letter_20 rfl ?_
      refine j_bipush X (v := 115) dX9_letter_21 (by decide) ?_
      refine j_icmp_ne X (tgt := 30) dX9_letter_23 (by decide) (fun cv3 => ?_) (fun cv3 => ?_)
      · replace hR := (if_neg cv3).symm.trans hR
        refine j_iload_n X (q := 0) dX9_letter_30 rfl ?_
        refine j_bipush X (v := 103) dX9_letter_31 (by decide) ?_
        refine j_icmp_ne X (tgt := 40) dX9_letter_33 (by decide) (fun cv4 => ?_) (fun cv4 => ?_)
        · replace hR := (if_neg cv4).symm.trans hR
          refine j_iload_n X (q := 0) dX9_letter_40 rfl ?_
          refine j_bipush X (v := 111) dX9_letter_41 (by decide) ?_
          refine j_icmp_ne X (tgt := 50) dX9_letter_43 (by decide) (fun cv5 => ?_) (fun cv5 => ?_)
          · replace hR := (if_neg cv5).symm.trans hR
            refine j_iload_n X (q := 0) dX9_letter_50 rfl ?_
            refine j_bipush X (v := 102) dX9_letter_51 (by decide) ?_
            refine j_icmp_ne X (tgt := 60) dX9_letter_53 (by decide) (fun cv6 => ?_) (fun cv6 => ?_)
            · replace hR := (if_neg cv6).symm.trans hR
              refine j_iload_n X (q := 0) dX9_letter_60 rfl ?_
              refine j_bipush X (v := 108) dX9_letter_61 (by decide) ?_
              refine j_icmp_ne X (tgt := 71) dX9_letter_63 (by decide) (fun cv7 => ?_) (fun cv7 => ?_)
              · replace hR := (if_neg cv7).symm.trans hR
                refine j_iload_n X (q := 0) dX9_letter_71 rfl ?_
                refine j_bipush X (v := 119) dX9_letter_72 (by decide) ?_
                refine j_icmp_ne X (tgt := 82) dX9_letter_74 (by decide) (fun cv8 => ?_) (fun cv8 => ?_)
                · replace hR := (if_neg cv8).symm.trans hR
                  refine j_iload_n X (q := 0) dX9_letter_82 rfl ?_
                  refine j_bipush X (v := 116) dX9_letter_83 (by decide) ?_
                  refine j_icmp_ne X (tgt := 93) dX9_letter_85 (by decide) (fun cv9 => ?_) (fun cv9 => ?_)
                  · replace hR := (if_neg cv9).symm.trans hR
                    refine j_iconst X (v := (-1)) dX9_letter_93 (by decide) ?_
                    have hR := Option.some.inj hR
                    exact j_iret X hr dX9_letter_94 (by rw [← hR]) rfl
                  · replace hR := (if_pos cv9).symm.trans hR
                    refine j_bipush X (v := 8) dX9_letter_88 (by decide) ?_
                    refine j_goto X (tgt := 94) dX9_letter_90 (by decide) ?_
                    have hR := Option.some.inj hR
                    exact j_iret X hr dX9_letter_94 (by rw [← hR]) rfl
                · replace hR := (if_pos cv8).symm.trans hR
                  refine j_bipush X (v := 7) dX9_letter_77 (by decide) ?_
                  refine j_goto X (tgt := 94) dX9_letter_79 (by decide) ?_
                  have hR := Option.some.inj hR
                  exact j_iret X hr dX9_letter_94 (by rw [← hR]) rfl
              · replace hR := (if_pos cv7).symm.trans hR
                refine j_bipush X (v := 6) dX9_letter_66 (by decide) ?_
                refine j_goto X (tgt := 94) dX9_letter_68 (by decide) ?_
                have hR := Option.some.inj hR
                exact j_iret X hr dX9_letter_94 (by rw [← hR]) rfl
            · replace hR := (if_pos cv6).symm.trans hR
              refine j_iconst X (v := 5) dX9_letter_56 (by decide) ?_
              refine j_goto X (tgt := 94) dX9_letter_57 (by decide) ?_
              have hR := Option.some.inj hR
              exact j_iret X hr dX9_letter_94 (by rw [← hR]) rfl
          · replace hR := (if_pos cv5).symm.trans hR
            refine j_iconst X (v := 4) dX9_letter_46 (by decide) ?_
            refine j_goto X (tgt := 94) dX9_letter_47 (by decide) ?_
            have hR := Option.some.inj hR
            exact j_iret X hr dX9_letter_94 (by rw [← hR]) rfl
        · replace hR := (if_pos cv4).symm.trans hR
          refine j_iconst X (v := 3) dX9_letter_36 (by decide) ?_
          refine j_goto X (tgt := 94) dX9_letter_37 (by decide) ?_
          have hR := Option.some.inj hR
          exact j_iret X hr dX9_letter_94 (by rw [← hR]) rfl
      · replace hR := (if_pos cv3).symm.trans hR
        refine j_iconst X (v := 2) dX9_letter_26 (by decide) ?_
        refine j_goto X (tgt := 94) dX9_letter_27 (by decide) ?_
        have hR := Option.some.inj hR
        exact j_iret X hr dX9_letter_94 (by rw [← hR]) rfl
    · replace hR := (if_pos cv2).symm.trans hR
      refine j_iconst X (v := 1) dX9_letter_16 (by decide) ?_
      refine j_goto X (tgt := 94) dX9_letter_17 (by decide) ?_
      have hR := Option.some.inj hR
      exact j_iret X hr dX9_letter_94 (by rw [← hR]) rfl
  · replace hR := (if_pos cv1).symm.trans hR
    refine j_iconst X (v := 0) dX9_letter_6 (by decide) ?_
    refine j_goto X (tgt := 94) dX9_letter_7 (by decide) ?_
    have hR := Option.some.inj hR
    exact j_iret X hr dX9_letter_94 (by rw [← hR]) rfl

def rmX9_reads : Room := { frames := 2, cells := 0, slots := 0, locals := 44 }
theorem hdX9_reads : yX9_reads.cls ≠ "java/lang/invoke/MethodHandle" ∧ yX9_reads.cls ≠ "java/lang/invoke/VarHandle" ∧ (parseMethodDescriptor yX9_reads.desc).map (fun d => d.parameters.length) = some 0 := by decide +kernel
def fX9_reads_131 (im : Int32) (be : Int32) (bg : Int32) (tx : Int32) (f_x : Nat → Int32) : Int32 → Int32 → Int32 → Int32 → Int32 → Int32 → Int32 → (Nat → Int32) → (Nat → Int32) → Option (Int32 × Int32 × Int32 × (Nat → Int32) × (Nat → Int32)) := fun x1 x2 x3 x4 ta fa cl f_c f_m =>
    if x4 = 0 then (some (ta, ta, cl, f_c, f_m)) else (gd (inb cl 12) (lt' (upd f_c cl.toNatClampNeg x1) fun f_cv18 =>
  if x2 = 0 then (gd (inb cl 12) (lt' (upd f_m cl.toNatClampNeg x3) fun f_mv21 =>
  lt' (cl + 1) fun clv22 =>
  some (ta, fa, clv22, f_cv18, f_mv21))) else (gd (inb cl 12) (lt' (upd f_m cl.toNatClampNeg (-x3)) fun f_mv24 =>
  lt' (cl + 1) fun clv25 =>
  some (ta, fa, clv25, f_cv18, f_mv24)))))
def fX9_reads_80 (im : Int32) (be : Int32) (bg : Int32) (tx : Int32) (f_x : Nat → Int32) : Nat → Int32 → Int32 → Int32 → Int32 → Int32 → Int32 → Int32 → (Nat → Int32) → (Nat → Int32) → Option (Int32 × Int32 × Int32 × (Nat → Int32) × (Nat → Int32))
  | 0, _, _, _, _, _, _, _, _, _ => none
  | fu + 1, x1, x2, x3, x4, ta, fa, cl, f_c, f_m =>
    if (3 : Int32) ≤ x4 then (fX9_reads_131 im be bg tx f_x x1 x2 x3 x4 ta fa cl f_c f_m) else ((fX9_isFrom 48 57 im be bg tx ta fa cl f_x).bind fun ov10 =>
  if ov10 = 0 then (fX9_reads_131 im be bg tx f_x x1 x2 x3 x4 ta fa cl f_c f_m) else (gd (inb ta 100) (lt' ((((10 : Int32) * x3) + (f_x ta.toNatClampNeg)) - 48) fun x3v13 =>
  lt' (ta + 1) fun tav14 =>
  lt' (x4 + 1) fun x4v15 =>
  fX9_reads_80 im be bg tx f_x fu x1 x2 x3v13 x4v15 tav14 fa cl f_c f_m)))
def fX9_reads_27 (im : Int32) (be : Int32) (bg : Int32) (tx : Int32) (f_x : Nat → Int32) : Int32 → Int32 → Int32 → Int32 → (Nat → Int32) → (Nat → Int32) → Option (Int32 × Int32 × Int32 × (Nat → Int32) × (Nat → Int32)) := fun y0 ta fa cl f_c f_m =>
    if y0 = (-1) then (some (ta, ta, cl, f_c, f_m)) else (lt' (ta + 1) fun tav5 =>
  (fX9_isFrom 45 45 im be bg tx tav5 fa cl f_x).bind fun ov6 =>
  if ov6 = 0 then (fX9_reads_80 im be bg tx f_x 500 y0 ov6 0 0 tav5 fa cl f_c f_m) else (lt' (tav5 + 1) fun tav8 =>
  fX9_reads_80 im be bg tx f_x 500 y0 ov6 0 0 tav8 fa cl f_c f_m))
def fX9_reads (im : Int32) (be : Int32) (bg : Int32) (tx : Int32) (ta : Int32) (fa : Int32) (cl : Int32) (f_c : Nat → Int32) (f_m : Nat → Int32) (f_x : Nat → Int32) : Option (Int32 × Int32 × Int32 × (Nat → Int32) × (Nat → Int32)) :=
  if tx ≤ ta then (fX9_reads_27 im be bg tx f_x (-1) ta fa cl f_c f_m) else (gd (inb ta 100) ((fX9_letter (f_x ta.toNatClampNeg)).bind fun ov3 =>
  fX9_reads_27 im be bg tx f_x ov3 ta fa cl f_c f_m))
set_option maxHeartbeats 8000000 in
set_option maxRecDepth 100000 in
theorem mX9_reads (l : Launch) (D : va_G) (cI cJ cB cT : ClassId) (tt : Nat → Nat) (r_ r_n r_o r_h r_A r_O r_H r_b r_x r_c r_m r_s r_z r_i r_v : Nat)  {im : Int32} {be : Int32} {bg : Int32} {tx : Int32} {ta : Int32} {fa : Int32} {cl : Int32} {f_c : Nat → Int32} {f_m : Nat → Int32} {f_x : Nat → Int32} {out : Int32 × Int32 × Int32 × (Nat → Int32) × (Nat → Int32)} (h : fX9_reads im be bg tx ta fa cl f_c f_m f_x = some out) :
    jM l yX9_reads (.code yX9_reads cX9_reads 5 none) rmX9_reads D (wTy cI cJ cB cT) tt [.ref r_] [cMod r_ r_n r_o r_h r_A r_O r_H r_b r_x r_c r_m r_s r_z r_i r_v im be bg tx ta fa cl, cIar cI r_c 12 f_c, cIar cI r_m 12 f_m, cIar cI r_x 100 f_x] (none) [cMod r_ r_n r_o r_h r_A r_O r_H r_b r_x r_c r_m r_s r_z r_i r_v im be bg tx out.1 out.2.1 out.2.2.1, cIar cI r_c 12 out.2.2.2.1, cIar cI r_m 12 out.2.2.2.2, cIar cI r_x 100 f_x] := by
  refine jM.of (by decide) (Nat.le_of_ble_eq_true rfl) ?_
  intro p e s m below meth c A X hr
  have L_131 : ∀ (x1 : Int32) (x2 : Int32) (x3 : Int32) (x4 : Int32) (ta : Int32) (fa : Int32) (cl : Int32) (f_c : Nat → Int32) (f_m : Nat → Int32), fX9_reads_131 im be bg tx f_x  x1 x2 x3 x4 ta fa cl f_c f_m = some out → jW p l e rmX9_reads s m ([.ref r_] : List Value).toArray below meth c D A 5 (MQ below (jQ D (none) [cMod r_ r_n r_o r_h r_A r_O r_H r_b r_x r_c r_m r_s r_z r_i r_v im be bg tx out.1 out.2.1 out.2.2.1, cIar cI r_c 12 out.2.2.2.1, cIar cI r_m 12 out.2.2.2.2, cIar cI r_x 100 f_x] A) ([.ref r_] : List Value).toArray s 0 0 A) 0 0 131 [(0, .ref r_), (1, .int x1), (2, .int x2), (3, .int x3), (4, .int x4)] [] [cMod r_ r_n r_o r_h r_A r_O r_H r_b r_x r_c r_m r_s r_z r_i r_v im be bg tx ta fa cl, cIar cI r_c 12 f_c, cIar cI r_m 12 f_m, cIar cI r_x 100 f_x] := by
    intro  x1 x2 x3 x4 ta fa cl f_c f_m hR
    unfold fX9_reads_131 at hR
    refine j_iload X (q := 4) dX9_reads_131 rfl ?_
    refine j_if_ne X (tgt := 145) dX9_reads_133 (by decide) (fun cv16 => ?_) (fun cv16 => ?_)
    · replace hR := (if_neg cv16).symm.trans hR
      refine j_aload_n X (q := 0) dX9_reads_145 rfl ?_
      refine j_get X 0 15 hiX9 k_680 dX9_reads_146 rfl rfl (by decide) rfl ?_
      refine j_aload_n X (q := 0) dX9_reads_149 rfl ?_
      refine j_get X 0 14 hiX9 k_679 dX9_reads_150 rfl rfl (by decide) rfl ?_
      refine j_iload_n X (q := 1) dX9_reads_153 rfl ?_
      obtain ⟨gv17, hR⟩ := gd_some hR
      obtain ⟨f_cv18, ef_cv18, hR⟩ := lt_some hR
      refine j_iast X (ws2 := [cMod r_ r_n r_o r_h r_A r_O r_H r_b r_x r_c r_m r_s r_z r_i r_v im be bg tx ta fa cl, cIar cI r_c 12 f_cv18, cIar cI r_m 12 f_m, cIar cI r_x 100 f_x]) 1 0 rfl dX9_reads_154 rfl rfl gv17 ef_cv18 rfl ?_
      refine j_aload_n X (q := 0) dX9_reads_155 rfl ?_
      refine j_get X 0 16 hiX9 k_681 dX9_reads_156 rfl rfl (by decide) rfl ?_
      refine j_aload_n X (q := 0) dX9_reads_159 rfl ?_
      refine j_get X 0 14 hiX9 k_679 dX9_reads_160 rfl rfl (by decide) rfl ?_
      refine j_iload_n X (q := 2) dX9_reads_163 rfl ?_
      refine j_if_eq X (tgt := 172) dX9_reads_164 (by decide) (fun cv19 => ?_) (fun cv19 => ?_)
      · replace hR := (if_pos cv19).symm.trans hR
        refine j_iload_n X (q := 3) dX9_reads_172 rfl ?_
        obtain ⟨gv20, hR⟩ := gd_some hR
        obtain ⟨f_mv21, ef_mv21, hR⟩ := lt_some hR
        refine j_iast X (ws2 := [cMod r_ r_n r_o r_h r_A r_O r_H r_b r_x r_c r_m r_s r_z r_i r_v im be bg tx ta fa cl, cIar cI r_c 12 f_cv18, cIar cI r_m 12 f_mv21, cIar cI r_x 100 f_x]) 2 0 rfl dX9_reads_173 rfl rfl gv20 ef_mv21 rfl ?_
        refine j_aload_n X (q := 0) dX9_reads_174 rfl ?_
        refine j_dup X dX9_reads_175 rfl ?_
        refine j_get X 0 14 hiX9 k_679 dX9_reads_176 rfl rfl (by decide) rfl ?_
        refine j_iconst X (v := 1) dX9_reads_179 (by decide) ?_
        refine j_iadd X dX9_reads_180 ?_
        obtain ⟨clv22, eclv22, hR⟩ := lt_some hR
        refine j_put X (ws2 := [cMod r_ r_n r_o r_h r_A r_O r_H r_b r_x r_c r_m r_s r_z r_i r_v im be bg tx ta fa clv22, cIar cI r_c 12 f_cv18, cIar cI r_m 12 f_mv21, cIar cI r_x 100 f_x]) 0 14 hiX9 tyX9_ok nmX9 k_679 dX9_reads_181 rfl rfl (by decide) (by decide) rfl rfl (Nat.le_of_ble_eq_true rfl) (by subst eclv22; rfl) ?_
        have hR := Option.some.inj hR
        exact j_vret X hr dX9_reads_184 rfl (by rw [← hR])
      · replace hR := (if_neg cv19).symm.trans hR
        refine j_iload_n X (q := 3) dX9_reads_167 rfl ?_
        refine j_ineg X dX9_reads_168 ?_
        refine j_goto X (tgt := 173) dX9_reads_169 (by decide) ?_
        obtain ⟨gv23, hR⟩ := gd_some hR
        obtain ⟨f_mv24, ef_mv24, hR⟩ := lt_some hR
        refine j_iast X (ws2 := [cMod r_ r_n r_o r_h r_A r_O r_H r_b r_x r_c r_m r_s r_z r_i r_v im be bg tx ta fa cl, cIar cI r_c 12 f_cv18, cIar cI r_m 12 f_mv24, cIar cI r_x 100 f_x]) 2 0 rfl dX9_reads_173 rfl rfl gv23 ef_mv24 rfl ?_
        refine j_aload_n X (q := 0) dX9_reads_174 rfl ?_
        refine j_dup X dX9_reads_175 rfl ?_
        refine j_get X 0 14 hiX9 k_679 dX9_reads_176 rfl rfl (by decide) rfl ?_
        refine j_iconst X (v := 1) dX9_reads_179 (by decide) ?_
        refine j_iadd X dX9_reads_180 ?_
        obtain ⟨clv25, eclv25, hR⟩ := lt_some hR
        refine j_put X (ws2 := [cMod r_ r_n r_o r_h r_A r_O r_H r_b r_x r_c r_m r_s r_z r_i r_v im be bg tx ta fa clv25, cIar cI r_c 12 f_cv18, cIar cI r_m 12 f_mv24, cIar cI r_x 100 f_x]) 0 14 hiX9 tyX9_ok nmX9 k_679 dX9_reads_181 rfl rfl (by decide) (by decide) rfl rfl (Nat.le_of_ble_eq_true rfl) (by subst eclv25; rfl) ?_
        have hR := Option.some.inj hR
        exact j_vret X hr dX9_reads_184 rfl (by rw [← hR])
    · replace hR := (if_pos cv16).symm.trans hR
      refine j_aload_n X (q := 0) dX9_reads_136 rfl ?_
      refine j_aload_n X (q := 0) dX9_reads_137 rfl ?_
      refine j_get X 0 12 hiX9 k_677 dX9_reads_138 rfl rfl (by decide) rfl ?_
      refine j_put X (ws2 := [cMod r_ r_n r_o r_h r_A r_O r_H r_b r_x r_c r_m r_s r_z r_i r_v im be bg tx ta ta cl, cIar cI r_c 12 f_c, cIar cI r_m 12 f_m, cIar cI r_x 100 f_x]) 0 13 hiX9 tyX9_ok nmX9 k_678 dX9_reads_141 rfl rfl (by decide) (by decide) rfl rfl (Nat.le_of_ble_eq_true rfl) rfl ?_
      have hR := Option.some.inj hR
      exact j_vret X hr dX9_reads_144 rfl (by rw [← hR])
  have L_80 : ∀ (fuel : Nat) (x1 : Int32) (x2 : Int32) (x3 : Int32) (x4 : Int32) (ta : Int32) (fa : Int32) (cl : Int32) (f_c : Nat → Int32) (f_m : Nat → Int32), fX9_reads_80 im be bg tx f_x  fuel x1 x2 x3 x4 ta fa cl f_c f_m = some out → jW p l e rmX9_reads s m ([.ref r_] : List Value).toArray below meth c D A 5 (MQ below (jQ D (none) [cMod r_ r_n r_o r_h r_A r_O r_H r_b r_x r_c r_m r_s r_z r_i r_v im be bg tx out.1 out.2.1 out.2.2.1, cIar cI r_c 12 out.2.2.2.1, cIar cI r_m 12 out.2.2.2.2, cIar cI r_x 100 f_x] A) ([.ref r_] : List Value).toArray s 0 0 A) 0 0 80 [(0, .ref r_), (1, .int x1), (2, .int x2), (3, .int x3), (4, .int x4)] [] [cMod r_ r_n r_o r_h r_A r_O r_H r_b r_x r_c r_m r_s r_z r_i r_v im be bg tx ta fa cl, cIar cI r_c 12 f_c, cIar cI r_m 12 f_m, cIar cI r_x 100 f_x] := by
    intro  fuel
    induction fuel with
    | zero =>
      intro x1 x2 x3 x4 ta fa cl f_c f_m hR
      rw [fX9_reads_80] at hR
      cases hR
    | succ fu ih =>
      intro x1 x2 x3 x4 ta fa cl f_c f_m hR
      rw [fX9_reads_80] at hR
      refine j_iload X (q := 4) dX9_reads_80 rfl ?_
      refine j_iconst X (v := 3) dX9_reads_82 (by decide) ?_
      refine j_icmp_ge X (tgt := 131) dX9_reads_83 (by decide) (fun cv9 => ?_) (fun cv9 => ?_)
      · replace hR := (if_pos cv9).symm.trans hR
        exact L_131 _ _ _ _ _ _ _ _ _ hR
      · replace hR := (if_neg cv9).symm.trans hR
        refine j_aload_n X (q := 0) dX9_reads_86 rfl ?_
        refine j_bipush X (v := 48) dX9_reads_87 (by decide) ?_
        refine j_bipush X (v := 57) dX9_reads_89 (by decide) ?_
        obtain ⟨ov10, hov10, hR⟩ := bd_some hR
        refine j_callV X (As := [.int 48, .int 57]) (rest := []) (ws2 := [cMod r_ r_n r_o r_h r_A r_O r_H r_b r_x r_c r_m r_s r_z r_i r_v im be bg tx ta fa cl, cIar cI r_c 12 f_c, cIar cI r_m 12 f_m, cIar cI r_x 100 f_x]) (q0 := 0) (ci := 9) (mX9_isFrom l D cI cJ cB cT tt r_ r_n r_o r_h r_A r_O r_H r_b r_x r_c r_m r_s r_z r_i r_v hov10) [0, 3] [.inr 0, .inl 1, .inl 2, .inr 1] k_814 k_811 k_813 k_26 rfl rfl k_47 hdX9_isFrom (by decide) (Nat.le_of_ble_eq_true rfl) dX9_reads_91 (by decide) rfl rfl (by decide) rfl rfl ?_
        refine j_if_eq X (tgt := 131) dX9_reads_94 (by decide) (fun cv11 => ?_) (fun cv11 => ?_)
        · replace hR := (if_pos cv11).symm.trans hR
          exact L_131 _ _ _ _ _ _ _ _ _ hR
        · replace hR := (if_neg cv11).symm.trans hR
          refine j_bipush X (v := 10) dX9_reads_97 (by decide) ?_
          refine j_iload_n X (q := 3) dX9_reads_99 rfl ?_
          refine j_imul X dX9_reads_100 ?_
          refine j_aload_n X (q := 0) dX9_reads_101 rfl ?_
          refine j_get X 0 11 hiX9 k_676 dX9_reads_102 rfl rfl (by decide) rfl ?_
          refine j_aload_n X (q := 0) dX9_reads_105 rfl ?_
          refine j_get X 0 12 hiX9 k_677 dX9_reads_106 rfl rfl (by decide) rfl ?_
          obtain ⟨gv12, hR⟩ := gd_some hR
          refine j_iald X 3 0 rfl dX9_reads_109 rfl rfl gv12 ?_
          refine j_iadd X dX9_reads_110 ?_
          refine j_bipush X (v := 48) dX9_reads_111 (by decide) ?_
          refine j_isub X dX9_reads_113 ?_
          obtain ⟨x3v13, ex3v13, hR⟩ := lt_some hR
          refine j_eq (congrArg (fun z => Value.int z :: _) ex3v13) rfl ?_
          refine j_istore_n X (lv2 := [(3, .int x3v13), (0, .ref r_), (1, .int x1), (2, .int x2), (4, .int x4)]) dX9_reads_114 (by decide) rfl ?_
          refine j_aload_n X (q := 1) dX9_reads_115 rfl ?_
          refine j_dup X dX9_reads_116 rfl ?_
          refine j_get X 0 12 hiX9 k_677 dX9_reads_117 rfl rfl (by decide) rfl ?_
          refine j_iconst X (v := 1) dX9_reads_120 (by decide) ?_
          refine j_iadd X dX9_reads_121 ?_
          obtain ⟨tav14, etav14, hR⟩ := lt_some hR
          refine j_put X (ws2 := [cMod r_ r_n r_o r_h r_A r_O r_H r_b r_x r_c r_m r_s r_z r_i r_v im be bg tx tav14 fa cl, cIar cI r_c 12 f_c, cIar cI r_m 12 f_m, cIar cI r_x 100 f_x]) 0 12 hiX9 tyX9_ok nmX9 k_677 dX9_reads_122 rfl rfl (by decide) (by decide) rfl rfl (Nat.le_of_ble_eq_true rfl) (by subst etav14; rfl) ?_
          obtain ⟨x4v15, ex4v15, hR⟩ := lt_some hR
          refine j_iinc X (k := 4) (v := x4v15) (lv2 := [(4, .int x4v15), (3, .int x3v13), (0, .ref r_), (1, .int x1), (2, .int x2)]) dX9_reads_125 rfl (by rw [← ex4v15]; rfl) (by decide) rfl ?_
          refine j_goto X (tgt := 80) dX9_reads_128 (by decide) ?_
          refine j_sub (lv2 := [(0, .ref r_), (1, .int x1), (2, .int x2), (3, .int x3v13), (4, .int x4v15)]) [2, 3, 4, 1, 0] rfl ?_
          exact ih _ _ _ _ _ _ _ _ _ hR
  have L_27 : ∀ (y0 : Int32) (ta : Int32) (fa : Int32) (cl : Int32) (f_c : Nat → Int32) (f_m : Nat → Int32), fX9_reads_27 im be bg tx f_x  y0 ta fa cl f_c f_m = some out → jW p l e rmX9_reads s m ([.ref r_] : List Value).toArray below meth c D A 5 (MQ below (jQ D (none) [cMod r_ r_n r_o r_h r_A r_O r_H r_b r_x r_c r_m r_s r_z r_i r_v im be bg tx out.1 out.2.1 out.2.2.1, cIar cI r_c 12 out.2.2.2.1, cIar cI r_m 12 out.2.2.2.2, cIar cI r_x 100 f_x] A) ([.ref r_] : List Value).toArray s 0 0 A) 0 0 27 [(0, .ref r_)] [.int y0] [cMod r_ r_n r_o r_h r_A r_O r_H r_b r_x r_c r_m r_s r_z r_i r_v im be bg tx ta fa cl, cIar cI r_c 12 f_c, cIar cI r_m 12 f_m, cIar cI r_x 100 f_x] := by
    intro  y0 ta fa cl f_c f_m hR
    unfold fX9_reads_27 at hR
    refine j_istore_n X (lv2 := [(1, .int y0), (0, .ref r_)]) dX9_reads_27 (by decide) rfl ?_
    refine j_iload_n X (q := 0) dX9_reads_28 rfl ?_
    refine j_iconst X (v := (-1)) dX9_reads_29 (by decide) ?_
    refine j_icmp_ne X (tgt := 42) dX9_reads_30 (by decide) (fun cv4 => ?_) (fun cv4 => ?_)
    · replace hR := (if_neg cv4).symm.trans hR
      refine j_aload_n X (q := 1) dX9_reads_42 rfl ?_
      refine j_dup X dX9_reads_43 rfl ?_
      refine j_get X 0 12 hiX9 k_677 dX9_reads_44 rfl rfl (by decide) rfl ?_
      refine j_iconst X (v := 1) dX9_reads_47 (by decide) ?_
      refine j_iadd X dX9_reads_48 ?_
      obtain ⟨tav5, etav5, hR⟩ := lt_some hR
      refine j_put X (ws2 := [cMod r_ r_n r_o r_h r_A r_O r_H r_b r_x r_c r_m r_s r_z r_i r_v im be bg tx tav5 fa cl, cIar cI r_c 12 f_c, cIar cI r_m 12 f_m, cIar cI r_x 100 f_x]) 0 12 hiX9 tyX9_ok nmX9 k_677 dX9_reads_49 rfl rfl (by decide) (by decide) rfl rfl (Nat.le_of_ble_eq_true rfl) (by subst etav5; rfl) ?_
      refine j_aload_n X (q := 1) dX9_reads_52 rfl ?_
      refine j_bipush X (v := 45) dX9_reads_53 (by decide) ?_
      refine j_bipush X (v := 45) dX9_reads_55 (by decide) ?_
      obtain ⟨ov6, hov6, hR⟩ := bd_some hR
      refine j_callV X (As := [.int 45, .int 45]) (rest := []) (ws2 := [cMod r_ r_n r_o r_h r_A r_O r_H r_b r_x r_c r_m r_s r_z r_i r_v im be bg tx tav5 fa cl, cIar cI r_c 12 f_c, cIar cI r_m 12 f_m, cIar cI r_x 100 f_x]) (q0 := 0) (ci := 9) (mX9_isFrom l D cI cJ cB cT tt r_ r_n r_o r_h r_A r_O r_H r_b r_x r_c r_m r_s r_z r_i r_v hov6) [0, 3] [.inr 0, .inl 1, .inl 2, .inr 1] k_814 k_811 k_813 k_26 rfl rfl k_47 hdX9_isFrom (by decide) (Nat.le_of_ble_eq_true rfl) dX9_reads_57 (by decide) rfl rfl (by decide) rfl rfl ?_
      refine j_istore_n X (lv2 := [(2, .int ov6), (1, .int y0), (0, .ref r_)]) dX9_reads_60 (by decide) rfl ?_
      refine j_iload_n X (q := 0) dX9_reads_61 rfl ?_
      refine j_if_eq X (tgt := 75) dX9_reads_62 (by decide) (fun cv7 => ?_) (fun cv7 => ?_)
      · replace hR := (if_pos cv7).symm.trans hR
        refine j_iconst X (v := 0) dX9_reads_75 (by decide) ?_
        refine j_istore_n X (lv2 := [(3, .int 0), (2, .int ov6), (1, .int y0), (0, .ref r_)]) dX9_reads_76 (by decide) rfl ?_
        refine j_iconst X (v := 0) dX9_reads_77 (by decide) ?_
        refine j_istore X (lv2 := [(4, .int 0), (3, .int 0), (2, .int ov6), (1, .int y0), (0, .ref r_)]) dX9_reads_78 (by decide) rfl ?_
        refine j_sub (lv2 := [(0, .ref r_), (1, .int y0), (2, .int ov6), (3, .int 0), (4, .int 0)]) [4, 3, 2, 1, 0] rfl ?_
        exact L_80 _ _ _ _ _ _ _ _ _ _ hR
      · replace hR := (if_neg cv7).symm.trans hR
        refine j_aload_n X (q := 2) dX9_reads_65 rfl ?_
        refine j_dup X dX9_reads_66 rfl ?_
        refine j_get X 0 12 hiX9 k_677 dX9_reads_67 rfl rfl (by decide) rfl ?_
        refine j_iconst X (v := 1) dX9_reads_70 (by decide) ?_
        refine j_iadd X dX9_reads_71 ?_
        obtain ⟨tav8, etav8, hR⟩ := lt_some hR
        refine j_put X (ws2 := [cMod r_ r_n r_o r_h r_A r_O r_H r_b r_x r_c r_m r_s r_z r_i r_v im be bg tx tav8 fa cl, cIar cI r_c 12 f_c, cIar cI r_m 12 f_m, cIar cI r_x 100 f_x]) 0 12 hiX9 tyX9_ok nmX9 k_677 dX9_reads_72 rfl rfl (by decide) (by decide) rfl rfl (Nat.le_of_ble_eq_true rfl) (by subst etav8; rfl) ?_
        refine j_iconst X (v := 0) dX9_reads_75 (by decide) ?_
        refine j_istore_n X (lv2 := [(3, .int 0), (2, .int ov6), (1, .int y0), (0, .ref r_)]) dX9_reads_76 (by decide) rfl ?_
        refine j_iconst X (v := 0) dX9_reads_77 (by decide) ?_
        refine j_istore X (lv2 := [(4, .int 0), (3, .int 0), (2, .int ov6), (1, .int y0), (0, .ref r_)]) dX9_reads_78 (by decide) rfl ?_
        refine j_sub (lv2 := [(0, .ref r_), (1, .int y0), (2, .int ov6), (3, .int 0), (4, .int 0)]) [4, 3, 2, 1, 0] rfl ?_
        exact L_80 _ _ _ _ _ _ _ _ _ _ hR
    · replace hR := (if_pos cv4).symm.trans hR
      refine j_aload_n X (q := 1) dX9_reads_33 rfl ?_
      refine j_aload_n X (q := 1) dX9_reads_34 rfl ?_
      refine j_get X 0 12 hiX9 k_677 dX9_reads_35 rfl rfl (by decide) rfl ?_
      refine j_put X (ws2 := [cMod r_ r_n r_o r_h r_A r_O r_H r_b r_x r_c r_m r_s r_z r_i r_v im be bg tx ta ta cl, cIar cI r_c 12 f_c, cIar cI r_m 12 f_m, cIar cI r_x 100 f_x]) 0 13 hiX9 tyX9_ok nmX9 k_678 dX9_reads_38 rfl rfl (by decide) (by decide) rfl rfl (Nat.le_of_ble_eq_true rfl) rfl ?_
      have hR := Option.some.inj hR
      exact j_vret X hr dX9_reads_41 rfl (by rw [← hR])
  refine j_sub (lv2 := [(0, .ref r_)]) [0] rfl ?_
  have hR := h
  unfold fX9_reads at hR
  refine j_aload_n X (q := 0) dX9_reads_0 rfl ?_
  refine j_get X 0 12 hiX9 k_677 dX9_reads_1 rfl rfl (by decide) rfl ?_
  refine j_aload_n X (q := 0) dX9_reads_4 rfl ?_
  refine j_get X 0 10 hiX9 k_675 dX9_reads_5 rfl rfl (by decide) rfl ?_
  refine j_icmp_ge X (tgt := 26) dX9_reads_8 (by decide) (fun cv1 => ?_) (fun cv1 => ?_)
  · replace hR := (if_pos cv1).symm.trans hR
    refine j_iconst X (v := (-1)) dX9_reads_26 (by decide) ?_
    exact L_27 _ _ _ _ _ _ hR
  · replace hR := (if_neg cv1).symm.trans hR
    refine j_aload_n X (q := 0) dX9_reads_11 rfl ?_
    refine j_get X 0 11 hiX9 k_676 dX9_reads_12 rfl rfl (by decide) rfl ?_
    refine j_aload_n X (q := 0) dX9_reads_15 rfl ?_
    refine j_get X 0 12 hiX9 k_677 dX9_reads_16 rfl rfl (by decide) rfl ?_
    obtain ⟨gv2, hR⟩ := gd_some hR
    refine j_iald X 3 0 rfl dX9_reads_19 rfl rfl gv2 ?_
    obtain ⟨ov3, hov3, hR⟩ := bd_some hR
    refine j_callS X (As := [.int (f_x ta.toNatClampNeg)]) (rest := []) (ws2 := [cMod r_ r_n r_o r_h r_A r_O r_H r_b r_x r_c r_m r_s r_z r_i r_v im be bg tx ta fa cl, cIar cI r_c 12 f_c, cIar cI r_m 12 f_m, cIar cI r_x 100 f_x]) (mX9_letter l D cI cJ cB cT tt  hov3) [] [.inl 0, .inl 1, .inl 2, .inl 3] k_810 k_808 k_809 k_47 hdX9_letter (by decide) (Nat.le_of_ble_eq_true rfl) dX9_reads_20 (by decide) rfl rfl (by decide) rfl rfl ?_
    refine j_goto X (tgt := 27) dX9_reads_23 (by decide) ?_
    exact L_27 _ _ _ _ _ _ hR

def rmX9_does : Room := { frames := 5, cells := 0, slots := 0, locals := 116 }
theorem hdX9_does : yX9_does.cls ≠ "java/lang/invoke/MethodHandle" ∧ yX9_does.cls ≠ "java/lang/invoke/VarHandle" ∧ (parseMethodDescriptor yX9_does.desc).map (fun d => d.parameters.length) = some 1 := by decide +kernel
def fX9_does (i1 : Int32) (im : Int32) (be : Int32) (bg : Int32) (tx : Int32) (ta : Int32) (fa : Int32) (cl : Int32) (f_A : Nat → Int64) (f_b : Nat → Int32) (f_c : Nat → Int32) (f_m : Nat → Int32) (f_n : Nat → Int32) : Option (Int32 × Int32 × Int32 × (Nat → Int64) × (Nat → Int32) × (Nat → Int32)) :=
  gd (inb i1 12) (lt' (f_m i1.toNatClampNeg) fun x2v2 =>
  gd (inb i1 12) (if (7 : Int32) ≤ (f_c i1.toNatClampNeg) then (gd (inb i1 12) (if (f_c i1.toNatClampNeg) = 7 then ((fX9_wheel x2v2 im be bg tx ta fa cl f_n).bind fun ov9 =>
  if ov9.1 < 0 then (some (0, be, bg, f_A, f_b, ov9.2)) else (some (1, be, bg, f_A, f_b, ov9.2))) else ((fX9_go x2v2 im be bg tx ta fa cl f_A f_b f_n).bind fun ov7 =>
  if ov7.1 < 0 then (some (0, ov7.2.1, ov7.2.2.1, ov7.2.2.2.1, ov7.2.2.2.2.1, ov7.2.2.2.2.2)) else (some (1, ov7.2.1, ov7.2.2.1, ov7.2.2.2.1, ov7.2.2.2.2.1, ov7.2.2.2.2.2))))) else (gd (inb i1 12) ((fX9_set (f_c i1.toNatClampNeg) x2v2 im be bg tx ta fa cl f_A f_n).bind fun ov12 =>
  if ov12.1 ≤ (-1000) then (some (0, be, bg, ov12.2.1, f_b, ov12.2.2)) else (some (1, be, bg, ov12.2.1, f_b, ov12.2.2))))))
set_option maxHeartbeats 8000000 in
set_option maxRecDepth 100000 in
theorem mX9_does (l : Launch) (D : va_G) (cI cJ cB cT : ClassId) (tt : Nat → Nat) (r_ r_n r_o r_h r_A r_O r_H r_b r_x r_c r_m r_s r_z r_i r_v : Nat) {i1 : Int32} {im : Int32} {be : Int32} {bg : Int32} {tx : Int32} {ta : Int32} {fa : Int32} {cl : Int32} {f_A : Nat → Int64} {f_b : Nat → Int32} {f_c : Nat → Int32} {f_m : Nat → Int32} {f_n : Nat → Int32} {out : Int32 × Int32 × Int32 × (Nat → Int64) × (Nat → Int32) × (Nat → Int32)} (h : fX9_does i1 im be bg tx ta fa cl f_A f_b f_c f_m f_n = some out) :
    jM l yX9_does (.code yX9_does cX9_does 3 (some .boolean)) rmX9_does D (wTy cI cJ cB cT) tt [.ref r_, .int i1] [cMod r_ r_n r_o r_h r_A r_O r_H r_b r_x r_c r_m r_s r_z r_i r_v im be bg tx ta fa cl, cJar cJ r_A 4 f_A, cIar cI r_b 400 f_b, cIar cI r_c 12 f_c, cIar cI r_m 12 f_m, cIar cI r_n 69 f_n] (some (.int out.1)) [cMod r_ r_n r_o r_h r_A r_O r_H r_b r_x r_c r_m r_s r_z r_i r_v im out.2.1 out.2.2.1 tx ta fa cl, cJar cJ r_A 4 out.2.2.2.1, cIar cI r_b 400 out.2.2.2.2.1, cIar cI r_c 12 f_c, cIar cI r_m 12 f_m, cIar cI r_n 69 out.2.2.2.2.2] := by
  refine jM.of (by decide) (Nat.le_of_ble_eq_true rfl) ?_
  intro p e s m below meth c A X hr
  refine j_sub (lv2 := [(0, .ref r_), (1, .int i1)]) [0, 1] rfl ?_
  have hR := h
  unfold fX9_does at hR
  refine j_aload_n X (q := 0) dX9_does_0 rfl ?_
  refine j_get X 0 16 hiX9 k_681 dX9_does_1 rfl rfl (by decide) rfl ?_
  refine j_iload_n X (q := 1) dX9_does_4 rfl ?_
  obtain ⟨gv1, hR⟩ := gd_some hR
  refine j_iald X 4 0 rfl dX9_does_5 rfl rfl gv1 ?_
  obtain ⟨x2v2, ex2v2, hR⟩ := lt_some hR
  refine j_eq (congrArg (fun z => Value.int z :: _) ex2v2) rfl ?_
  refine j_istore_n X (lv2 := [(2, .int x2v2), (0, .ref r_), (1, .int i1)]) dX9_does_6 (by decide) rfl ?_
  refine j_aload_n X (q := 1) dX9_does_7 rfl ?_
  refine j_get X 0 15 hiX9 k_680 dX9_does_8 rfl rfl (by decide) rfl ?_
  refine j_iload_n X (q := 2) dX9_does_11 rfl ?_
  obtain ⟨gv3, hR⟩ := gd_some hR
  refine j_iald X 3 0 rfl dX9_does_12 rfl rfl gv3 ?_
  refine j_bipush X (v := 7) dX9_does_13 (by decide) ?_
  refine j_icmp_ge X (tgt := 41) dX9_does_15 (by decide) (fun cv4 => ?_) (fun cv4 => ?_)
  · replace hR := (if_pos cv4).symm.trans hR
    refine j_aload_n X (q := 1) dX9_does_41 rfl ?_
    refine j_get X 0 15 hiX9 k_680 dX9_does_42 rfl rfl (by decide) rfl ?_
    refine j_iload_n X (q := 2) dX9_does_45 rfl ?_
    obtain ⟨gv5, hR⟩ := gd_some hR
    refine j_iald X 3 0 rfl dX9_does_46 rfl rfl gv5 ?_
    refine j_bipush X (v := 7) dX9_does_47 (by decide) ?_
    refine j_icmp_ne X (tgt := 68) dX9_does_49 (by decide) (fun cv6 => ?_) (fun cv6 => ?_)
    · replace hR := (if_neg cv6).symm.trans hR
      refine j_aload_n X (q := 1) dX9_does_68 rfl ?_
      refine j_iload_n X (q := 0) dX9_does_69 rfl ?_
      obtain ⟨ov7, hov7, hR⟩ := bd_some hR
      refine j_callV X (As := [.int x2v2]) (rest := []) (ws2 := [cMod r_ r_n r_o r_h r_A r_O r_H r_b r_x r_c r_m r_s r_z r_i r_v im ov7.2.1 ov7.2.2.1 tx ta fa cl, cJar cJ r_A 4 ov7.2.2.2.1, cIar cI r_b 400 ov7.2.2.2.2.1, cIar cI r_c 12 f_c, cIar cI r_m 12 f_m, cIar cI r_n 69 ov7.2.2.2.2.2]) (q0 := 0) (ci := 9) (mX9_go l D cI cJ cB cT tt r_ r_n r_o r_h r_A r_O r_H r_b r_x r_c r_m r_s r_z r_i r_v hov7) [0, 1, 2, 5] [.inr 0, .inr 1, .inr 2, .inl 3, .inl 4, .inr 3] k_760 k_821 k_758 k_759 rfl rfl k_47 hdX9_go (by decide) (Nat.le_of_ble_eq_true rfl) dX9_does_70 (by decide) rfl rfl (by decide) rfl rfl ?_
      refine j_if_lt X (tgt := 80) dX9_does_73 (by decide) (fun cv8 => ?_) (fun cv8 => ?_)
      · replace hR := (if_pos cv8).symm.trans hR
        refine j_iconst X (v := 0) dX9_does_80 (by decide) ?_
        have hR := Option.some.inj hR
        exact j_zret X hr rfl dX9_does_81 (by rw [← hR]) (by rw [← hR])
      · replace hR := (if_neg cv8).symm.trans hR
        refine j_iconst X (v := 1) dX9_does_76 (by decide) ?_
        refine j_goto X (tgt := 81) dX9_does_77 (by decide) ?_
        have hR := Option.some.inj hR
        exact j_zret X hr rfl dX9_does_81 (by rw [← hR]) (by rw [← hR])
    · replace hR := (if_pos cv6).symm.trans hR
      refine j_aload_n X (q := 1) dX9_does_52 rfl ?_
      refine j_iload_n X (q := 0) dX9_does_53 rfl ?_
      obtain ⟨ov9, hov9, hR⟩ := bd_some hR
      refine j_callV X (As := [.int x2v2]) (rest := []) (ws2 := [cMod r_ r_n r_o r_h r_A r_O r_H r_b r_x r_c r_m r_s r_z r_i r_v im be bg tx ta fa cl, cJar cJ r_A 4 f_A, cIar cI r_b 400 f_b, cIar cI r_c 12 f_c, cIar cI r_m 12 f_m, cIar cI r_n 69 ov9.2]) (q0 := 0) (ci := 9) (mX9_wheel l D cI cJ cB cT tt r_ r_n r_o r_h r_A r_O r_H r_b r_x r_c r_m r_s r_z r_i r_v hov9) [0, 5] [.inr 0, .inl 1, .inl 2, .inl 3, .inl 4, .inr 1] k_782 k_820 k_780 k_781 rfl rfl k_47 hdX9_wheel (by decide) (Nat.le_of_ble_eq_true rfl) dX9_does_54 (by decide) rfl rfl (by decide) rfl rfl ?_
      refine j_if_lt X (tgt := 64) dX9_does_57 (by decide) (fun cv10 => ?_) (fun cv10 => ?_)
      · replace hR := (if_pos cv10).symm.trans hR
        refine j_iconst X (v := 0) dX9_does_64 (by decide) ?_
        refine j_goto X (tgt := 81) dX9_does_65 (by decide) ?_
        have hR := Option.some.inj hR
        exact j_zret X hr rfl dX9_does_81 (by rw [← hR]) (by rw [← hR])
      · replace hR := (if_neg cv10).symm.trans hR
        refine j_iconst X (v := 1) dX9_does_60 (by decide) ?_
        refine j_goto X (tgt := 81) dX9_does_61 (by decide) ?_
        have hR := Option.some.inj hR
        exact j_zret X hr rfl dX9_does_81 (by rw [← hR]) (by rw [← hR])
  · replace hR := (if_neg cv4).symm.trans hR
    refine j_aload_n X (q := 1) dX9_does_18 rfl ?_
    refine j_aload_n X (q := 1) dX9_does_19 rfl ?_
    refine j_get X 0 15 hiX9 k_680 dX9_does_20 rfl rfl (by decide) rfl ?_
    refine j_iload_n X (q := 2) dX9_does_23 rfl ?_
    obtain ⟨gv11, hR⟩ := gd_some hR
    refine j_iald X 3 0 rfl dX9_does_24 rfl rfl gv11 ?_
    refine j_iload_n X (q := 0) dX9_does_25 rfl ?_
    obtain ⟨ov12, hov12, hR⟩ := bd_some hR
    refine j_callV X (As := [.int (f_c i1.toNatClampNeg), .int x2v2]) (rest := []) (ws2 := [cMod r_ r_n r_o r_h r_A r_O r_H r_b r_x r_c r_m r_s r_z r_i r_v im be bg tx ta fa cl, cJar cJ r_A 4 ov12.2.1, cIar cI r_b 400 f_b, cIar cI r_c 12 f_c, cIar cI r_m 12 f_m, cIar cI r_n 69 ov12.2.2]) (q0 := 0) (ci := 9) (mX9_set l D cI cJ cB cT tt r_ r_n r_o r_h r_A r_O r_H r_b r_x r_c r_m r_s r_z r_i r_v hov12) [0, 1, 5] [.inr 0, .inr 1, .inl 2, .inl 3, .inl 4, .inr 2] k_732 k_819 k_730 k_731 rfl rfl k_47 hdX9_set (by decide) (Nat.le_of_ble_eq_true rfl) dX9_does_26 (by decide) rfl rfl (by decide) rfl rfl ?_
    refine j_sipush X (v := (-1000)) dX9_does_29 (by decide) ?_
    refine j_icmp_le X (tgt := 39) dX9_does_32 (by decide) (fun cv13 => ?_) (fun cv13 => ?_)
    · replace hR := (if_pos cv13).symm.trans hR
      refine j_iconst X (v := 0) dX9_does_39 (by decide) ?_
      have hR := Option.some.inj hR
      exact j_zret X hr rfl dX9_does_40 (by rw [← hR]) (by rw [← hR])
    · replace hR := (if_neg cv13).symm.trans hR
      refine j_iconst X (v := 1) dX9_does_35 (by decide) ?_
      refine j_goto X (tgt := 40) dX9_does_36 (by decide) ?_
      have hR := Option.some.inj hR
      exact j_zret X hr rfl dX9_does_40 (by rw [← hR]) (by rw [← hR])

def rmX9_read : Room := { frames := 6, cells := 0, slots := 0, locals := 138 }
theorem hdX9_read : yX9_read.cls ≠ "java/lang/invoke/MethodHandle" ∧ yX9_read.cls ≠ "java/lang/invoke/VarHandle" ∧ (parseMethodDescriptor yX9_read.desc).map (fun d => d.parameters.length) = some 0 := by decide +kernel
def fX9_read_116 (im : Int32) (f_x : Nat → Int32) : Nat → Int32 → Int32 → Int32 → Int32 → Int32 → Int32 → Int32 → Int32 → (Nat → Int64) → (Nat → Int32) → (Nat → Int32) → (Nat → Int32) → (Nat → Int32) → Option (Int32 × Int32 × Int32 × Int32 × Int32 × Int32 × Int32 × (Nat → Int64) × (Nat → Int32) × (Nat → Int32) × (Nat → Int32) × (Nat → Int32))
  | 0, _, _, _, _, _, _, _, _, _, _, _, _, _ => none
  | fu + 1, x1, x2, be, bg, tx, ta, fa, cl, f_A, f_b, f_c, f_m, f_n =>
    if cl ≤ x2 then (some (x1, be, bg, tx, ta, fa, cl, f_A, f_b, f_c, f_m, f_n)) else ((fX9_does x2 im be bg tx ta fa cl f_A f_b f_c f_m f_n).bind fun ov12 =>
  if ov12.1 = 0 then (lt' (x2 + 1) fun x2v14 =>
  fX9_read_116 im f_x fu x1 x2v14 ov12.2.1 ov12.2.2.1 tx ta fa cl ov12.2.2.2.1 ov12.2.2.2.2.1 f_c f_m ov12.2.2.2.2.2) else (lt' (x1 + 1) fun x1v15 =>
  lt' (x2 + 1) fun x2v16 =>
  fX9_read_116 im f_x fu x1v15 x2v16 ov12.2.1 ov12.2.2.1 tx ta fa cl ov12.2.2.2.1 ov12.2.2.2.2.1 f_c f_m ov12.2.2.2.2.2))
def fX9_read_92 (im : Int32) (f_x : Nat → Int32) : Int32 → Int32 → Int32 → Int32 → Int32 → Int32 → (Nat → Int64) → (Nat → Int32) → (Nat → Int32) → (Nat → Int32) → (Nat → Int32) → Option (Int32 × Int32 × Int32 × Int32 × Int32 × Int32 × Int32 × (Nat → Int64) × (Nat → Int32) × (Nat → Int32) × (Nat → Int32) × (Nat → Int32)) := fun be bg tx ta fa cl f_A f_b f_c f_m f_n =>
    if fa < 0 then (fX9_read_116 im f_x 500 0 0 be bg 0 ta fa cl f_A f_b f_c f_m f_n) else (some (((-10) : Int32) - fa, be, bg, 0, ta, fa, cl, f_A, f_b, f_c, f_m, f_n))
def fX9_read_68 (im : Int32) (f_x : Nat → Int32) (K_19 : Int32 → Int32 → Int32 → Int32 → Int32 → Int32 → (Nat → Int64) → (Nat → Int32) → (Nat → Int32) → (Nat → Int32) → (Nat → Int32) → Option (Int32 × Int32 × Int32 × Int32 × Int32 × Int32 × Int32 × (Nat → Int64) × (Nat → Int32) × (Nat → Int32) × (Nat → Int32) × (Nat → Int32))) : Int32 → Int32 → Int32 → Int32 → Int32 → Int32 → (Nat → Int64) → (Nat → Int32) → (Nat → Int32) → (Nat → Int32) → (Nat → Int32) → Option (Int32 × Int32 × Int32 × Int32 × Int32 × Int32 × Int32 × (Nat → Int64) × (Nat → Int32) × (Nat → Int32) × (Nat → Int32) × (Nat → Int32)) := fun be bg tx ta fa cl f_A f_b f_c f_m f_n =>
    lt' (ta + 1) fun tav8 =>
  if (0 : Int32) ≤ fa then (K_19 be bg tx tav8 fa cl f_A f_b f_c f_m f_n) else ((fX9_reads im be bg tx tav8 fa cl f_c f_m f_x).bind fun ov10 =>
  K_19 be bg tx ov10.1 ov10.2.1 ov10.2.2.1 f_A f_b ov10.2.2.2.1 ov10.2.2.2.2 f_n)
def fX9_read_19 (im : Int32) (f_x : Nat → Int32) : Nat → Int32 → Int32 → Int32 → Int32 → Int32 → Int32 → (Nat → Int64) → (Nat → Int32) → (Nat → Int32) → (Nat → Int32) → (Nat → Int32) → Option (Int32 × Int32 × Int32 × Int32 × Int32 × Int32 × Int32 × (Nat → Int64) × (Nat → Int32) × (Nat → Int32) × (Nat → Int32) × (Nat → Int32))
  | 0, _, _, _, _, _, _, _, _, _, _, _ => none
  | fu + 1, be, bg, tx, ta, fa, cl, f_A, f_b, f_c, f_m, f_n =>
    if (0 : Int32) ≤ fa then (fX9_read_92 im f_x be bg tx ta fa cl f_A f_b f_c f_m f_n) else (if tx ≤ ta then (fX9_read_92 im f_x be bg tx ta fa cl f_A f_b f_c f_m f_n) else (gd (inb ta 100) (if (f_x ta.toNatClampNeg) = 59 then (if cl = 12 then (fX9_read_68 im f_x (fX9_read_19 im f_x fu) be bg tx ta ta cl f_A f_b f_c f_m f_n) else (fX9_read_68 im f_x (fX9_read_19 im f_x fu) be bg tx ta fa cl f_A f_b f_c f_m f_n)) else (fX9_read_68 im f_x (fX9_read_19 im f_x fu) be bg tx ta ta cl f_A f_b f_c f_m f_n))))
def fX9_read (im : Int32) (be : Int32) (bg : Int32) (tx : Int32) (ta : Int32) (fa : Int32) (cl : Int32) (f_A : Nat → Int64) (f_b : Nat → Int32) (f_c : Nat → Int32) (f_m : Nat → Int32) (f_n : Nat → Int32) (f_x : Nat → Int32) : Option (Int32 × Int32 × Int32 × Int32 × Int32 × Int32 × Int32 × (Nat → Int64) × (Nat → Int32) × (Nat → Int32) × (Nat → Int32) × (Nat → Int32)) :=
  (fX9_reads im be bg tx 0 (-1) 0 f_c f_m f_x).bind fun ov1 =>
  fX9_read_19 im f_x 500 be bg tx ov1.1 ov1.2.1 ov1.2.2.1 f_A f_b ov1.2.2.2.1 ov1.2.2.2.2 f_n
set_option maxHeartbeats 8000000 in
set_option maxRecDepth 100000 in
theorem mX9_read (l : Launch) (D : va_G) (cI cJ cB cT : ClassId) (tt : Nat → Nat) (r_ r_n r_o r_h r_A r_O r_H r_b r_x r_c r_m r_s r_z r_i r_v : Nat)  {im : Int32} {be : Int32} {bg : Int32} {tx : Int32} {ta : Int32} {fa : Int32} {cl : Int32} {f_A : Nat → Int64} {f_b : Nat → Int32} {f_c : Nat → Int32} {f_m : Nat → Int32} {f_n : Nat → Int32} {f_x : Nat → Int32} {out : Int32 × Int32 × Int32 × Int32 × Int32 × Int32 × Int32 × (Nat → Int64) × (Nat → Int32) × (Nat → Int32) × (Nat → Int32) × (Nat → Int32)} (h : fX9_read im be bg tx ta fa cl f_A f_b f_c f_m f_n f_x = some out) :
    jM l yX9_read (.code yX9_read cX9_read 3 (some .int)) rmX9_read D (wTy cI cJ cB cT) tt [.ref r_] [cMod r_ r_n r_o r_h r_A r_O r_H r_b r_x r_c r_m r_s r_z r_i r_v im be bg tx ta fa cl, cJar cJ r_A 4 f_A, cIar cI r_b 400 f_b, cIar cI r_c 12 f_c, cIar cI r_m 12 f_m, cIar cI r_n 69 f_n, cIar cI r_x 100 f_x] (some (.int out.1)) [cMod r_ r_n r_o r_h r_A r_O r_H r_b r_x r_c r_m r_s r_z r_i r_v im out.2.1 out.2.2.1 out.2.2.2.1 out.2.2.2.2.1 out.2.2.2.2.2.1 out.2.2.2.2.2.2.1, cJar cJ r_A 4 out.2.2.2.2.2.2.2.1, cIar cI r_b 400 out.2.2.2.2.2.2.2.2.1, cIar cI r_c 12 out.2.2.2.2.2.2.2.2.2.1, cIar cI r_m 12 out.2.2.2.2.2.2.2.2.2.2.1, cIar cI r_n 69 out.2.2.2.2.2.2.2.2.2.2.2, cIar cI r_x 100 f_x] := by
  refine jM.of (by decide) (Nat.le_of_ble_eq_true rfl) ?_
  intro p e s m below meth c A X hr
  have L_116 : ∀ (fuel : Nat) (x1 : Int32) (x2 : Int32) (be : Int32) (bg : Int32) (tx : Int32) (ta : Int32) (fa : Int32) (cl : Int32) (f_A : Nat → Int64) (f_b : Nat → Int32) (f_c : Nat → Int32) (f_m : Nat → Int32) (f_n : Nat → Int32), fX9_read_116 im f_x  fuel x1 x2 be bg tx ta fa cl f_A f_b f_c f_m f_n = some out → jW p l e rmX9_read s m ([.ref r_] : List Value).toArray below meth c D A 3 (MQ below (jQ D (some (.int out.1)) [cMod r_ r_n r_o r_h r_A r_O r_H r_b r_x r_c r_m r_s r_z r_i r_v im out.2.1 out.2.2.1 out.2.2.2.1 out.2.2.2.2.1 out.2.2.2.2.2.1 out.2.2.2.2.2.2.1, cJar cJ r_A 4 out.2.2.2.2.2.2.2.1, cIar cI r_b 400 out.2.2.2.2.2.2.2.2.1, cIar cI r_c 12 out.2.2.2.2.2.2.2.2.2.1, cIar cI r_m 12 out.2.2.2.2.2.2.2.2.2.2.1, cIar cI r_n 69 out.2.2.2.2.2.2.2.2.2.2.2, cIar cI r_x 100 f_x] A) ([.ref r_] : List Value).toArray s 0 0 A) 0 0 116 [(0, .ref r_), (1, .int x1), (2, .int x2)] [] [cMod r_ r_n r_o r_h r_A r_O r_H r_b r_x r_c r_m r_s r_z r_i r_v im be bg tx ta fa cl, cJar cJ r_A 4 f_A, cIar cI r_b 400 f_b, cIar cI r_c 12 f_c, cIar cI r_m 12 f_m, cIar cI r_n 69 f_n, cIar cI r_x 100 f_x] := by
    intro  fuel
    induction fuel with
    | zero =>
      intro x1 x2 be bg tx ta fa cl f_A f_b f_c f_m f_n hR
      rw [fX9_read_116] at hR
      cases hR
    | succ fu ih =>
      intro x1 x2 be bg tx ta fa cl f_A f_b f_c f_m f_n hR
      rw [fX9_read_116] at hR
      refine j_iload_n X (q := 2) dX9_read_116 rfl ?_
      refine j_aload_n X (q := 0) dX9_read_117 rfl ?_
      refine j_get X 0 14 hiX9 k_679 dX9_read_118 rfl rfl (by decide) rfl ?_
      refine j_icmp_ge X (tgt := 141) dX9_read_121 (by decide) (fun cv11 => ?_) (fun cv11 => ?_)
      · replace hR := (if_pos cv11).symm.trans hR
        refine j_iload_n X (q := 1) dX9_read_141 rfl ?_
        have hR := Option.some.inj hR
        exact j_iret X hr dX9_read_142 (by rw [← hR]) (by rw [← hR])
      · replace hR := (if_neg cv11).symm.trans hR
        refine j_aload_n X (q := 0) dX9_read_124 rfl ?_
        refine j_iload_n X (q := 2) dX9_read_125 rfl ?_
        obtain ⟨ov12, hov12, hR⟩ := bd_some hR
        refine j_callV X (As := [.int x2]) (rest := []) (ws2 := [cMod r_ r_n r_o r_h r_A r_O r_H r_b r_x r_c r_m r_s r_z r_i r_v im ov12.2.1 ov12.2.2.1 tx ta fa cl, cJar cJ r_A 4 ov12.2.2.2.1, cIar cI r_b 400 ov12.2.2.2.2.1, cIar cI r_c 12 f_c, cIar cI r_m 12 f_m, cIar cI r_n 69 ov12.2.2.2.2.2, cIar cI r_x 100 f_x]) (q0 := 0) (ci := 9) (mX9_does l D cI cJ cB cT tt r_ r_n r_o r_h r_A r_O r_H r_b r_x r_c r_m r_s r_z r_i r_v hov12) [0, 1, 2, 3, 4, 5] [.inr 0, .inr 1, .inr 2, .inr 3, .inr 4, .inr 5, .inl 6] k_818 k_815 k_817 k_27 rfl rfl k_47 hdX9_does (by decide) (Nat.le_of_ble_eq_true rfl) dX9_read_126 (by decide) rfl rfl (by decide) rfl rfl ?_
        refine j_if_eq X (tgt := 135) dX9_read_129 (by decide) (fun cv13 => ?_) (fun cv13 => ?_)
        · replace hR := (if_pos cv13).symm.trans hR
          obtain ⟨x2v14, ex2v14, hR⟩ := lt_some hR
          refine j_iinc X (k := 2) (v := x2v14) (lv2 := [(2, .int x2v14), (0, .ref r_), (1, .int x1)]) dX9_read_135 rfl (by rw [← ex2v14]; rfl) (by decide) rfl ?_
          refine j_goto X (tgt := 116) dX9_read_138 (by decide) ?_
          refine j_sub (lv2 := [(0, .ref r_), (1, .int x1), (2, .int x2v14)]) [1, 2, 0] rfl ?_
          exact ih _ _ _ _ _ _ _ _ _ _ _ _ _ hR
        · replace hR := (if_neg cv13).symm.trans hR
          obtain ⟨x1v15, ex1v15, hR⟩ := lt_some hR
          refine j_iinc X (k := 1) (v := x1v15) (lv2 := [(1, .int x1v15), (0, .ref r_), (2, .int x2)]) dX9_read_132 rfl (by rw [← ex1v15]; rfl) (by decide) rfl ?_
          obtain ⟨x2v16, ex2v16, hR⟩ := lt_some hR
          refine j_iinc X (k := 2) (v := x2v16) (lv2 := [(2, .int x2v16), (1, .int x1v15), (0, .ref r_)]) dX9_read_135 rfl (by rw [← ex2v16]; rfl) (by decide) rfl ?_
          refine j_goto X (tgt := 116) dX9_read_138 (by decide) ?_
          refine j_sub (lv2 := [(0, .ref r_), (1, .int x1v15), (2, .int x2v16)]) [2, 1, 0] rfl ?_
          exact ih _ _ _ _ _ _ _ _ _ _ _ _ _ hR
  have L_92 : ∀ (be : Int32) (bg : Int32) (tx : Int32) (ta : Int32) (fa : Int32) (cl : Int32) (f_A : Nat → Int64) (f_b : Nat → Int32) (f_c : Nat → Int32) (f_m : Nat → Int32) (f_n : Nat → Int32), fX9_read_92 im f_x  be bg tx ta fa cl f_A f_b f_c f_m f_n = some out → jW p l e rmX9_read s m ([.ref r_] : List Value).toArray below meth c D A 3 (MQ below (jQ D (some (.int out.1)) [cMod r_ r_n r_o r_h r_A r_O r_H r_b r_x r_c r_m r_s r_z r_i r_v im out.2.1 out.2.2.1 out.2.2.2.1 out.2.2.2.2.1 out.2.2.2.2.2.1 out.2.2.2.2.2.2.1, cJar cJ r_A 4 out.2.2.2.2.2.2.2.1, cIar cI r_b 400 out.2.2.2.2.2.2.2.2.1, cIar cI r_c 12 out.2.2.2.2.2.2.2.2.2.1, cIar cI r_m 12 out.2.2.2.2.2.2.2.2.2.2.1, cIar cI r_n 69 out.2.2.2.2.2.2.2.2.2.2.2, cIar cI r_x 100 f_x] A) ([.ref r_] : List Value).toArray s 0 0 A) 0 0 92 [(0, .ref r_)] [] [cMod r_ r_n r_o r_h r_A r_O r_H r_b r_x r_c r_m r_s r_z r_i r_v im be bg tx ta fa cl, cJar cJ r_A 4 f_A, cIar cI r_b 400 f_b, cIar cI r_c 12 f_c, cIar cI r_m 12 f_m, cIar cI r_n 69 f_n, cIar cI r_x 100 f_x] := by
    intro  be bg tx ta fa cl f_A f_b f_c f_m f_n hR
    unfold fX9_read_92 at hR
    refine j_aload_n X (q := 0) dX9_read_92 rfl ?_
    refine j_iconst X (v := 0) dX9_read_93 (by decide) ?_
    refine j_put X (ws2 := [cMod r_ r_n r_o r_h r_A r_O r_H r_b r_x r_c r_m r_s r_z r_i r_v im be bg 0 ta fa cl, cJar cJ r_A 4 f_A, cIar cI r_b 400 f_b, cIar cI r_c 12 f_c, cIar cI r_m 12 f_m, cIar cI r_n 69 f_n, cIar cI r_x 100 f_x]) 0 10 hiX9 tyX9_ok nmX9 k_675 dX9_read_94 rfl rfl (by decide) (by decide) rfl rfl (Nat.le_of_ble_eq_true rfl) rfl ?_
    refine j_aload_n X (q := 0) dX9_read_97 rfl ?_
    refine j_get X 0 13 hiX9 k_678 dX9_read_98 rfl rfl (by decide) rfl ?_
    refine j_if_lt X (tgt := 112) dX9_read_101 (by decide) (fun cv7 => ?_) (fun cv7 => ?_)
    · replace hR := (if_pos cv7).symm.trans hR
      refine j_iconst X (v := 0) dX9_read_112 (by decide) ?_
      refine j_istore_n X (lv2 := [(1, .int 0), (0, .ref r_)]) dX9_read_113 (by decide) rfl ?_
      refine j_iconst X (v := 0) dX9_read_114 (by decide) ?_
      refine j_istore_n X (lv2 := [(2, .int 0), (1, .int 0), (0, .ref r_)]) dX9_read_115 (by decide) rfl ?_
      refine j_sub (lv2 := [(0, .ref r_), (1, .int 0), (2, .int 0)]) [2, 1, 0] rfl ?_
      exact L_116 _ _ _ _ _ _ _ _ _ _ _ _ _ _ hR
    · replace hR := (if_neg cv7).symm.trans hR
      refine j_bipush X (v := (-10)) dX9_read_104 (by decide) ?_
      refine j_aload_n X (q := 0) dX9_read_106 rfl ?_
      refine j_get X 0 13 hiX9 k_678 dX9_read_107 rfl rfl (by decide) rfl ?_
      refine j_isub X dX9_read_110 ?_
      have hR := Option.some.inj hR
      exact j_iret X hr dX9_read_111 (by rw [← hR]) (by rw [← hR])
  have L_68 : ∀ (K_19 : Int32 → Int32 → Int32 → Int32 → Int32 → Int32 → (Nat → Int64) → (Nat → Int32) → (Nat → Int32) → (Nat → Int32) → (Nat → Int32) → Option (Int32 × Int32 × Int32 × Int32 × Int32 × Int32 × Int32 × (Nat → Int64) × (Nat → Int32) × (Nat → Int32) × (Nat → Int32) × (Nat → Int32))), (∀ (be : Int32) (bg : Int32) (tx : Int32) (ta : Int32) (fa : Int32) (cl : Int32) (f_A : Nat → Int64) (f_b : Nat → Int32) (f_c : Nat → Int32) (f_m : Nat → Int32) (f_n : Nat → Int32), K_19 be bg tx ta fa cl f_A f_b f_c f_m f_n = some out → jW p l e rmX9_read s m ([.ref r_] : List Value).toArray below meth c D A 3 (MQ below (jQ D (some (.int out.1)) [cMod r_ r_n r_o r_h r_A r_O r_H r_b r_x r_c r_m r_s r_z r_i r_v im out.2.1 out.2.2.1 out.2.2.2.1 out.2.2.2.2.1 out.2.2.2.2.2.1 out.2.2.2.2.2.2.1, cJar cJ r_A 4 out.2.2.2.2.2.2.2.1, cIar cI r_b 400 out.2.2.2.2.2.2.2.2.1, cIar cI r_c 12 out.2.2.2.2.2.2.2.2.2.1, cIar cI r_m 12 out.2.2.2.2.2.2.2.2.2.2.1, cIar cI r_n 69 out.2.2.2.2.2.2.2.2.2.2.2, cIar cI r_x 100 f_x] A) ([.ref r_] : List Value).toArray s 0 0 A) 0 0 19 [(0, .ref r_)] [] [cMod r_ r_n r_o r_h r_A r_O r_H r_b r_x r_c r_m r_s r_z r_i r_v im be bg tx ta fa cl, cJar cJ r_A 4 f_A, cIar cI r_b 400 f_b, cIar cI r_c 12 f_c, cIar cI r_m 12 f_m, cIar cI r_n 69 f_n, cIar cI r_x 100 f_x]) → ∀ (be : Int32) (bg : Int32) (tx : Int32) (ta : Int32) (fa : Int32) (cl : Int32) (f_A : Nat → Int64) (f_b : Nat → Int32) (f_c : Nat → Int32) (f_m : Nat → Int32) (f_n : Nat → Int32), fX9_read_68 im f_x K_19 be bg tx ta fa cl f_A f_b f_c f_m f_n = some out → jW p l e rmX9_read s m ([.ref r_] : List Value).toArray below meth c D A 3 (MQ below (jQ D (some (.int out.1)) [cMod r_ r_n r_o r_h r_A r_O r_H r_b r_x r_c r_m r_s r_z r_i r_v im out.2.1 out.2.2.1 out.2.2.2.1 out.2.2.2.2.1 out.2.2.2.2.2.1 out.2.2.2.2.2.2.1, cJar cJ r_A 4 out.2.2.2.2.2.2.2.1, cIar cI r_b 400 out.2.2.2.2.2.2.2.2.1, cIar cI r_c 12 out.2.2.2.2.2.2.2.2.2.1, cIar cI r_m 12 out.2.2.2.2.2.2.2.2.2.2.1, cIar cI r_n 69 out.2.2.2.2.2.2.2.2.2.2.2, cIar cI r_x 100 f_x] A) ([.ref r_] : List Value).toArray s 0 0 A) 0 0 68 [(0, .ref r_)] [] [cMod r_ r_n r_o r_h r_A r_O r_H r_b r_x r_c r_m r_s r_z r_i r_v im be bg tx ta fa cl, cJar cJ r_A 4 f_A, cIar cI r_b 400 f_b, cIar cI r_c 12 f_c, cIar cI r_m 12 f_m, cIar cI r_n 69 f_n, cIar cI r_x 100 f_x] := by
    intro K_19 hK_19 be bg tx ta fa cl f_A f_b f_c f_m f_n hR
    unfold fX9_read_68 at hR
    refine j_aload_n X (q := 0) dX9_read_68 rfl ?_
    refine j_dup X dX9_read_69 rfl ?_
    refine j_get X 0 12 hiX9 k_677 dX9_read_70 rfl rfl (by decide) rfl ?_
    refine j_iconst X (v := 1) dX9_read_73 (by decide) ?_
    refine j_iadd X dX9_read_74 ?_
    obtain ⟨tav8, etav8, hR⟩ := lt_some hR
    refine j_put X (ws2 := [cMod r_ r_n r_o r_h r_A r_O r_H r_b r_x r_c r_m r_s r_z r_i r_v im be bg tx tav8 fa cl, cJar cJ r_A 4 f_A, cIar cI r_b 400 f_b, cIar cI r_c 12 f_c, cIar cI r_m 12 f_m, cIar cI r_n 69 f_n, cIar cI r_x 100 f_x]) 0 12 hiX9 tyX9_ok nmX9 k_677 dX9_read_75 rfl rfl (by decide) (by decide) rfl rfl (Nat.le_of_ble_eq_true rfl) (by subst etav8; rfl) ?_
    refine j_aload_n X (q := 0) dX9_read_78 rfl ?_
    refine j_get X 0 13 hiX9 k_678 dX9_read_79 rfl rfl (by decide) rfl ?_
    refine j_if_ge X (tgt := 19) dX9_read_82 (by decide) (fun cv9 => ?_) (fun cv9 => ?_)
    · replace hR := (if_pos cv9).symm.trans hR
      exact hK_19 _ _ _ _ _ _ _ _ _ _ _ hR
    · replace hR := (if_neg cv9).symm.trans hR
      refine j_aload_n X (q := 0) dX9_read_85 rfl ?_
      obtain ⟨ov10, hov10, hR⟩ := bd_some hR
      refine j_callV X (As := []) (rest := []) (ws2 := [cMod r_ r_n r_o r_h r_A r_O r_H r_b r_x r_c r_m r_s r_z r_i r_v im be bg tx ov10.1 ov10.2.1 ov10.2.2.1, cJar cJ r_A 4 f_A, cIar cI r_b 400 f_b, cIar cI r_c 12 ov10.2.2.2.1, cIar cI r_m 12 ov10.2.2.2.2, cIar cI r_n 69 f_n, cIar cI r_x 100 f_x]) (q0 := 0) (ci := 9) (mX9_reads l D cI cJ cB cT tt r_ r_n r_o r_h r_A r_O r_H r_b r_x r_c r_m r_s r_z r_i r_v hov10) [0, 3, 4, 6] [.inr 0, .inl 1, .inl 2, .inr 1, .inr 2, .inl 5, .inr 3] k_807 k_804 k_806 k_25 rfl rfl k_47 hdX9_reads (by decide) (Nat.le_of_ble_eq_true rfl) dX9_read_86 (by decide) rfl rfl (by decide) rfl rfl ?_
      refine j_goto X (tgt := 19) dX9_read_89 (by decide) ?_
      exact hK_19 _ _ _ _ _ _ _ _ _ _ _ hR
  have L_19 : ∀ (fuel : Nat) (be : Int32) (bg : Int32) (tx : Int32) (ta : Int32) (fa : Int32) (cl : Int32) (f_A : Nat → Int64) (f_b : Nat → Int32) (f_c : Nat → Int32) (f_m : Nat → Int32) (f_n : Nat → Int32), fX9_read_19 im f_x  fuel be bg tx ta fa cl f_A f_b f_c f_m f_n = some out → jW p l e rmX9_read s m ([.ref r_] : List Value).toArray below meth c D A 3 (MQ below (jQ D (some (.int out.1)) [cMod r_ r_n r_o r_h r_A r_O r_H r_b r_x r_c r_m r_s r_z r_i r_v im out.2.1 out.2.2.1 out.2.2.2.1 out.2.2.2.2.1 out.2.2.2.2.2.1 out.2.2.2.2.2.2.1, cJar cJ r_A 4 out.2.2.2.2.2.2.2.1, cIar cI r_b 400 out.2.2.2.2.2.2.2.2.1, cIar cI r_c 12 out.2.2.2.2.2.2.2.2.2.1, cIar cI r_m 12 out.2.2.2.2.2.2.2.2.2.2.1, cIar cI r_n 69 out.2.2.2.2.2.2.2.2.2.2.2, cIar cI r_x 100 f_x] A) ([.ref r_] : List Value).toArray s 0 0 A) 0 0 19 [(0, .ref r_)] [] [cMod r_ r_n r_o r_h r_A r_O r_H r_b r_x r_c r_m r_s r_z r_i r_v im be bg tx ta fa cl, cJar cJ r_A 4 f_A, cIar cI r_b 400 f_b, cIar cI r_c 12 f_c, cIar cI r_m 12 f_m, cIar cI r_n 69 f_n, cIar cI r_x 100 f_x] := by
    intro  fuel
    induction fuel with
    | zero =>
      intro be bg tx ta fa cl f_A f_b f_c f_m f_n hR
      rw [fX9_read_19] at hR
      cases hR
    | succ fu ih =>
      intro be bg tx ta fa cl f_A f_b f_c f_m f_n hR
      rw [fX9_read_19] at hR
      refine j_aload_n X (q := 0) dX9_read_19 rfl ?_
      refine j_get X 0 13 hiX9 k_678 dX9_read_20 rfl rfl (by decide) rfl ?_
      refine j_if_ge X (tgt := 92) dX9_read_23 (by decide) (fun cv2 => ?_) (fun cv2 => ?_)
      · replace hR := (if_pos cv2).symm.trans hR
        exact L_92 _ _ _ _ _ _ _ _ _ _ _ hR
      · replace hR := (if_neg cv2).symm.trans hR
        refine j_aload_n X (q := 0) dX9_read_26 rfl ?_
        refine j_get X 0 12 hiX9 k_677 dX9_read_27 rfl rfl (by decide) rfl ?_
        refine j_aload_n X (q := 0) dX9_read_30 rfl ?_
        refine j_get X 0 10 hiX9 k_675 dX9_read_31 rfl rfl (by decide) rfl ?_
        refine j_icmp_ge X (tgt := 92) dX9_read_34 (by decide) (fun cv3 => ?_) (fun cv3 => ?_)
        · replace hR := (if_pos cv3).symm.trans hR
          exact L_92 _ _ _ _ _ _ _ _ _ _ _ hR
        · replace hR := (if_neg cv3).symm.trans hR
          refine j_aload_n X (q := 0) dX9_read_37 rfl ?_
          refine j_get X 0 11 hiX9 k_676 dX9_read_38 rfl rfl (by decide) rfl ?_
          refine j_aload_n X (q := 0) dX9_read_41 rfl ?_
          refine j_get X 0 12 hiX9 k_677 dX9_read_42 rfl rfl (by decide) rfl ?_
          obtain ⟨gv4, hR⟩ := gd_some hR
          refine j_iald X 6 0 rfl dX9_read_45 rfl rfl gv4 ?_
          refine j_bipush X (v := 59) dX9_read_46 (by decide) ?_
          refine j_icmp_ne X (tgt := 60) dX9_read_48 (by decide) (fun cv5 => ?_) (fun cv5 => ?_)
          · replace hR := (if_neg cv5).symm.trans hR
            refine j_aload_n X (q := 0) dX9_read_60 rfl ?_
            refine j_aload_n X (q := 0) dX9_read_61 rfl ?_
            refine j_get X 0 12 hiX9 k_677 dX9_read_62 rfl rfl (by decide) rfl ?_
            refine j_put X (ws2 := [cMod r_ r_n r_o r_h r_A r_O r_H r_b r_x r_c r_m r_s r_z r_i r_v im be bg tx ta ta cl, cJar cJ r_A 4 f_A, cIar cI r_b 400 f_b, cIar cI r_c 12 f_c, cIar cI r_m 12 f_m, cIar cI r_n 69 f_n, cIar cI r_x 100 f_x]) 0 13 hiX9 tyX9_ok nmX9 k_678 dX9_read_65 rfl rfl (by decide) (by decide) rfl rfl (Nat.le_of_ble_eq_true rfl) rfl ?_
            exact L_68 _ ih _ _ _ _ _ _ _ _ _ _ _ hR
          · replace hR := (if_pos cv5).symm.trans hR
            refine j_aload_n X (q := 0) dX9_read_51 rfl ?_
            refine j_get X 0 14 hiX9 k_679 dX9_read_52 rfl rfl (by decide) rfl ?_
            refine j_bipush X (v := 12) dX9_read_55 (by decide) ?_
            refine j_icmp_ne X (tgt := 68) dX9_read_57 (by decide) (fun cv6 => ?_) (fun cv6 => ?_)
            · replace hR := (if_neg cv6).symm.trans hR
              exact L_68 _ ih _ _ _ _ _ _ _ _ _ _ _ hR
            · replace hR := (if_pos cv6).symm.trans hR
              refine j_aload_n X (q := 0) dX9_read_60 rfl ?_
              refine j_aload_n X (q := 0) dX9_read_61 rfl ?_
              refine j_get X 0 12 hiX9 k_677 dX9_read_62 rfl rfl (by decide) rfl ?_
              refine j_put X (ws2 := [cMod r_ r_n r_o r_h r_A r_O r_H r_b r_x r_c r_m r_s r_z r_i r_v im be bg tx ta ta cl, cJar cJ r_A 4 f_A, cIar cI r_b 400 f_b, cIar cI r_c 12 f_c, cIar cI r_m 12 f_m, cIar cI r_n 69 f_n, cIar cI r_x 100 f_x]) 0 13 hiX9 tyX9_ok nmX9 k_678 dX9_read_65 rfl rfl (by decide) (by decide) rfl rfl (Nat.le_of_ble_eq_true rfl) rfl ?_
              exact L_68 _ ih _ _ _ _ _ _ _ _ _ _ _ hR
  refine j_sub (lv2 := [(0, .ref r_)]) [0] rfl ?_
  have hR := h
  unfold fX9_read at hR
  refine j_aload_n X (q := 0) dX9_read_0 rfl ?_
  refine j_iconst X (v := 0) dX9_read_1 (by decide) ?_
  refine j_put X (ws2 := [cMod r_ r_n r_o r_h r_A r_O r_H r_b r_x r_c r_m r_s r_z r_i r_v im be bg tx 0 fa cl, cJar cJ r_A 4 f_A, cIar cI r_b 400 f_b, cIar cI r_c 12 f_c, cIar cI r_m 12 f_m, cIar cI r_n 69 f_n, cIar cI r_x 100 f_x]) 0 12 hiX9 tyX9_ok nmX9 k_677 dX9_read_2 rfl rfl (by decide) (by decide) rfl rfl (Nat.le_of_ble_eq_true rfl) rfl ?_
  refine j_aload_n X (q := 0) dX9_read_5 rfl ?_
  refine j_iconst X (v := (-1)) dX9_read_6 (by decide) ?_
  refine j_put X (ws2 := [cMod r_ r_n r_o r_h r_A r_O r_H r_b r_x r_c r_m r_s r_z r_i r_v im be bg tx 0 (-1) cl, cJar cJ r_A 4 f_A, cIar cI r_b 400 f_b, cIar cI r_c 12 f_c, cIar cI r_m 12 f_m, cIar cI r_n 69 f_n, cIar cI r_x 100 f_x]) 0 13 hiX9 tyX9_ok nmX9 k_678 dX9_read_7 rfl rfl (by decide) (by decide) rfl rfl (Nat.le_of_ble_eq_true rfl) rfl ?_
  refine j_aload_n X (q := 0) dX9_read_10 rfl ?_
  refine j_iconst X (v := 0) dX9_read_11 (by decide) ?_
  refine j_put X (ws2 := [cMod r_ r_n r_o r_h r_A r_O r_H r_b r_x r_c r_m r_s r_z r_i r_v im be bg tx 0 (-1) 0, cJar cJ r_A 4 f_A, cIar cI r_b 400 f_b, cIar cI r_c 12 f_c, cIar cI r_m 12 f_m, cIar cI r_n 69 f_n, cIar cI r_x 100 f_x]) 0 14 hiX9 tyX9_ok nmX9 k_679 dX9_read_12 rfl rfl (by decide) (by decide) rfl rfl (Nat.le_of_ble_eq_true rfl) rfl ?_
  refine j_aload_n X (q := 0) dX9_read_15 rfl ?_
  obtain ⟨ov1, hov1, hR⟩ := bd_some hR
  refine j_callV X (As := []) (rest := []) (ws2 := [cMod r_ r_n r_o r_h r_A r_O r_H r_b r_x r_c r_m r_s r_z r_i r_v im be bg tx ov1.1 ov1.2.1 ov1.2.2.1, cJar cJ r_A 4 f_A, cIar cI r_b 400 f_b, cIar cI r_c 12 ov1.2.2.2.1, cIar cI r_m 12 ov1.2.2.2.2, cIar cI r_n 69 f_n, cIar cI r_x 100 f_x]) (q0 := 0) (ci := 9) (mX9_reads l D cI cJ cB cT tt r_ r_n r_o r_h r_A r_O r_H r_b r_x r_c r_m r_s r_z r_i r_v hov1) [0, 3, 4, 6] [.inr 0, .inl 1, .inl 2, .inr 1, .inr 2, .inl 5, .inr 3] k_807 k_804 k_806 k_25 rfl rfl k_47 hdX9_reads (by decide) (Nat.le_of_ble_eq_true rfl) dX9_read_16 (by decide) rfl rfl (by decide) rfl rfl ?_
  exact L_19 _ _ _ _ _ _ _ _ _ _ _ _ hR

def rmX9_pours : Room := { frames := 0, cells := 0, slots := 0, locals := 0 }
theorem hdX9_pours : yX9_pours.cls ≠ "java/lang/invoke/MethodHandle" ∧ yX9_pours.cls ≠ "java/lang/invoke/VarHandle" ∧ (parseMethodDescriptor yX9_pours.desc).map (fun d => d.parameters.length) = some 2 := by decide +kernel
def fX9_pours_2 (f_1 : Nat → Int32) : Nat → Int32 → (Nat → Int32) → Option ((Nat → Int32))
  | 0, _, _ => none
  | fu + 1, x2, f_2 =>
    if (69 : Int32) ≤ x2 then (some f_2) else (gd (inb x2 69) (gd (inb x2 69) (lt' (upd f_2 x2.toNatClampNeg (f_1 x2.toNatClampNeg)) fun f_2v4 =>
  lt' (x2 + 1) fun x2v5 =>
  fX9_pours_2 f_1 fu x2v5 f_2v4)))
def fX9_pours (f_1 : Nat → Int32) (f_2 : Nat → Int32) : Option ((Nat → Int32)) :=
  fX9_pours_2 f_1 500 0 f_2
set_option maxHeartbeats 8000000 in
set_option maxRecDepth 100000 in
theorem mX9_pours (l : Launch) (D : va_G) (cI cJ cB cT : ClassId) (tt : Nat → Nat) (r_1 r_2 : Nat)  {f_1 : Nat → Int32} {f_2 : Nat → Int32} {out : (Nat → Int32)} (h : fX9_pours f_1 f_2 = some out) :
    jM l yX9_pours (.code yX9_pours cX9_pours 3 none) rmX9_pours D (wTy cI cJ cB cT) tt [.ref r_1, .ref r_2] [cIar cI r_1 69 f_1, cIar cI r_2 69 f_2] (none) [cIar cI r_1 69 f_1, cIar cI r_2 69 out] := by
  refine jM.of (by decide) (Nat.le_of_ble_eq_true rfl) ?_
  intro p e s m below meth c A X hr
  have L_2 : ∀ (fuel : Nat) (x2 : Int32) (f_2 : Nat → Int32), fX9_pours_2 f_1  fuel x2 f_2 = some out → jW p l e rmX9_pours s m ([.ref r_1, .ref r_2] : List Value).toArray below meth c D A 3 (MQ below (jQ D (none) [cIar cI r_1 69 f_1, cIar cI r_2 69 out] A) ([.ref r_1, .ref r_2] : List Value).toArray s 0 0 A) 0 0 2 [(0, .ref r_1), (1, .ref r_2), (2, .int x2)] [] [cIar cI r_1 69 f_1, cIar cI r_2 69 f_2] := by
    intro  fuel
    induction fuel with
    | zero =>
      intro x2 f_2 hR
      rw [fX9_pours_2] at hR
      cases hR
    | succ fu ih =>
      intro x2 f_2 hR
      rw [fX9_pours_2] at hR
      refine j_iload_n X (q := 2) dX9_pours_2 rfl ?_
      refine j_bipush X (v := 69) dX9_pours_3 (by decide) ?_
      refine j_icmp_ge X (tgt := 20) dX9_pours_5 (by decide) (fun cv1 => ?_) (fun cv1 => ?_)
      · replace hR := (if_pos cv1).symm.trans hR
        have hR := Option.some.inj hR
        exact j_vret X hr dX9_pours_20 rfl (by rw [← hR])
      · replace hR := (if_neg cv1).symm.trans hR
        refine j_aload_n X (q := 1) dX9_pours_8 rfl ?_
        refine j_iload_n X (q := 2) dX9_pours_9 rfl ?_
        refine j_aload_n X (q := 0) dX9_pours_10 rfl ?_
        refine j_iload_n X (q := 2) dX9_pours_11 rfl ?_
        obtain ⟨gv2, hR⟩ := gd_some hR
        refine j_iald X 0 0 rfl dX9_pours_12 rfl rfl gv2 ?_
        obtain ⟨gv3, hR⟩ := gd_some hR
        obtain ⟨f_2v4, ef_2v4, hR⟩ := lt_some hR
        refine j_iast X (ws2 := [cIar cI r_1 69 f_1, cIar cI r_2 69 f_2v4]) 1 0 rfl dX9_pours_13 rfl rfl gv3 ef_2v4 rfl ?_
        obtain ⟨x2v5, ex2v5, hR⟩ := lt_some hR
        refine j_iinc X (k := 2) (v := x2v5) (lv2 := [(2, .int x2v5), (0, .ref r_1), (1, .ref r_2)]) dX9_pours_14 rfl (by rw [← ex2v5]; rfl) (by decide) rfl ?_
        refine j_goto X (tgt := 2) dX9_pours_17 (by decide) ?_
        refine j_sub (lv2 := [(0, .ref r_1), (1, .ref r_2), (2, .int x2v5)]) [1, 2, 0] rfl ?_
        exact ih _ _ hR
  refine j_sub (lv2 := [(0, .ref r_1), (1, .ref r_2)]) [0, 1] rfl ?_
  have hR := h
  unfold fX9_pours at hR
  refine j_iconst X (v := 0) dX9_pours_0 (by decide) ?_
  refine j_istore_n X (lv2 := [(2, .int 0), (0, .ref r_1), (1, .ref r_2)]) dX9_pours_1 (by decide) rfl ?_
  refine j_sub (lv2 := [(0, .ref r_1), (1, .ref r_2), (2, .int 0)]) [1, 2, 0] rfl ?_
  exact L_2 _ _ _ hR

def rmX9_poursLongs : Room := { frames := 0, cells := 0, slots := 0, locals := 0 }
theorem hdX9_poursLongs : yX9_poursLongs.cls ≠ "java/lang/invoke/MethodHandle" ∧ yX9_poursLongs.cls ≠ "java/lang/invoke/VarHandle" ∧ (parseMethodDescriptor yX9_poursLongs.desc).map (fun d => d.parameters.length) = some 2 := by decide +kernel
def fX9_poursLongs_2 (f_1 : Nat → Int64) : Nat → Int32 → (Nat → Int64) → Option ((Nat → Int64))
  | 0, _, _ => none
  | fu + 1, x2, f_2 =>
    if (4 : Int32) ≤ x2 then (some f_2) else (gd (inb x2 4) (gd (inb x2 4) (lt' (vp_updL f_2 x2.toNatClampNeg (f_1 x2.toNatClampNeg)) fun f_2v4 =>
  lt' (x2 + 1) fun x2v5 =>
  fX9_poursLongs_2 f_1 fu x2v5 f_2v4)))
def fX9_poursLongs (f_1 : Nat → Int64) (f_2 : Nat → Int64) : Option ((Nat → Int64)) :=
  fX9_poursLongs_2 f_1 500 0 f_2
set_option maxHeartbeats 8000000 in
set_option maxRecDepth 100000 in
theorem mX9_poursLongs (l : Launch) (D : va_G) (cI cJ cB cT : ClassId) (tt : Nat → Nat) (r_1 r_2 : Nat)  {f_1 : Nat → Int64} {f_2 : Nat → Int64} {out : (Nat → Int64)} (h : fX9_poursLongs f_1 f_2 = some out) :
    jM l yX9_poursLongs (.code yX9_poursLongs cX9_poursLongs 3 none) rmX9_poursLongs D (wTy cI cJ cB cT) tt [.ref r_1, .ref r_2] [cJar cJ r_1 4 f_1, cJar cJ r_2 4 f_2] (none) [cJar cJ r_1 4 f_1, cJar cJ r_2 4 out] := by
  refine jM.of (by decide) (Nat.le_of_ble_eq_true rfl) ?_
  intro p e s m below meth c A X hr
  have L_2 : ∀ (fuel : Nat) (x2 : Int32) (f_2 : Nat → Int64), fX9_poursLongs_2 f_1  fuel x2 f_2 = some out → jW p l e rmX9_poursLongs s m ([.ref r_1, .ref r_2] : List Value).toArray below meth c D A 3 (MQ below (jQ D (none) [cJar cJ r_1 4 f_1, cJar cJ r_2 4 out] A) ([.ref r_1, .ref r_2] : List Value).toArray s 0 0 A) 0 0 2 [(0, .ref r_1), (1, .ref r_2), (2, .int x2)] [] [cJar cJ r_1 4 f_1, cJar cJ r_2 4 f_2] := by
    intro  fuel
    induction fuel with
    | zero =>
      intro x2 f_2 hR
      rw [fX9_poursLongs_2] at hR
      cases hR
    | succ fu ih =>
      intro x2 f_2 hR
      rw [fX9_poursLongs_2] at hR
      refine j_iload_n X (q := 2) dX9_poursLongs_2 rfl ?_
      refine j_iconst X (v := 4) dX9_poursLongs_3 (by decide) ?_
      refine j_icmp_ge X (tgt := 19) dX9_poursLongs_4 (by decide) (fun cv1 => ?_) (fun cv1 => ?_)
      · replace hR := (if_pos cv1).symm.trans hR
        have hR := Option.some.inj hR
        exact j_vret X hr dX9_poursLongs_19 rfl (by rw [← hR])
      · replace hR := (if_neg cv1).symm.trans hR
        refine j_aload_n X (q := 1) dX9_poursLongs_7 rfl ?_
        refine j_iload_n X (q := 2) dX9_poursLongs_8 rfl ?_
        refine j_aload_n X (q := 0) dX9_poursLongs_9 rfl ?_
        refine j_iload_n X (q := 2) dX9_poursLongs_10 rfl ?_
        obtain ⟨gv2, hR⟩ := gd_some hR
        refine j_lald X 0 1 rfl dX9_poursLongs_11 rfl rfl gv2 ?_
        obtain ⟨gv3, hR⟩ := gd_some hR
        obtain ⟨f_2v4, ef_2v4, hR⟩ := lt_some hR
        refine j_last X (ws2 := [cJar cJ r_1 4 f_1, cJar cJ r_2 4 f_2v4]) 1 1 rfl dX9_poursLongs_12 rfl rfl gv3 ef_2v4 rfl ?_
        obtain ⟨x2v5, ex2v5, hR⟩ := lt_some hR
        refine j_iinc X (k := 2) (v := x2v5) (lv2 := [(2, .int x2v5), (0, .ref r_1), (1, .ref r_2)]) dX9_poursLongs_13 rfl (by rw [← ex2v5]; rfl) (by decide) rfl ?_
        refine j_goto X (tgt := 2) dX9_poursLongs_16 (by decide) ?_
        refine j_sub (lv2 := [(0, .ref r_1), (1, .ref r_2), (2, .int x2v5)]) [1, 2, 0] rfl ?_
        exact ih _ _ hR
  refine j_sub (lv2 := [(0, .ref r_1), (1, .ref r_2)]) [0, 1] rfl ?_
  have hR := h
  unfold fX9_poursLongs at hR
  refine j_iconst X (v := 0) dX9_poursLongs_0 (by decide) ?_
  refine j_istore_n X (lv2 := [(2, .int 0), (0, .ref r_1), (1, .ref r_2)]) dX9_poursLongs_1 (by decide) rfl ?_
  refine j_sub (lv2 := [(0, .ref r_1), (1, .ref r_2), (2, .int 0)]) [1, 2, 0] rfl ?_
  exact L_2 _ _ _ hR

def rmX9_lays : Room := { frames := 1, cells := 0, slots := 0, locals := 22 }
theorem hdX9_lays : yX9_lays.cls ≠ "java/lang/invoke/MethodHandle" ∧ yX9_lays.cls ≠ "java/lang/invoke/VarHandle" ∧ (parseMethodDescriptor yX9_lays.desc).map (fun d => d.parameters.length) = some 0 := by decide +kernel
def fX9_lays (im : Int32) (be : Int32) (bg : Int32) (tx : Int32) (ta : Int32) (fa : Int32) (cl : Int32) (f_A : Nat → Int64) (f_H : Nat → Int64) (f_h : Nat → Int32) (f_n : Nat → Int32) : Option ((Nat → Int64) × (Nat → Int32)) :=
  (fX9_pours f_n f_h).bind fun ov1 =>
  (fX9_poursLongs f_A f_H).bind fun ov2 =>
  some (ov2, ov1)
set_option maxHeartbeats 8000000 in
set_option maxRecDepth 100000 in
theorem mX9_lays (l : Launch) (D : va_G) (cI cJ cB cT : ClassId) (tt : Nat → Nat) (r_ r_n r_o r_h r_A r_O r_H r_b r_x r_c r_m r_s r_z r_i r_v : Nat)  {im : Int32} {be : Int32} {bg : Int32} {tx : Int32} {ta : Int32} {fa : Int32} {cl : Int32} {f_A : Nat → Int64} {f_H : Nat → Int64} {f_h : Nat → Int32} {f_n : Nat → Int32} {out : (Nat → Int64) × (Nat → Int32)} (h : fX9_lays im be bg tx ta fa cl f_A f_H f_h f_n = some out) :
    jM l yX9_lays (.code yX9_lays cX9_lays 1 none) rmX9_lays D (wTy cI cJ cB cT) tt [.ref r_] [cMod r_ r_n r_o r_h r_A r_O r_H r_b r_x r_c r_m r_s r_z r_i r_v im be bg tx ta fa cl, cJar cJ r_A 4 f_A, cJar cJ r_H 4 f_H, cIar cI r_h 69 f_h, cIar cI r_n 69 f_n] (none) [cMod r_ r_n r_o r_h r_A r_O r_H r_b r_x r_c r_m r_s r_z r_i r_v im be bg tx ta fa cl, cJar cJ r_A 4 f_A, cJar cJ r_H 4 out.1, cIar cI r_h 69 out.2, cIar cI r_n 69 f_n] := by
  refine jM.of (by decide) (Nat.le_of_ble_eq_true rfl) ?_
  intro p e s m below meth c A X hr
  refine j_sub (lv2 := [(0, .ref r_)]) [0] rfl ?_
  have hR := h
  unfold fX9_lays at hR
  refine j_aload_n X (q := 0) dX9_lays_0 rfl ?_
  refine j_get X 0 0 hiX9 k_665 dX9_lays_1 rfl rfl (by decide) rfl ?_
  refine j_aload_n X (q := 0) dX9_lays_4 rfl ?_
  refine j_get X 0 2 hiX9 k_667 dX9_lays_5 rfl rfl (by decide) rfl ?_
  obtain ⟨ov1, hov1, hR⟩ := bd_some hR
  refine j_callS X (As := [.ref r_n, .ref r_h]) (rest := []) (ws2 := [cMod r_ r_n r_o r_h r_A r_O r_H r_b r_x r_c r_m r_s r_z r_i r_v im be bg tx ta fa cl, cJar cJ r_A 4 f_A, cJar cJ r_H 4 f_H, cIar cI r_h 69 ov1, cIar cI r_n 69 f_n]) (mX9_pours l D cI cJ cB cT tt r_n r_h hov1) [4, 3] [.inl 0, .inl 1, .inl 2, .inr 1, .inr 0] k_832 k_830 k_831 k_47 hdX9_pours (by decide) (Nat.le_of_ble_eq_true rfl) dX9_lays_8 (by decide) rfl rfl (by decide) rfl rfl ?_
  refine j_aload_n X (q := 0) dX9_lays_11 rfl ?_
  refine j_get X 0 4 hiX9 k_669 dX9_lays_12 rfl rfl (by decide) rfl ?_
  refine j_aload_n X (q := 0) dX9_lays_15 rfl ?_
  refine j_get X 0 6 hiX9 k_671 dX9_lays_16 rfl rfl (by decide) rfl ?_
  obtain ⟨ov2, hov2, hR⟩ := bd_some hR
  refine j_callS X (As := [.ref r_A, .ref r_H]) (rest := []) (ws2 := [cMod r_ r_n r_o r_h r_A r_O r_H r_b r_x r_c r_m r_s r_z r_i r_v im be bg tx ta fa cl, cJar cJ r_A 4 f_A, cJar cJ r_H 4 ov2, cIar cI r_h 69 ov1, cIar cI r_n 69 f_n]) (mX9_poursLongs l D cI cJ cB cT tt r_A r_H hov2) [1, 2] [.inl 0, .inr 0, .inr 1, .inl 3, .inl 4] k_835 k_833 k_834 k_47 hdX9_poursLongs (by decide) (Nat.le_of_ble_eq_true rfl) dX9_lays_19 (by decide) rfl rfl (by decide) rfl rfl ?_
  have hR := Option.some.inj hR
  exact j_vret X hr dX9_lays_22 rfl (by rw [← hR])

def rmX9_back : Room := { frames := 1, cells := 0, slots := 0, locals := 22 }
theorem hdX9_back : yX9_back.cls ≠ "java/lang/invoke/MethodHandle" ∧ yX9_back.cls ≠ "java/lang/invoke/VarHandle" ∧ (parseMethodDescriptor yX9_back.desc).map (fun d => d.parameters.length) = some 0 := by decide +kernel
def fX9_back (im : Int32) (be : Int32) (bg : Int32) (tx : Int32) (ta : Int32) (fa : Int32) (cl : Int32) (f_A : Nat → Int64) (f_H : Nat → Int64) (f_h : Nat → Int32) (f_n : Nat → Int32) : Option ((Nat → Int64) × (Nat → Int32)) :=
  (fX9_pours f_h f_n).bind fun ov1 =>
  (fX9_poursLongs f_H f_A).bind fun ov2 =>
  some (ov2, ov1)
set_option maxHeartbeats 8000000 in
set_option maxRecDepth 100000 in
theorem mX9_back (l : Launch) (D : va_G) (cI cJ cB cT : ClassId) (tt : Nat → Nat) (r_ r_n r_o r_h r_A r_O r_H r_b r_x r_c r_m r_s r_z r_i r_v : Nat)  {im : Int32} {be : Int32} {bg : Int32} {tx : Int32} {ta : Int32} {fa : Int32} {cl : Int32} {f_A : Nat → Int64} {f_H : Nat → Int64} {f_h : Nat → Int32} {f_n : Nat → Int32} {out : (Nat → Int64) × (Nat → Int32)} (h : fX9_back im be bg tx ta fa cl f_A f_H f_h f_n = some out) :
    jM l yX9_back (.code yX9_back cX9_back 1 none) rmX9_back D (wTy cI cJ cB cT) tt [.ref r_] [cMod r_ r_n r_o r_h r_A r_O r_H r_b r_x r_c r_m r_s r_z r_i r_v im be bg tx ta fa cl, cJar cJ r_A 4 f_A, cJar cJ r_H 4 f_H, cIar cI r_h 69 f_h, cIar cI r_n 69 f_n] (none) [cMod r_ r_n r_o r_h r_A r_O r_H r_b r_x r_c r_m r_s r_z r_i r_v im be bg tx ta fa cl, cJar cJ r_A 4 out.1, cJar cJ r_H 4 f_H, cIar cI r_h 69 f_h, cIar cI r_n 69 out.2] := by
  refine jM.of (by decide) (Nat.le_of_ble_eq_true rfl) ?_
  intro p e s m below meth c A X hr
  refine j_sub (lv2 := [(0, .ref r_)]) [0] rfl ?_
  have hR := h
  unfold fX9_back at hR
  refine j_aload_n X (q := 0) dX9_back_0 rfl ?_
  refine j_get X 0 2 hiX9 k_667 dX9_back_1 rfl rfl (by decide) rfl ?_
  refine j_aload_n X (q := 0) dX9_back_4 rfl ?_
  refine j_get X 0 0 hiX9 k_665 dX9_back_5 rfl rfl (by decide) rfl ?_
  obtain ⟨ov1, hov1, hR⟩ := bd_some hR
  refine j_callS X (As := [.ref r_h, .ref r_n]) (rest := []) (ws2 := [cMod r_ r_n r_o r_h r_A r_O r_H r_b r_x r_c r_m r_s r_z r_i r_v im be bg tx ta fa cl, cJar cJ r_A 4 f_A, cJar cJ r_H 4 f_H, cIar cI r_h 69 f_h, cIar cI r_n 69 ov1]) (mX9_pours l D cI cJ cB cT tt r_h r_n hov1) [3, 4] [.inl 0, .inl 1, .inl 2, .inr 0, .inr 1] k_832 k_830 k_831 k_47 hdX9_pours (by decide) (Nat.le_of_ble_eq_true rfl) dX9_back_8 (by decide) rfl rfl (by decide) rfl rfl ?_
  refine j_aload_n X (q := 0) dX9_back_11 rfl ?_
  refine j_get X 0 6 hiX9 k_671 dX9_back_12 rfl rfl (by decide) rfl ?_
  refine j_aload_n X (q := 0) dX9_back_15 rfl ?_
  refine j_get X 0 4 hiX9 k_669 dX9_back_16 rfl rfl (by decide) rfl ?_
  obtain ⟨ov2, hov2, hR⟩ := bd_some hR
  refine j_callS X (As := [.ref r_H, .ref r_A]) (rest := []) (ws2 := [cMod r_ r_n r_o r_h r_A r_O r_H r_b r_x r_c r_m r_s r_z r_i r_v im be bg tx ta fa cl, cJar cJ r_A 4 ov2, cJar cJ r_H 4 f_H, cIar cI r_h 69 f_h, cIar cI r_n 69 ov1]) (mX9_poursLongs l D cI cJ cB cT tt r_H r_A hov2) [2, 1] [.inl 0, .inr 1, .inr 0, .inl 3, .inl 4] k_835 k_833 k_834 k_47 hdX9_poursLongs (by decide) (Nat.le_of_ble_eq_true rfl) dX9_back_19 (by decide) rfl rfl (by decide) rfl rfl ?_
  have hR := Option.some.inj hR
  exact j_vret X hr dX9_back_22 rfl (by rw [← hR])

def rmX9_ahead : Room := { frames := 4, cells := 0, slots := 0, locals := 95 }
theorem hdX9_ahead : yX9_ahead.cls ≠ "java/lang/invoke/MethodHandle" ∧ yX9_ahead.cls ≠ "java/lang/invoke/VarHandle" ∧ (parseMethodDescriptor yX9_ahead.desc).map (fun d => d.parameters.length) = some 2 := by decide +kernel
def fX9_ahead (i1 : Int32) (i2 : Int32) (im : Int32) (be : Int32) (bg : Int32) (tx : Int32) (ta : Int32) (fa : Int32) (cl : Int32) (f_A : Nat → Int64) (f_H : Nat → Int64) (f_b : Nat → Int32) (f_h : Nat → Int32) (f_n : Nat → Int32) : Option (Int32 × Int32 × Int32 × (Nat → Int64) × (Nat → Int64) × (Nat → Int32) × (Nat → Int32) × (Nat → Int32)) :=
  (fX9_within i1 0 400).bind fun ov1 =>
  if ov1 = 0 then (some ((-1000), be, bg, f_A, f_H, f_b, f_h, f_n)) else ((fX9_within i2 0 5).bind fun ov3 =>
  if ov3 = 0 then (some ((-1000), be, bg, f_A, f_H, f_b, f_h, f_n)) else ((fX9_lays im be bg tx ta fa cl f_A f_H f_h f_n).bind fun ov5 =>
  (fX9_goes i1 im be bg tx ta fa cl f_A f_b f_n).bind fun ov6 =>
  if (2 : Int32) ≤ i2 then (if i2 = 2 then (lt' (ov6.2.2.2.2 5) fun x3v17 =>
  (fX9_back im ov6.1 ov6.2.1 tx ta fa cl ov6.2.2.1 ov5.1 ov5.2 ov6.2.2.2.2).bind fun ov18 =>
  some (x3v17, ov6.1, ov6.2.1, ov18.1, ov5.1, ov6.2.2.2.1, ov5.2, ov18.2)) else (if i2 = 3 then (lt' (ov6.2.2.2.2 9) fun x3v15 =>
  (fX9_back im ov6.1 ov6.2.1 tx ta fa cl ov6.2.2.1 ov5.1 ov5.2 ov6.2.2.2.2).bind fun ov16 =>
  some (x3v15, ov6.1, ov6.2.1, ov16.1, ov5.1, ov6.2.2.2.1, ov5.2, ov16.2)) else (if i2 = 4 then (lt' (ov6.2.2.2.2 10) fun x3v13 =>
  (fX9_back im ov6.1 ov6.2.1 tx ta fa cl ov6.2.2.1 ov5.1 ov5.2 ov6.2.2.2.2).bind fun ov14 =>
  some (x3v13, ov6.1, ov6.2.1, ov14.1, ov5.1, ov6.2.2.2.1, ov5.2, ov14.2)) else (lt' (ov6.2.2.2.2 7) fun x3v11 =>
  (fX9_back im ov6.1 ov6.2.1 tx ta fa cl ov6.2.2.1 ov5.1 ov5.2 ov6.2.2.2.2).bind fun ov12 =>
  some (x3v11, ov6.1, ov6.2.1, ov12.1, ov5.1, ov6.2.2.2.1, ov5.2, ov12.2))))) else (gd (inb i2 69) (lt' (ov6.2.2.2.2 i2.toNatClampNeg) fun x3v20 =>
  (fX9_back im ov6.1 ov6.2.1 tx ta fa cl ov6.2.2.1 ov5.1 ov5.2 ov6.2.2.2.2).bind fun ov21 =>
  some (x3v20, ov6.1, ov6.2.1, ov21.1, ov5.1, ov6.2.2.2.1, ov5.2, ov21.2)))))
set_option maxHeartbeats 8000000 in
set_option maxRecDepth 100000 in
theorem mX9_ahead (l : Launch) (D : va_G) (cI cJ cB cT : ClassId) (tt : Nat → Nat) (r_ r_n r_o r_h r_A r_O r_H r_b r_x r_c r_m r_s r_z r_i r_v : Nat) {i1 : Int32} {i2 : Int32} {im : Int32} {be : Int32} {bg : Int32} {tx : Int32} {ta : Int32} {fa : Int32} {cl : Int32} {f_A : Nat → Int64} {f_H : Nat → Int64} {f_b : Nat → Int32} {f_h : Nat → Int32} {f_n : Nat → Int32} {out : Int32 × Int32 × Int32 × (Nat → Int64) × (Nat → Int64) × (Nat → Int32) × (Nat → Int32) × (Nat → Int32)} (h : fX9_ahead i1 i2 im be bg tx ta fa cl f_A f_H f_b f_h f_n = some out) :
    jM l yX9_ahead (.code yX9_ahead cX9_ahead 4 (some .int)) rmX9_ahead D (wTy cI cJ cB cT) tt [.ref r_, .int i1, .int i2] [cMod r_ r_n r_o r_h r_A r_O r_H r_b r_x r_c r_m r_s r_z r_i r_v im be bg tx ta fa cl, cJar cJ r_A 4 f_A, cJar cJ r_H 4 f_H, cIar cI r_b 400 f_b, cIar cI r_h 69 f_h, cIar cI r_n 69 f_n] (some (.int out.1)) [cMod r_ r_n r_o r_h r_A r_O r_H r_b r_x r_c r_m r_s r_z r_i r_v im out.2.1 out.2.2.1 tx ta fa cl, cJar cJ r_A 4 out.2.2.2.1, cJar cJ r_H 4 out.2.2.2.2.1, cIar cI r_b 400 out.2.2.2.2.2.1, cIar cI r_h 69 out.2.2.2.2.2.2.1, cIar cI r_n 69 out.2.2.2.2.2.2.2] := by
  refine jM.of (by decide) (Nat.le_of_ble_eq_true rfl) ?_
  intro p e s m below meth c A X hr
  refine j_sub (lv2 := [(0, .ref r_), (1, .int i1), (2, .int i2)]) [0, 1, 2] rfl ?_
  have hR := h
  unfold fX9_ahead at hR
  refine j_iload_n X (q := 1) dX9_ahead_0 rfl ?_
  refine j_iconst X (v := 0) dX9_ahead_1 (by decide) ?_
  refine j_sipush X (v := 400) dX9_ahead_2 (by decide) ?_
  obtain ⟨ov1, hov1, hR⟩ := bd_some hR
  refine j_callS X (As := [.int i1, .int 0, .int 400]) (rest := []) (ws2 := [cMod r_ r_n r_o r_h r_A r_O r_H r_b r_x r_c r_m r_s r_z r_i r_v im be bg tx ta fa cl, cJar cJ r_A 4 f_A, cJar cJ r_H 4 f_H, cIar cI r_b 400 f_b, cIar cI r_h 69 f_h, cIar cI r_n 69 f_n]) (mX9_within l D cI cJ cB cT tt  hov1) [] [.inl 0, .inl 1, .inl 2, .inl 3, .inl 4, .inl 5] k_735 k_733 k_734 k_47 hdX9_within (by decide) (Nat.le_of_ble_eq_true rfl) dX9_ahead_5 (by decide) rfl rfl (by decide) rfl rfl ?_
  refine j_if_eq X (tgt := 20) dX9_ahead_8 (by decide) (fun cv2 => ?_) (fun cv2 => ?_)
  · replace hR := (if_pos cv2).symm.trans hR
    refine j_sipush X (v := (-1000)) dX9_ahead_20 (by decide) ?_
    have hR := Option.some.inj hR
    exact j_iret X hr dX9_ahead_23 (by rw [← hR]) (by rw [← hR])
  · replace hR := (if_neg cv2).symm.trans hR
    refine j_iload_n X (q := 2) dX9_ahead_11 rfl ?_
    refine j_iconst X (v := 0) dX9_ahead_12 (by decide) ?_
    refine j_iconst X (v := 5) dX9_ahead_13 (by decide) ?_
    obtain ⟨ov3, hov3, hR⟩ := bd_some hR
    refine j_callS X (As := [.int i2, .int 0, .int 5]) (rest := []) (ws2 := [cMod r_ r_n r_o r_h r_A r_O r_H r_b r_x r_c r_m r_s r_z r_i r_v im be bg tx ta fa cl, cJar cJ r_A 4 f_A, cJar cJ r_H 4 f_H, cIar cI r_b 400 f_b, cIar cI r_h 69 f_h, cIar cI r_n 69 f_n]) (mX9_within l D cI cJ cB cT tt  hov3) [] [.inl 0, .inl 1, .inl 2, .inl 3, .inl 4, .inl 5] k_735 k_733 k_734 k_47 hdX9_within (by decide) (Nat.le_of_ble_eq_true rfl) dX9_ahead_14 (by decide) rfl rfl (by decide) rfl rfl ?_
    refine j_if_ne X (tgt := 24) dX9_ahead_17 (by decide) (fun cv4 => ?_) (fun cv4 => ?_)
    · replace hR := (if_neg cv4).symm.trans hR
      refine j_aload_n X (q := 0) dX9_ahead_24 rfl ?_
      obtain ⟨ov5, hov5, hR⟩ := bd_some hR
      refine j_callV X (As := []) (rest := []) (ws2 := [cMod r_ r_n r_o r_h r_A r_O r_H r_b r_x r_c r_m r_s r_z r_i r_v im be bg tx ta fa cl, cJar cJ r_A 4 f_A, cJar cJ r_H 4 ov5.1, cIar cI r_b 400 f_b, cIar cI r_h 69 ov5.2, cIar cI r_n 69 f_n]) (q0 := 0) (ci := 9) (mX9_lays l D cI cJ cB cT tt r_ r_n r_o r_h r_A r_O r_H r_b r_x r_c r_m r_s r_z r_i r_v hov5) [0, 1, 2, 4, 5] [.inr 0, .inr 1, .inr 2, .inl 3, .inr 3, .inr 4] k_829 k_826 k_828 k_28 rfl rfl k_47 hdX9_lays (by decide) (Nat.le_of_ble_eq_true rfl) dX9_ahead_25 (by decide) rfl rfl (by decide) rfl rfl ?_
      refine j_aload_n X (q := 0) dX9_ahead_28 rfl ?_
      refine j_iload_n X (q := 1) dX9_ahead_29 rfl ?_
      obtain ⟨ov6, hov6, hR⟩ := bd_some hR
      refine j_callV X (As := [.int i1]) (rest := []) (ws2 := [cMod r_ r_n r_o r_h r_A r_O r_H r_b r_x r_c r_m r_s r_z r_i r_v im ov6.1 ov6.2.1 tx ta fa cl, cJar cJ r_A 4 ov6.2.2.1, cJar cJ r_H 4 ov5.1, cIar cI r_b 400 ov6.2.2.2.1, cIar cI r_h 69 ov5.2, cIar cI r_n 69 ov6.2.2.2.2]) (q0 := 0) (ci := 9) (mX9_goes l D cI cJ cB cT tt r_ r_n r_o r_h r_A r_O r_H r_b r_x r_c r_m r_s r_z r_i r_v hov6) [0, 1, 3, 5] [.inr 0, .inr 1, .inl 2, .inr 2, .inl 4, .inr 3] k_764 k_761 k_763 k_21 rfl rfl k_47 hdX9_goes (by decide) (Nat.le_of_ble_eq_true rfl) dX9_ahead_30 (by decide) rfl rfl (by decide) rfl rfl ?_
      refine j_iload_n X (q := 2) dX9_ahead_33 rfl ?_
      refine j_iconst X (v := 2) dX9_ahead_34 (by decide) ?_
      refine j_icmp_ge X (tgt := 47) dX9_ahead_35 (by decide) (fun cv7 => ?_) (fun cv7 => ?_)
      · replace hR := (if_pos cv7).symm.trans hR
        refine j_iload_n X (q := 2) dX9_ahead_47 rfl ?_
        refine j_iconst X (v := 2) dX9_ahead_48 (by decide) ?_
        refine j_icmp_ne X (tgt := 61) dX9_ahead_49 (by decide) (fun cv8 => ?_) (fun cv8 => ?_)
        · replace hR := (if_neg cv8).symm.trans hR
          refine j_iload_n X (q := 2) dX9_ahead_61 rfl ?_
          refine j_iconst X (v := 3) dX9_ahead_62 (by decide) ?_
          refine j_icmp_ne X (tgt := 76) dX9_ahead_63 (by decide) (fun cv9 => ?_) (fun cv9 => ?_)
          · replace hR := (if_neg cv9).symm.trans hR
            refine j_iload_n X (q := 2) dX9_ahead_76 rfl ?_
            refine j_iconst X (v := 4) dX9_ahead_77 (by decide) ?_
            refine j_icmp_ne X (tgt := 91) dX9_ahead_78 (by decide) (fun cv10 => ?_) (fun cv10 => ?_)
            · replace hR := (if_neg cv10).symm.trans hR
              refine j_aload_n X (q := 0) dX9_ahead_91 rfl ?_
              refine j_get X 0 0 hiX9 k_665 dX9_ahead_92 rfl rfl (by decide) rfl ?_
              refine j_bipush X (v := 7) dX9_ahead_95 (by decide) ?_
              refine j_iald X (k := 7) 5 0 rfl dX9_ahead_97 rfl rfl (by decide) ?_
              obtain ⟨x3v11, ex3v11, hR⟩ := lt_some hR
              refine j_eq (congrArg (fun z => Value.int z :: _) ex3v11) rfl ?_
              refine j_istore_n X (lv2 := [(3, .int x3v11), (0, .ref r_), (1, .int i1), (2, .int i2)]) dX9_ahead_98 (by decide) rfl ?_
              refine j_aload_n X (q := 1) dX9_ahead_99 rfl ?_
              obtain ⟨ov12, hov12, hR⟩ := bd_some hR
              refine j_callV X (As := []) (rest := []) (ws2 := [cMod r_ r_n r_o r_h r_A r_O r_H r_b r_x r_c r_m r_s r_z r_i r_v im ov6.1 ov6.2.1 tx ta fa cl, cJar cJ r_A 4 ov12.1, cJar cJ r_H 4 ov5.1, cIar cI r_b 400 ov6.2.2.2.1, cIar cI r_h 69 ov5.2, cIar cI r_n 69 ov12.2]) (q0 := 0) (ci := 9) (mX9_back l D cI cJ cB cT tt r_ r_n r_o r_h r_A r_O r_H r_b r_x r_c r_m r_s r_z r_i r_v hov12) [0, 1, 2, 4, 5] [.inr 0, .inr 1, .inr 2, .inl 3, .inr 3, .inr 4] k_839 k_836 k_838 k_29 rfl rfl k_47 hdX9_back (by decide) (Nat.le_of_ble_eq_true rfl) dX9_ahead_100 (by decide) rfl rfl (by decide) rfl rfl ?_
              refine j_iload_n X (q := 0) dX9_ahead_103 rfl ?_
              have hR := Option.some.inj hR
              exact j_iret X hr dX9_ahead_104 (by rw [← hR]) (by rw [← hR])
            · replace hR := (if_pos cv10).symm.trans hR
              refine j_aload_n X (q := 0) dX9_ahead_81 rfl ?_
              refine j_get X 0 0 hiX9 k_665 dX9_ahead_82 rfl rfl (by decide) rfl ?_
              refine j_bipush X (v := 10) dX9_ahead_85 (by decide) ?_
              refine j_iald X (k := 10) 5 0 rfl dX9_ahead_87 rfl rfl (by decide) ?_
              refine j_goto X (tgt := 98) dX9_ahead_88 (by decide) ?_
              obtain ⟨x3v13, ex3v13, hR⟩ := lt_some hR
              refine j_eq (congrArg (fun z => Value.int z :: _) ex3v13) rfl ?_
              refine j_istore_n X (lv2 := [(3, .int x3v13), (0, .ref r_), (1, .int i1), (2, .int i2)]) dX9_ahead_98 (by decide) rfl ?_
              refine j_aload_n X (q := 1) dX9_ahead_99 rfl ?_
              obtain ⟨ov14, hov14, hR⟩ := bd_some hR
              refine j_callV X (As := []) (rest := []) (ws2 := [cMod r_ r_n r_o r_h r_A r_O r_H r_b r_x r_c r_m r_s r_z r_i r_v im ov6.1 ov6.2.1 tx ta fa cl, cJar cJ r_A 4 ov14.1, cJar cJ r_H 4 ov5.1, cIar cI r_b 400 ov6.2.2.2.1, cIar cI r_h 69 ov5.2, cIar cI r_n 69 ov14.2]) (q0 := 0) (ci := 9) (mX9_back l D cI cJ cB cT tt r_ r_n r_o r_h r_A r_O r_H r_b r_x r_c r_m r_s r_z r_i r_v hov14) [0, 1, 2, 4, 5] [.inr 0, .inr 1, .inr 2, .inl 3, .inr 3, .inr 4] k_839 k_836 k_838 k_29 rfl rfl k_47 hdX9_back (by decide) (Nat.le_of_ble_eq_true rfl) dX9_ahead_100 (by decide) rfl rfl (by decide) rfl rfl ?_
              refine j_iload_n X (q := 0) dX9_ahead_103 rfl ?_
              have hR := Option.some.inj hR
              exact j_iret X hr dX9_ahead_104 (by rw [← hR]) (by rw [← hR])
          · replace hR := (if_pos cv9).symm.trans hR
            refine j_aload_n X (q := 0) dX9_ahead_66 rfl ?_
            refine j_get X 0 0 hiX9 k_665 dX9_ahead_67 rfl rfl (by decide) rfl ?_
            refine j_bipush X (v := 9) dX9_ahead_70 (by decide) ?_
            refine j_iald X (k := 9) 5 0 rfl dX9_ahead_72 rfl rfl (by decide) ?_
            refine j_goto X (tgt := 98) dX9_ahead_73 (by decide) ?_
            obtain ⟨x3v15, ex3v15, hR⟩ := lt_some hR
            refine j_eq (congrArg (fun z => Value.int z :: _) ex3v15) rfl ?_
            refine j_istore_n X (lv2 := [(3, .int x3v15), (0, .ref r_), (1, .int i1), (2, .int i2)]) dX9_ahead_98 (by decide) rfl ?_
            refine j_aload_n X (q := 1) dX9_ahead_99 rfl ?_
            obtain ⟨ov16, hov16, hR⟩ := bd_some hR
            refine j_callV X (As := []) (rest := []) (ws2 := [cMod r_ r_n r_o r_h r_A r_O r_H r_b r_x r_c r_m r_s r_z r_i r_v im ov6.1 ov6.2.1 tx ta fa cl, cJar cJ r_A 4 ov16.1, cJar cJ r_H 4 ov5.1, cIar cI r_b 400 ov6.2.2.2.1, cIar cI r_h 69 ov5.2, cIar cI r_n 69 ov16.2]) (q0 := 0) (ci := 9) (mX9_back l D cI cJ cB cT tt r_ r_n r_o r_h r_A r_O r_H r_b r_x r_c r_m r_s r_z r_i r_v hov16) [0, 1, 2, 4, 5] [.inr 0, .inr 1, .inr 2, .inl 3, .inr 3, .inr 4] k_839 k_836 k_838 k_29 rfl rfl k_47 hdX9_back (by decide) (Nat.le_of_ble_eq_true rfl) dX9_ahead_100 (by decide) rfl rfl (by decide) rfl rfl ?_
            refine j_iload_n X (q := 0) dX9_ahead_103 rfl ?_
            have hR := Option.some.inj hR
            exact j_iret X hr dX9_ahead_104 (by rw [← hR]) (by rw [← hR])
        · replace hR := (if_pos cv8).symm.trans hR
          refine j_aload_n X (q := 0) dX9_ahead_52 rfl ?_
          refine j_get X 0 0 hiX9 k_665 dX9_ahead_53 rfl rfl (by decide) rfl ?_
          refine j_iconst X (v := 5) dX9_ahead_56 (by decide) ?_
          refine j_iald X (k := 5) 5 0 rfl dX9_ahead_57 rfl rfl (by decide) ?_
          refine j_goto X (tgt := 98) dX9_ahead_58 (by decide) ?_
          obtain ⟨x3v17, ex3v17, hR⟩ := lt_some hR
          refine j_eq (congrArg (fun z => Value.int z :: _) ex3v17) rfl ?_
          refine j_istore_n X (lv2 := [(3, .int x3v17), (0, .ref r_), (1, .int i1), (2, .int i2)]) dX9_ahead_98 (by decide) rfl ?_
          refine j_aload_n X (q := 1) dX9_ahead_99 rfl ?_
          obtain ⟨ov18, hov18, hR⟩ := bd_some hR
          refine j_callV X (As := []) (rest := []) (ws2 := [cMod r_ r_n r_o r_h r_A r_O r_H r_b r_x r_c r_m r_s r_z r_i r_v im ov6.1 ov6.2.1 tx ta fa cl, cJar cJ r_A 4 ov18.1, cJar cJ r_H 4 ov5.1, cIar cI r_b 400 ov6.2.2.2.1, cIar cI r_h 69 ov5.2, cIar cI r_n 69 ov18.2]) (q0 := 0) (ci := 9) (mX9_back l D cI cJ cB cT tt r_ r_n r_o r_h r_A r_O r_H r_b r_x r_c r_m r_s r_z r_i r_v hov18) [0, 1, 2, 4, 5] [.inr 0, .inr 1, .inr 2, .inl 3, .inr 3, .inr 4] k_839 k_836 k_838 k_29 rfl rfl k_47 hdX9_back (by decide) (Nat.le_of_ble_eq_true rfl) dX9_ahead_100 (by decide) rfl rfl (by decide) rfl rfl ?_
          refine j_iload_n X (q := 0) dX9_ahead_103 rfl ?_
          have hR := Option.some.inj hR
          exact j_iret X hr dX9_ahead_104 (by rw [← hR]) (by rw [← hR])
      · replace hR := (if_neg cv7).symm.trans hR
        refine j_aload_n X (q := 0) dX9_ahead_38 rfl ?_
        refine j_get X 0 0 hiX9 k_665 dX9_ahead_39 rfl rfl (by decide) rfl ?_
        refine j_iload_n X (q := 2) dX9_ahead_42 rfl ?_
        obtain ⟨gv19, hR⟩ := gd_some hR
        refine j_iald X 5 0 rfl dX9_ahead_43 rfl rfl gv19 ?_
        refine j_goto X (tgt := 98) dX9_ahead_44 (by decide) ?_
        obtain ⟨x3v20, ex3v20, hR⟩ := lt_some hR
        refine j_eq (congrArg (fun z => Value.int z :: _) ex3v20) rfl ?_
        refine j_istore_n X (lv2 := [(3, .int x3v20), (0, .ref r_), (1, .int i1), (2, .int i2)]) dX9_ahead_98 (by decide) rfl ?_
        refine j_aload_n X (q := 1) dX9_ahead_99 rfl ?_
        obtain ⟨ov21, hov21, hR⟩ := bd_some hR
        refine j_callV X (As := []) (rest := []) (ws2 := [cMod r_ r_n r_o r_h r_A r_O r_H r_b r_x r_c r_m r_s r_z r_i r_v im ov6.1 ov6.2.1 tx ta fa cl, cJar cJ r_A 4 ov21.1, cJar cJ r_H 4 ov5.1, cIar cI r_b 400 ov6.2.2.2.1, cIar cI r_h 69 ov5.2, cIar cI r_n 69 ov21.2]) (q0 := 0) (ci := 9) (mX9_back l D cI cJ cB cT tt r_ r_n r_o r_h r_A r_O r_H r_b r_x r_c r_m r_s r_z r_i r_v hov21) [0, 1, 2, 4, 5] [.inr 0, .inr 1, .inr 2, .inl 3, .inr 3, .inr 4] k_839 k_836 k_838 k_29 rfl rfl k_47 hdX9_back (by decide) (Nat.le_of_ble_eq_true rfl) dX9_ahead_100 (by decide) rfl rfl (by decide) rfl rfl ?_
        refine j_iload_n X (q := 0) dX9_ahead_103 rfl ?_
        have hR := Option.some.inj hR
        exact j_iret X hr dX9_ahead_104 (by rw [← hR]) (by rw [← hR])
    · replace hR := (if_pos cv4).symm.trans hR
      refine j_sipush X (v := (-1000)) dX9_ahead_20 (by decide) ?_
      have hR := Option.some.inj hR
      exact j_iret X hr dX9_ahead_23 (by rw [← hR]) (by rw [← hR])

def rmX9_energyAt : Room := { frames := 4, cells := 0, slots := 0, locals := 95 }
theorem hdX9_energyAt : yX9_energyAt.cls ≠ "java/lang/invoke/MethodHandle" ∧ yX9_energyAt.cls ≠ "java/lang/invoke/VarHandle" ∧ (parseMethodDescriptor yX9_energyAt.desc).map (fun d => d.parameters.length) = some 1 := by decide +kernel
def fX9_energyAt (i1 : Int32) (im : Int32) (be : Int32) (bg : Int32) (tx : Int32) (ta : Int32) (fa : Int32) (cl : Int32) (f_A : Nat → Int64) (f_H : Nat → Int64) (f_b : Nat → Int32) (f_h : Nat → Int32) (f_n : Nat → Int32) : Option (Int64 × Int32 × Int32 × (Nat → Int64) × (Nat → Int64) × (Nat → Int32) × (Nat → Int32) × (Nat → Int32)) :=
  (fX9_within i1 0 400).bind fun ov1 =>
  if ov1 = 0 then (some ((-9223372036854775808), be, bg, f_A, f_H, f_b, f_h, f_n)) else ((fX9_lays im be bg tx ta fa cl f_A f_H f_h f_n).bind fun ov3 =>
  (fX9_goes i1 im be bg tx ta fa cl f_A f_b f_n).bind fun ov4 =>
  (fX9_energyNow im ov4.1 ov4.2.1 tx ta fa cl ov4.2.2.2.2).bind fun ov5 =>
  (fX9_back im ov4.1 ov4.2.1 tx ta fa cl ov4.2.2.1 ov3.1 ov3.2 ov4.2.2.2.2).bind fun ov6 =>
  some (ov5, ov4.1, ov4.2.1, ov6.1, ov3.1, ov4.2.2.2.1, ov3.2, ov6.2))
set_option maxHeartbeats 8000000 in
set_option maxRecDepth 100000 in
theorem mX9_energyAt (l : Launch) (D : va_G) (cI cJ cB cT : ClassId) (tt : Nat → Nat) (r_ r_n r_o r_h r_A r_O r_H r_b r_x r_c r_m r_s r_z r_i r_v : Nat) {i1 : Int32} {im : Int32} {be : Int32} {bg : Int32} {tx : Int32} {ta : Int32} {fa : Int32} {cl : Int32} {f_A : Nat → Int64} {f_H : Nat → Int64} {f_b : Nat → Int32} {f_h : Nat → Int32} {f_n : Nat → Int32} {out : Int64 × Int32 × Int32 × (Nat → Int64) × (Nat → Int64) × (Nat → Int32) × (Nat → Int32) × (Nat → Int32)} (h : fX9_energyAt i1 im be bg tx ta fa cl f_A f_H f_b f_h f_n = some out) :
    jM l yX9_energyAt (.code yX9_energyAt cX9_energyAt 4 (some .long)) rmX9_energyAt D (wTy cI cJ cB cT) tt [.ref r_, .int i1] [cMod r_ r_n r_o r_h r_A r_O r_H r_b r_x r_c r_m r_s r_z r_i r_v im be bg tx ta fa cl, cJar cJ r_A 4 f_A, cJar cJ r_H 4 f_H, cIar cI r_b 400 f_b, cIar cI r_h 69 f_h, cIar cI r_n 69 f_n] (some (.long out.1)) [cMod r_ r_n r_o r_h r_A r_O r_H r_b r_x r_c r_m r_s r_z r_i r_v im out.2.1 out.2.2.1 tx ta fa cl, cJar cJ r_A 4 out.2.2.2.1, cJar cJ r_H 4 out.2.2.2.2.1, cIar cI r_b 400 out.2.2.2.2.2.1, cIar cI r_h 69 out.2.2.2.2.2.2.1, cIar cI r_n 69 out.2.2.2.2.2.2.2] := by
  refine jM.of (by decide) (Nat.le_of_ble_eq_true rfl) ?_
  intro p e s m below meth c A X hr
  refine j_sub (lv2 := [(0, .ref r_), (1, .int i1)]) [0, 1] rfl ?_
  have hR := h
  unfold fX9_energyAt at hR
  refine j_iload_n X (q := 1) dX9_energyAt_0 rfl ?_
  refine j_iconst X (v := 0) dX9_energyAt_1 (by decide) ?_
  refine j_sipush X (v := 400) dX9_energyAt_2 (by decide) ?_
  obtain ⟨ov1, hov1, hR⟩ := bd_some hR
  refine j_callS X (As := [.int i1, .int 0, .int 400]) (rest := []) (ws2 := [cMod r_ r_n r_o r_h r_A r_O r_H r_b r_x r_c r_m r_s r_z r_i r_v im be bg tx ta fa cl, cJar cJ r_A 4 f_A, cJar cJ r_H 4 f_H, cIar cI r_b 400 f_b, cIar cI r_h 69 f_h, cIar cI r_n 69 f_n]) (mX9_within l D cI cJ cB cT tt  hov1) [] [.inl 0, .inl 1, .inl 2, .inl 3, .inl 4, .inl 5] k_735 k_733 k_734 k_47 hdX9_within (by decide) (Nat.le_of_ble_eq_true rfl) dX9_energyAt_5 (by decide) rfl rfl (by decide) rfl rfl ?_
  refine j_if_ne X (tgt := 15) dX9_energyAt_8 (by decide) (fun cv2 => ?_) (fun cv2 => ?_)
  · replace hR := (if_neg cv2).symm.trans hR
    refine j_aload_n X (q := 0) dX9_energyAt_15 rfl ?_
    obtain ⟨ov3, hov3, hR⟩ := bd_some hR
    refine j_callV X (As := []) (rest := []) (ws2 := [cMod r_ r_n r_o r_h r_A r_O r_H r_b r_x r_c r_m r_s r_z r_i r_v im be bg tx ta fa cl, cJar cJ r_A 4 f_A, cJar cJ r_H 4 ov3.1, cIar cI r_b 400 f_b, cIar cI r_h 69 ov3.2, cIar cI r_n 69 f_n]) (q0 := 0) (ci := 9) (mX9_lays l D cI cJ cB cT tt r_ r_n r_o r_h r_A r_O r_H r_b r_x r_c r_m r_s r_z r_i r_v hov3) [0, 1, 2, 4, 5] [.inr 0, .inr 1, .inr 2, .inl 3, .inr 3, .inr 4] k_829 k_826 k_828 k_28 rfl rfl k_47 hdX9_lays (by decide) (Nat.le_of_ble_eq_true rfl) dX9_energyAt_16 (by decide) rfl rfl (by decide) rfl rfl ?_
    refine j_aload_n X (q := 0) dX9_energyAt_19 rfl ?_
    refine j_iload_n X (q := 1) dX9_energyAt_20 rfl ?_
    obtain ⟨ov4, hov4, hR⟩ := bd_some hR
    refine j_callV X (As := [.int i1]) (rest := []) (ws2 := [cMod r_ r_n r_o r_h r_A r_O r_H r_b r_x r_c r_m r_s r_z r_i r_v im ov4.1 ov4.2.1 tx ta fa cl, cJar cJ r_A 4 ov4.2.2.1, cJar cJ r_H 4 ov3.1, cIar cI r_b 400 ov4.2.2.2.1, cIar cI r_h 69 ov3.2, cIar cI r_n 69 ov4.2.2.2.2]) (q0 := 0) (ci := 9) (mX9_goes l D cI cJ cB cT tt r_ r_n r_o r_h r_A r_O r_H r_b r_x r_c r_m r_s r_z r_i r_v hov4) [0, 1, 3, 5] [.inr 0, .inr 1, .inl 2, .inr 2, .inl 4, .inr 3] k_764 k_761 k_763 k_21 rfl rfl k_47 hdX9_goes (by decide) (Nat.le_of_ble_eq_true rfl) dX9_energyAt_21 (by decide) rfl rfl (by decide) rfl rfl ?_
    refine j_aload_n X (q := 0) dX9_energyAt_24 rfl ?_
    obtain ⟨ov5, hov5, hR⟩ := bd_some hR
    refine j_callV X (As := []) (rest := []) (ws2 := [cMod r_ r_n r_o r_h r_A r_O r_H r_b r_x r_c r_m r_s r_z r_i r_v im ov4.1 ov4.2.1 tx ta fa cl, cJar cJ r_A 4 ov4.2.2.1, cJar cJ r_H 4 ov3.1, cIar cI r_b 400 ov4.2.2.2.1, cIar cI r_h 69 ov3.2, cIar cI r_n 69 ov4.2.2.2.2]) (q0 := 0) (ci := 9) (mX9_energyNow l D cI cJ cB cT tt r_ r_n r_o r_h r_A r_O r_H r_b r_x r_c r_m r_s r_z r_i r_v hov5) [0, 5] [.inr 0, .inl 1, .inl 2, .inl 3, .inl 4, .inr 1] k_742 k_739 k_741 k_20 rfl rfl k_47 hdX9_energyNow (by decide) (Nat.le_of_ble_eq_true rfl) dX9_energyAt_25 (by decide) rfl rfl (by decide) rfl rfl ?_
    refine j_lstore_n X (lv2 := [(2, .long ov5), (0, .ref r_), (1, .int i1)]) dX9_energyAt_28 (by decide) rfl ?_
    refine j_aload_n X (q := 1) dX9_energyAt_29 rfl ?_
    obtain ⟨ov6, hov6, hR⟩ := bd_some hR
    refine j_callV X (As := []) (rest := []) (ws2 := [cMod r_ r_n r_o r_h r_A r_O r_H r_b r_x r_c r_m r_s r_z r_i r_v im ov4.1 ov4.2.1 tx ta fa cl, cJar cJ r_A 4 ov6.1, cJar cJ r_H 4 ov3.1, cIar cI r_b 400 ov4.2.2.2.1, cIar cI r_h 69 ov3.2, cIar cI r_n 69 ov6.2]) (q0 := 0) (ci := 9) (mX9_back l D cI cJ cB cT tt r_ r_n r_o r_h r_A r_O r_H r_b r_x r_c r_m r_s r_z r_i r_v hov6) [0, 1, 2, 4, 5] [.inr 0, .inr 1, .inr 2, .inl 3, .inr 3, .inr 4] k_839 k_836 k_838 k_29 rfl rfl k_47 hdX9_back (by decide) (Nat.le_of_ble_eq_true rfl) dX9_energyAt_30 (by decide) rfl rfl (by decide) rfl rfl ?_
    refine j_lload_n X (q := 0) dX9_energyAt_33 rfl ?_
    have hR := Option.some.inj hR
    exact j_lret X hr dX9_energyAt_34 (by rw [← hR]) (by rw [← hR])
  · replace hR := (if_pos cv2).symm.trans hR
    refine j_ldc2 X k_787 dX9_energyAt_11 ?_
    have hR := Option.some.inj hR
    exact j_lret X hr dX9_energyAt_14 (by rw [← hR]) (by rw [← hR])

def rmX9_hears : Room := { frames := 4, cells := 0, slots := 0, locals := 95 }
theorem hdX9_hears : yX9_hears.cls ≠ "java/lang/invoke/MethodHandle" ∧ yX9_hears.cls ≠ "java/lang/invoke/VarHandle" ∧ (parseMethodDescriptor yX9_hears.desc).map (fun d => d.parameters.length) = some 2 := by decide +kernel
def fX9_hears (i1 : Int32) (i2 : Int32) (im : Int32) (be : Int32) (bg : Int32) (tx : Int32) (ta : Int32) (fa : Int32) (cl : Int32) (f_A : Nat → Int64) (f_H : Nat → Int64) (f_b : Nat → Int32) (f_h : Nat → Int32) (f_n : Nat → Int32) : Option (Int32 × Int32 × (Nat → Int64) × (Nat → Int64) × (Nat → Int32) × (Nat → Int32) × (Nat → Int32)) :=
  (fX9_lays im be bg tx ta fa cl f_A f_H f_h f_n).bind fun ov1 =>
  gd (inb i1 69) (lt' (upd f_n i1.toNatClampNeg i2) fun f_nv3 =>
  (fX9_goes 400 im be bg tx ta fa cl f_A f_b f_nv3).bind fun ov4 =>
  (fX9_back im ov4.1 ov4.2.1 tx ta fa cl ov4.2.2.1 ov1.1 ov1.2 ov4.2.2.2.2).bind fun ov5 =>
  some (ov4.1, ov4.2.1, ov5.1, ov1.1, ov4.2.2.2.1, ov1.2, ov5.2))
set_option maxHeartbeats 8000000 in
set_option maxRecDepth 100000 in
theorem mX9_hears (l : Launch) (D : va_G) (cI cJ cB cT : ClassId) (tt : Nat → Nat) (r_ r_n r_o r_h r_A r_O r_H r_b r_x r_c r_m r_s r_z r_i r_v : Nat) {i1 : Int32} {i2 : Int32} {im : Int32} {be : Int32} {bg : Int32} {tx : Int32} {ta : Int32} {fa : Int32} {cl : Int32} {f_A : Nat → Int64} {f_H : Nat → Int64} {f_b : Nat → Int32} {f_h : Nat → Int32} {f_n : Nat → Int32} {out : Int32 × Int32 × (Nat → Int64) × (Nat → Int64) × (Nat → Int32) × (Nat → Int32) × (Nat → Int32)} (h : fX9_hears i1 i2 im be bg tx ta fa cl f_A f_H f_b f_h f_n = some out) :
    jM l yX9_hears (.code yX9_hears cX9_hears 3 none) rmX9_hears D (wTy cI cJ cB cT) tt [.ref r_, .int i1, .int i2] [cMod r_ r_n r_o r_h r_A r_O r_H r_b r_x r_c r_m r_s r_z r_i r_v im be bg tx ta fa cl, cJar cJ r_A 4 f_A, cJar cJ r_H 4 f_H, cIar cI r_b 400 f_b, cIar cI r_h 69 f_h, cIar cI r_n 69 f_n] (none) [cMod r_ r_n r_o r_h r_A r_O r_H r_b r_x r_c r_m r_s r_z r_i r_v im out.1 out.2.1 tx ta fa cl, cJar cJ r_A 4 out.2.2.1, cJar cJ r_H 4 out.2.2.2.1, cIar cI r_b 400 out.2.2.2.2.1, cIar cI r_h 69 out.2.2.2.2.2.1, cIar cI r_n 69 out.2.2.2.2.2.2] := by
  refine jM.of (by decide) (Nat.le_of_ble_eq_true rfl) ?_
  intro p e s m below meth c A X hr
  refine j_sub (lv2 := [(0, .ref r_), (1, .int i1), (2, .int i2)]) [0, 1, 2] rfl ?_
  have hR := h
  unfold fX9_hears at hR
  refine j_aload_n X (q := 0) dX9_hears_0 rfl ?_
  obtain ⟨ov1, hov1, hR⟩ := bd_some hR
  refine j_callV X (As := []) (rest := []) (ws2 := [cMod r_ r_n r_o r_h r_A r_O r_H r_b r_x r_c r_m r_s r_z r_i r_v im be bg tx ta fa cl, cJar cJ r_A 4 f_A, cJar cJ r_H 4 ov1.1, cIar cI r_b 400 f_b, cIar cI r_h 69 ov1.2, cIar cI r_n 69 f_n]) (q0 := 0) (ci := 9) (mX9_lays l D cI cJ cB cT tt r_ r_n r_o r_h r_A r_O r_H r_b r_x r_c r_m r_s r_z r_i r_v hov1) [0, 1, 2, 4, 5] [.inr 0, .inr 1, .inr 2, .inl 3, .inr 3, .inr 4] k_829 k_826 k_828 k_28 rfl rfl k_47 hdX9_lays (by decide) (Nat.le_of_ble_eq_true rfl) dX9_hears_1 (by decide) rfl rfl (by decide) rfl rfl ?_
  refine j_aload_n X (q := 0) dX9_hears_4 rfl ?_
  refine j_get X 0 0 hiX9 k_665 dX9_hears_5 rfl rfl (by decide) rfl ?_
  refine j_iload_n X (q := 1) dX9_hears_8 rfl ?_
  refine j_iload_n X (q := 2) dX9_hears_9 rfl ?_
  obtain ⟨gv2, hR⟩ := gd_some hR
  obtain ⟨f_nv3, ef_nv3, hR⟩ := lt_some hR
  refine j_iast X (ws2 := [cMod r_ r_n r_o r_h r_A r_O r_H r_b r_x r_c r_m r_s r_z r_i r_v im be bg tx ta fa cl, cJar cJ r_A 4 f_A, cJar cJ r_H 4 ov1.1, cIar cI r_b 400 f_b, cIar cI r_h 69 ov1.2, cIar cI r_n 69 f_nv3]) 5 0 rfl dX9_hears_10 rfl rfl gv2 ef_nv3 rfl ?_
  refine j_aload_n X (q := 0) dX9_hears_11 rfl ?_
  refine j_sipush X (v := 400) dX9_hears_12 (by decide) ?_
  obtain ⟨ov4, hov4, hR⟩ := bd_some hR
  refine j_callV X (As := [.int 400]) (rest := []) (ws2 := [cMod r_ r_n r_o r_h r_A r_O r_H r_b r_x r_c r_m r_s r_z r_i r_v im ov4.1 ov4.2.1 tx ta fa cl, cJar cJ r_A 4 ov4.2.2.1, cJar cJ r_H 4 ov1.1, cIar cI r_b 400 ov4.2.2.2.1, cIar cI r_h 69 ov1.2, cIar cI r_n 69 ov4.2.2.2.2]) (q0 := 0) (ci := 9) (mX9_goes l D cI cJ cB cT tt r_ r_n r_o r_h r_A r_O r_H r_b r_x r_c r_m r_s r_z r_i r_v hov4) [0, 1, 3, 5] [.inr 0, .inr 1, .inl 2, .inr 2, .inl 4, .inr 3] k_764 k_761 k_763 k_21 rfl rfl k_47 hdX9_goes (by decide) (Nat.le_of_ble_eq_true rfl) dX9_hears_15 (by decide) rfl rfl (by decide) rfl rfl ?_
  refine j_aload_n X (q := 0) dX9_hears_18 rfl ?_
  obtain ⟨ov5, hov5, hR⟩ := bd_some hR
  refine j_callV X (As := []) (rest := []) (ws2 := [cMod r_ r_n r_o r_h r_A r_O r_H r_b r_x r_c r_m r_s r_z r_i r_v im ov4.1 ov4.2.1 tx ta fa cl, cJar cJ r_A 4 ov5.1, cJar cJ r_H 4 ov1.1, cIar cI r_b 400 ov4.2.2.2.1, cIar cI r_h 69 ov1.2, cIar cI r_n 69 ov5.2]) (q0 := 0) (ci := 9) (mX9_back l D cI cJ cB cT tt r_ r_n r_o r_h r_A r_O r_H r_b r_x r_c r_m r_s r_z r_i r_v hov5) [0, 1, 2, 4, 5] [.inr 0, .inr 1, .inr 2, .inl 3, .inr 3, .inr 4] k_839 k_836 k_838 k_29 rfl rfl k_47 hdX9_back (by decide) (Nat.le_of_ble_eq_true rfl) dX9_hears_19 (by decide) rfl rfl (by decide) rfl rfl ?_
  have hR := Option.some.inj hR
  exact j_vret X hr dX9_hears_22 rfl (by rw [← hR])

def rmX9_hears_ : Room := { frames := 5, cells := 0, slots := 0, locals := 117 }
theorem hdX9_hears_ : yX9_hears_.cls ≠ "java/lang/invoke/MethodHandle" ∧ yX9_hears_.cls ≠ "java/lang/invoke/VarHandle" ∧ (parseMethodDescriptor yX9_hears_.desc).map (fun d => d.parameters.length) = some 0 := by decide +kernel
def fX9_hears_ (im : Int32) (be : Int32) (bg : Int32) (tx : Int32) (ta : Int32) (fa : Int32) (cl : Int32) (f_A : Nat → Int64) (f_H : Nat → Int64) (f_b : Nat → Int32) (f_h : Nat → Int32) (f_n : Nat → Int32) : Option (Int32 × Int32 × (Nat → Int64) × (Nat → Int64) × (Nat → Int32) × (Nat → Int32) × (Nat → Int32)) :=
  (fX9_hears 0 (f_n 0) im be bg tx ta fa cl f_A f_H f_b f_h f_n).bind fun ov1 =>
  some (ov1.1, ov1.2.1, ov1.2.2.1, ov1.2.2.2.1, ov1.2.2.2.2.1, ov1.2.2.2.2.2.1, ov1.2.2.2.2.2.2)
set_option maxHeartbeats 8000000 in
set_option maxRecDepth 100000 in
theorem mX9_hears_ (l : Launch) (D : va_G) (cI cJ cB cT : ClassId) (tt : Nat → Nat) (r_ r_n r_o r_h r_A r_O r_H r_b r_x r_c r_m r_s r_z r_i r_v : Nat)  {im : Int32} {be : Int32} {bg : Int32} {tx : Int32} {ta : Int32} {fa : Int32} {cl : Int32} {f_A : Nat → Int64} {f_H : Nat → Int64} {f_b : Nat → Int32} {f_h : Nat → Int32} {f_n : Nat → Int32} {out : Int32 × Int32 × (Nat → Int64) × (Nat → Int64) × (Nat → Int32) × (Nat → Int32) × (Nat → Int32)} (h : fX9_hears_ im be bg tx ta fa cl f_A f_H f_b f_h f_n = some out) :
    jM l yX9_hears_ (.code yX9_hears_ cX9_hears_ 1 none) rmX9_hears_ D (wTy cI cJ cB cT) tt [.ref r_] [cMod r_ r_n r_o r_h r_A r_O r_H r_b r_x r_c r_m r_s r_z r_i r_v im be bg tx ta fa cl, cJar cJ r_A 4 f_A, cJar cJ r_H 4 f_H, cIar cI r_b 400 f_b, cIar cI r_h 69 f_h, cIar cI r_n 69 f_n] (none) [cMod r_ r_n r_o r_h r_A r_O r_H r_b r_x r_c r_m r_s r_z r_i r_v im out.1 out.2.1 tx ta fa cl, cJar cJ r_A 4 out.2.2.1, cJar cJ r_H 4 out.2.2.2.1, cIar cI r_b 400 out.2.2.2.2.1, cIar cI r_h 69 out.2.2.2.2.2.1, cIar cI r_n 69 out.2.2.2.2.2.2] := by
  refine jM.of (by decide) (Nat.le_of_ble_eq_true rfl) ?_
  intro p e s m below meth c A X hr
  refine j_sub (lv2 := [(0, .ref r_)]) [0] rfl ?_
  have hR := h
  unfold fX9_hears_ at hR
  refine j_aload_n X (q := 0) dX9_hears__0 rfl ?_
  refine j_iconst X (v := 0) dX9_hears__1 (by decide) ?_
  refine j_aload_n X (q := 0) dX9_hears__2 rfl ?_
  refine j_get X 0 0 hiX9 k_665 dX9_hears__3 rfl rfl (by decide) rfl ?_
  refine j_iconst X (v := 0) dX9_hears__6 (by decide) ?_
  refine j_iald X (k := 0) 5 0 rfl dX9_hears__7 rfl rfl (by decide) ?_
  obtain ⟨ov1, hov1, hR⟩ := bd_some hR
  refine j_callV X (As := [.int 0, .int (f_n 0)]) (rest := []) (ws2 := [cMod r_ r_n r_o r_h r_A r_O r_H r_b r_x r_c r_m r_s r_z r_i r_v im ov1.1 ov1.2.1 tx ta fa cl, cJar cJ r_A 4 ov1.2.2.1, cJar cJ r_H 4 ov1.2.2.2.1, cIar cI r_b 400 ov1.2.2.2.2.1, cIar cI r_h 69 ov1.2.2.2.2.2.1, cIar cI r_n 69 ov1.2.2.2.2.2.2]) (q0 := 0) (ci := 9) (mX9_hears l D cI cJ cB cT tt r_ r_n r_o r_h r_A r_O r_H r_b r_x r_c r_m r_s r_z r_i r_v hov1) [0, 1, 2, 3, 4, 5] [.inr 0, .inr 1, .inr 2, .inr 3, .inr 4, .inr 5] k_855 k_852 k_854 k_31 rfl rfl k_47 hdX9_hears (by decide) (Nat.le_of_ble_eq_true rfl) dX9_hears__8 (by decide) rfl rfl (by decide) rfl rfl ?_
  have hR := Option.some.inj hR
  exact j_vret X hr dX9_hears__11 rfl (by rw [← hR])

def rmX9_heard : Room := { frames := 6, cells := 0, slots := 0, locals := 137 }
theorem hdX9_heard : yX9_heard.cls ≠ "java/lang/invoke/MethodHandle" ∧ yX9_heard.cls ≠ "java/lang/invoke/VarHandle" ∧ (parseMethodDescriptor yX9_heard.desc).map (fun d => d.parameters.length) = some 1 := by decide +kernel
def fX9_heard (i1 : Int32) (im : Int32) (be : Int32) (bg : Int32) (tx : Int32) (ta : Int32) (fa : Int32) (cl : Int32) (f_A : Nat → Int64) (f_H : Nat → Int64) (f_b : Nat → Int32) (f_h : Nat → Int32) (f_n : Nat → Int32) : Option (Int32 × Int32 × Int32 × (Nat → Int64) × (Nat → Int64) × (Nat → Int32) × (Nat → Int32) × (Nat → Int32)) :=
  if (0 : Int32) ≤ i1 then ((fX9_hears_ im be bg tx ta fa cl f_A f_H f_b f_h f_n).bind fun ov2 =>
  if ov2.1 ≤ i1 then (some ((-5), ov2.1, ov2.2.1, ov2.2.2.1, ov2.2.2.2.1, ov2.2.2.2.2.1, ov2.2.2.2.2.2.1, ov2.2.2.2.2.2.2)) else (gd (inb i1 400) (some (ov2.2.2.2.2.1 i1.toNatClampNeg, ov2.1, ov2.2.1, ov2.2.2.1, ov2.2.2.2.1, ov2.2.2.2.2.1, ov2.2.2.2.2.2.1, ov2.2.2.2.2.2.2)))) else (some ((-1), be, bg, f_A, f_H, f_b, f_h, f_n))
set_option maxHeartbeats 8000000 in
set_option maxRecDepth 100000 in
theorem mX9_heard (l : Launch) (D : va_G) (cI cJ cB cT : ClassId) (tt : Nat → Nat) (r_ r_n r_o r_h r_A r_O r_H r_b r_x r_c r_m r_s r_z r_i r_v : Nat) {i1 : Int32} {im : Int32} {be : Int32} {bg : Int32} {tx : Int32} {ta : Int32} {fa : Int32} {cl : Int32} {f_A : Nat → Int64} {f_H : Nat → Int64} {f_b : Nat → Int32} {f_h : Nat → Int32} {f_n : Nat → Int32} {out : Int32 × Int32 × Int32 × (Nat → Int64) × (Nat → Int64) × (Nat → Int32) × (Nat → Int32) × (Nat → Int32)} (h : fX9_heard i1 im be bg tx ta fa cl f_A f_H f_b f_h f_n = some out) :
    jM l yX9_heard (.code yX9_heard cX9_heard 2 (some .int)) rmX9_heard D (wTy cI cJ cB cT) tt [.ref r_, .int i1] [cMod r_ r_n r_o r_h r_A r_O r_H r_b r_x r_c r_m r_s r_z r_i r_v im be bg tx ta fa cl, cJar cJ r_A 4 f_A, cJar cJ r_H 4 f_H, cIar cI r_b 400 f_b, cIar cI r_h 69 f_h, cIar cI r_n 69 f_n] (some (.int out.1)) [cMod r_ r_n r_o r_h r_A r_O r_H r_b r_x r_c r_m r_s r_z r_i r_v im out.2.1 out.2.2.1 tx ta fa cl, cJar cJ r_A 4 out.2.2.2.1, cJar cJ r_H 4 out.2.2.2.2.1, cIar cI r_b 400 out.2.2.2.2.2.1, cIar cI r_h 69 out.2.2.2.2.2.2.1, cIar cI r_n 69 out.2.2.2.2.2.2.2] := by
  refine jM.of (by decide) (Nat.le_of_ble_eq_true rfl) ?_
  intro p e s m below meth c A X hr
  refine j_sub (lv2 := [(0, .ref r_), (1, .int i1)]) [0, 1] rfl ?_
  have hR := h
  unfold fX9_heard at hR
  refine j_iload_n X (q := 1) dX9_heard_0 rfl ?_
  refine j_if_ge X (tgt := 6) dX9_heard_1 (by decide) (fun cv1 => ?_) (fun cv1 => ?_)
  · replace hR := (if_pos cv1).symm.trans hR
    refine j_aload_n X (q := 0) dX9_heard_6 rfl ?_
    obtain ⟨ov2, hov2, hR⟩ := bd_some hR
    refine j_callV X (As := []) (rest := []) (ws2 := [cMod r_ r_n r_o r_h r_A r_O r_H r_b r_x r_c r_m r_s r_z r_i r_v im ov2.1 ov2.2.1 tx ta fa cl, cJar cJ r_A 4 ov2.2.2.1, cJar cJ r_H 4 ov2.2.2.2.1, cIar cI r_b 400 ov2.2.2.2.2.1, cIar cI r_h 69 ov2.2.2.2.2.2.1, cIar cI r_n 69 ov2.2.2.2.2.2.2]) (q0 := 0) (ci := 9) (mX9_hears_ l D cI cJ cB cT tt r_ r_n r_o r_h r_A r_O r_H r_b r_x r_c r_m r_s r_z r_i r_v hov2) [0, 1, 2, 3, 4, 5] [.inr 0, .inr 1, .inr 2, .inr 3, .inr 4, .inr 5] k_851 k_848 k_850 k_30 rfl rfl k_47 hdX9_hears_ (by decide) (Nat.le_of_ble_eq_true rfl) dX9_heard_7 (by decide) rfl rfl (by decide) rfl rfl ?_
    refine j_iload_n X (q := 1) dX9_heard_10 rfl ?_
    refine j_aload_n X (q := 0) dX9_heard_11 rfl ?_
    refine j_get X 0 7 hiX9 k_672 dX9_heard_12 rfl rfl (by decide) rfl ?_
    refine j_icmp_ge X (tgt := 27) dX9_heard_15 (by decide) (fun cv3 => ?_) (fun cv3 => ?_)
    · replace hR := (if_pos cv3).symm.trans hR
      refine j_bipush X (v := (-5)) dX9_heard_27 (by decide) ?_
      have hR := Option.some.inj hR
      exact j_iret X hr dX9_heard_29 (by rw [← hR]) (by rw [← hR])
    · replace hR := (if_neg cv3).symm.trans hR
      refine j_aload_n X (q := 0) dX9_heard_18 rfl ?_
      refine j_get X 0 9 hiX9 k_674 dX9_heard_19 rfl rfl (by decide) rfl ?_
      refine j_iload_n X (q := 1) dX9_heard_22 rfl ?_
      obtain ⟨gv4, hR⟩ := gd_some hR
      refine j_iald X 3 0 rfl dX9_heard_23 rfl rfl gv4 ?_
      refine j_goto X (tgt := 29) dX9_heard_24 (by decide) ?_
      have hR := Option.some.inj hR
      exact j_iret X hr dX9_heard_29 (by rw [← hR]) (by rw [← hR])
  · replace hR := (if_neg cv1).symm.trans hR
    refine j_iconst X (v := (-1)) dX9_heard_4 (by decide) ?_
    have hR := Option.some.inj hR
    exact j_iret X hr dX9_heard_5 (by rw [← hR]) (by rw [← hR])

def rmX9_gaps : Room := { frames := 1, cells := 0, slots := 0, locals := 13 }
theorem hdX9_gaps : yX9_gaps.cls ≠ "java/lang/invoke/MethodHandle" ∧ yX9_gaps.cls ≠ "java/lang/invoke/VarHandle" ∧ (parseMethodDescriptor yX9_gaps.desc).map (fun d => d.parameters.length) = some 0 := by decide +kernel
def fX9_gaps (im : Int32) (be : Int32) (bg : Int32) (tx : Int32) (ta : Int32) (fa : Int32) (cl : Int32) : Option (Int32) :=
  lt' (be - 1) fun uv1 =>
  some (if (0 : Int32) < uv1 then uv1 else 0)
set_option maxHeartbeats 8000000 in
set_option maxRecDepth 100000 in
theorem mX9_gaps (l : Launch) (D : va_G) (cI cJ cB cT : ClassId) (tt : Nat → Nat) (r_ r_n r_o r_h r_A r_O r_H r_b r_x r_c r_m r_s r_z r_i r_v : Nat)  {im : Int32} {be : Int32} {bg : Int32} {tx : Int32} {ta : Int32} {fa : Int32} {cl : Int32} {out : Int32} (h : fX9_gaps im be bg tx ta fa cl = some out) :
    jM l yX9_gaps (.code yX9_gaps cX9_gaps 1 (some .int)) rmX9_gaps D (wTy cI cJ cB cT) tt [.ref r_] [cMod r_ r_n r_o r_h r_A r_O r_H r_b r_x r_c r_m r_s r_z r_i r_v im be bg tx ta fa cl] (some (.int out)) [cMod r_ r_n r_o r_h r_A r_O r_H r_b r_x r_c r_m r_s r_z r_i r_v im be bg tx ta fa cl] := by
  refine jM.of (by decide) (Nat.le_of_ble_eq_true rfl) ?_
  intro p e s m below meth c A X hr
  refine j_sub (lv2 := [(0, .ref r_)]) [0] rfl ?_
  have hR := h
  unfold fX9_gaps at hR
  refine j_iconst X (v := 0) dX9_gaps_0 (by decide) ?_
  refine j_aload_n X (q := 0) dX9_gaps_1 rfl ?_
  refine j_get X 0 7 hiX9 k_672 dX9_gaps_2 rfl rfl (by decide) rfl ?_
  refine j_iconst X (v := 1) dX9_gaps_5 (by decide) ?_
  refine j_isub X dX9_gaps_6 ?_
  obtain ⟨uv1, euv1, hR⟩ := lt_some hR
  refine j_eq (congrArg (fun z => Value.int z :: _) euv1) rfl ?_
  refine j_mmax X k_774 k_365 k_48 k_366 ⟨by decide, Nat.le_of_ble_eq_true rfl, Nat.zero_le _, Nat.zero_le _⟩ dX9_gaps_7 ?_
  have hR := Option.some.inj hR
  exact j_iret X hr dX9_gaps_10 (by rw [← hR]) rfl

def rmX9_gapOf : Room := { frames := 0, cells := 0, slots := 0, locals := 0 }
theorem hdX9_gapOf : yX9_gapOf.cls ≠ "java/lang/invoke/MethodHandle" ∧ yX9_gapOf.cls ≠ "java/lang/invoke/VarHandle" ∧ (parseMethodDescriptor yX9_gapOf.desc).map (fun d => d.parameters.length) = some 1 := by decide +kernel
def fX9_gapOf (i1 : Int32) (im : Int32) (be : Int32) (bg : Int32) (tx : Int32) (ta : Int32) (fa : Int32) (cl : Int32) (f_b : Nat → Int32) : Option (Int32) :=
  gd (inb (i1 + 1) 400) (gd (inb i1 400) (some ((f_b (i1 + 1).toNatClampNeg) - (f_b i1.toNatClampNeg))))
set_option maxHeartbeats 8000000 in
set_option maxRecDepth 100000 in
theorem mX9_gapOf (l : Launch) (D : va_G) (cI cJ cB cT : ClassId) (tt : Nat → Nat) (r_ r_n r_o r_h r_A r_O r_H r_b r_x r_c r_m r_s r_z r_i r_v : Nat) {i1 : Int32} {im : Int32} {be : Int32} {bg : Int32} {tx : Int32} {ta : Int32} {fa : Int32} {cl : Int32} {f_b : Nat → Int32} {out : Int32} (h : fX9_gapOf i1 im be bg tx ta fa cl f_b = some out) :
    jM l yX9_gapOf (.code yX9_gapOf cX9_gapOf 2 (some .int)) rmX9_gapOf D (wTy cI cJ cB cT) tt [.ref r_, .int i1] [cMod r_ r_n r_o r_h r_A r_O r_H r_b r_x r_c r_m r_s r_z r_i r_v im be bg tx ta fa cl, cIar cI r_b 400 f_b] (some (.int out)) [cMod r_ r_n r_o r_h r_A r_O r_H r_b r_x r_c r_m r_s r_z r_i r_v im be bg tx ta fa cl, cIar cI r_b 400 f_b] := by
  refine jM.of (by decide) (Nat.le_of_ble_eq_true rfl) ?_
  intro p e s m below meth c A X hr
  refine j_sub (lv2 := [(0, .ref r_), (1, .int i1)]) [0, 1] rfl ?_
  have hR := h
  unfold fX9_gapOf at hR
  refine j_aload_n X (q := 0) dX9_gapOf_0 rfl ?_
  refine j_get X 0 9 hiX9 k_674 dX9_gapOf_1 rfl rfl (by decide) rfl ?_
  refine j_iload_n X (q := 1) dX9_gapOf_4 rfl ?_
  refine j_iconst X (v := 1) dX9_gapOf_5 (by decide) ?_
  refine j_iadd X dX9_gapOf_6 ?_
  obtain ⟨gv1, hR⟩ := gd_some hR
  refine j_iald X 1 0 rfl dX9_gapOf_7 rfl rfl gv1 ?_
  refine j_aload_n X (q := 0) dX9_gapOf_8 rfl ?_
  refine j_get X 0 9 hiX9 k_674 dX9_gapOf_9 rfl rfl (by decide) rfl ?_
  refine j_iload_n X (q := 1) dX9_gapOf_12 rfl ?_
  obtain ⟨gv2, hR⟩ := gd_some hR
  refine j_iald X 1 0 rfl dX9_gapOf_13 rfl rfl gv2 ?_
  refine j_isub X dX9_gapOf_14 ?_
  have hR := Option.some.inj hR
  exact j_iret X hr dX9_gapOf_15 (by rw [← hR]) rfl

def rmX9_uneven : Room := { frames := 2, cells := 0, slots := 0, locals := 33 }
theorem hdX9_uneven : yX9_uneven.cls ≠ "java/lang/invoke/MethodHandle" ∧ yX9_uneven.cls ≠ "java/lang/invoke/VarHandle" ∧ (parseMethodDescriptor yX9_uneven.desc).map (fun d => d.parameters.length) = some 0 := by decide +kernel
def fX9_uneven_4 (im : Int32) (be : Int32) (bg : Int32) (tx : Int32) (ta : Int32) (fa : Int32) (cl : Int32) (f_b : Nat → Int32) : Nat → Int32 → Int32 → Option (Int32)
  | 0, _, _ => none
  | fu + 1, x1, x2 =>
    (fX9_gaps im be bg tx ta fa cl).bind fun ov1 =>
  if ov1 ≤ (x2 + 1) then (some x1) else ((fX9_gapOf x2 im be bg tx ta fa cl f_b).bind fun ov3 =>
  (fX9_gapOf (x2 + 1) im be bg tx ta fa cl f_b).bind fun ov4 =>
  lt' (x1 + (ov3 - ov4)) fun x1v5 =>
  lt' (x2 + 2) fun x2v6 =>
  fX9_uneven_4 im be bg tx ta fa cl f_b fu x1v5 x2v6)
def fX9_uneven (im : Int32) (be : Int32) (bg : Int32) (tx : Int32) (ta : Int32) (fa : Int32) (cl : Int32) (f_b : Nat → Int32) : Option (Int32) :=
  fX9_uneven_4 im be bg tx ta fa cl f_b 500 0 0
set_option maxHeartbeats 8000000 in
set_option maxRecDepth 100000 in
theorem mX9_uneven (l : Launch) (D : va_G) (cI cJ cB cT : ClassId) (tt : Nat → Nat) (r_ r_n r_o r_h r_A r_O r_H r_b r_x r_c r_m r_s r_z r_i r_v : Nat)  {im : Int32} {be : Int32} {bg : Int32} {tx : Int32} {ta : Int32} {fa : Int32} {cl : Int32} {f_b : Nat → Int32} {out : Int32} (h : fX9_uneven im be bg tx ta fa cl f_b = some out) :
    jM l yX9_uneven (.code yX9_uneven cX9_uneven 3 (some .int)) rmX9_uneven D (wTy cI cJ cB cT) tt [.ref r_] [cMod r_ r_n r_o r_h r_A r_O r_H r_b r_x r_c r_m r_s r_z r_i r_v im be bg tx ta fa cl, cIar cI r_b 400 f_b] (some (.int out)) [cMod r_ r_n r_o r_h r_A r_O r_H r_b r_x r_c r_m r_s r_z r_i r_v im be bg tx ta fa cl, cIar cI r_b 400 f_b] := by
  refine jM.of (by decide) (Nat.le_of_ble_eq_true rfl) ?_
  intro p e s m below meth c A X hr
  have L_4 : ∀ (fuel : Nat) (x1 : Int32) (x2 : Int32), fX9_uneven_4 im be bg tx ta fa cl f_b  fuel x1 x2 = some out → jW p l e rmX9_uneven s m ([.ref r_] : List Value).toArray below meth c D A 3 (MQ below (jQ D (some (.int out)) [cMod r_ r_n r_o r_h r_A r_O r_H r_b r_x r_c r_m r_s r_z r_i r_v im be bg tx ta fa cl, cIar cI r_b 400 f_b] A) ([.ref r_] : List Value).toArray s 0 0 A) 0 0 4 [(0, .ref r_), (1, .int x1), (2, .int x2)] [] [cMod r_ r_n r_o r_h r_A r_O r_H r_b r_x r_c r_m r_s r_z r_i r_v im be bg tx ta fa cl, cIar cI r_b 400 f_b] := by
    intro  fuel
    induction fuel with
    | zero =>
      intro x1 x2 hR
      rw [fX9_uneven_4] at hR
      cases hR
    | succ fu ih =>
      intro x1 x2 hR
      rw [fX9_uneven_4] at hR
      refine j_iload_n X (q := 2) dX9_uneven_4 rfl ?_
      refine j_iconst X (v := 1) dX9_uneven_5 (by decide) ?_
      refine j_iadd X dX9_uneven_6 ?_
      refine j_aload_n X (q := 0) dX9_uneven_7 rfl ?_
      obtain ⟨ov1, hov1, hR⟩ := bd_some hR
      refine j_callV X (As := []) (rest := [.int (x2 + 1)]) (ws2 := [cMod r_ r_n r_o r_h r_A r_O r_H r_b r_x r_c r_m r_s r_z r_i r_v im be bg tx ta fa cl, cIar cI r_b 400 f_b]) (q0 := 0) (ci := 9) (mX9_gaps l D cI cJ cB cT tt r_ r_n r_o r_h r_A r_O r_H r_b r_x r_c r_m r_s r_z r_i r_v hov1) [0] [.inr 0, .inl 1] k_871 k_868 k_870 k_34 rfl rfl k_47 hdX9_gaps (by decide) (Nat.le_of_ble_eq_true rfl) dX9_uneven_8 (by decide) rfl rfl (by decide) rfl rfl ?_
      refine j_icmp_ge X (tgt := 36) dX9_uneven_11 (by decide) (fun cv2 => ?_) (fun cv2 => ?_)
      · replace hR := (if_pos cv2).symm.trans hR
        refine j_iload_n X (q := 1) dX9_uneven_36 rfl ?_
        have hR := Option.some.inj hR
        exact j_iret X hr dX9_uneven_37 (by rw [← hR]) rfl
      · replace hR := (if_neg cv2).symm.trans hR
        refine j_iload_n X (q := 1) dX9_uneven_14 rfl ?_
        refine j_aload_n X (q := 0) dX9_uneven_15 rfl ?_
        refine j_iload_n X (q := 2) dX9_uneven_16 rfl ?_
        obtain ⟨ov3, hov3, hR⟩ := bd_some hR
        refine j_callV X (As := [.int x2]) (rest := [.int x1]) (ws2 := [cMod r_ r_n r_o r_h r_A r_O r_H r_b r_x r_c r_m r_s r_z r_i r_v im be bg tx ta fa cl, cIar cI r_b 400 f_b]) (q0 := 0) (ci := 9) (mX9_gapOf l D cI cJ cB cT tt r_ r_n r_o r_h r_A r_O r_H r_b r_x r_c r_m r_s r_z r_i r_v hov3) [0, 1] [.inr 0, .inr 1] k_875 k_872 k_874 k_35 rfl rfl k_47 hdX9_gapOf (by decide) (Nat.le_of_ble_eq_true rfl) dX9_uneven_17 (by decide) rfl rfl (by decide) rfl rfl ?_
        refine j_aload_n X (q := 0) dX9_uneven_20 rfl ?_
        refine j_iload_n X (q := 2) dX9_uneven_21 rfl ?_
        refine j_iconst X (v := 1) dX9_uneven_22 (by decide) ?_
        refine j_iadd X dX9_uneven_23 ?_
        obtain ⟨ov4, hov4, hR⟩ := bd_some hR
        refine j_callV X (As := [.int (x2 + 1)]) (rest := [.int ov3, .int x1]) (ws2 := [cMod r_ r_n r_o r_h r_A r_O r_H r_b r_x r_c r_m r_s r_z r_i r_v im be bg tx ta fa cl, cIar cI r_b 400 f_b]) (q0 := 0) (ci := 9) (mX9_gapOf l D cI cJ cB cT tt r_ r_n r_o r_h r_A r_O r_H r_b r_x r_c r_m r_s r_z r_i r_v hov4) [0, 1] [.inr 0, .inr 1] k_875 k_872 k_874 k_35 rfl rfl k_47 hdX9_gapOf (by decide) (Nat.le_of_ble_eq_true rfl) dX9_uneven_24 (by decide) rfl rfl (by decide) rfl rfl ?_
        refine j_isub X dX9_uneven_27 ?_
        refine j_iadd X dX9_uneven_28 ?_
        obtain ⟨x1v5, ex1v5, hR⟩ := lt_some hR
        refine j_eq (congrArg (fun z => Value.int z :: _) ex1v5) rfl ?_
        refine j_istore_n X (lv2 := [(1, .int x1v5), (0, .ref r_), (2, .int x2)]) dX9_uneven_29 (by decide) rfl ?_
        obtain ⟨x2v6, ex2v6, hR⟩ := lt_some hR
        refine j_iinc X (k := 2) (v := x2v6) (lv2 := [(2, .int x2v6), (1, .int x1v5), (0, .ref r_)]) dX9_uneven_30 rfl (by rw [← ex2v6]; rfl) (by decide) rfl ?_
        refine j_goto X (tgt := 4) dX9_uneven_33 (by decide) ?_
        refine j_sub (lv2 := [(0, .ref r_), (1, .int x1v5), (2, .int x2v6)]) [2, 1, 0] rfl ?_
        exact ih _ _ hR
  refine j_sub (lv2 := [(0, .ref r_)]) [0] rfl ?_
  have hR := h
  unfold fX9_uneven at hR
  refine j_iconst X (v := 0) dX9_uneven_0 (by decide) ?_
  refine j_istore_n X (lv2 := [(1, .int 0), (0, .ref r_)]) dX9_uneven_1 (by decide) rfl ?_
  refine j_iconst X (v := 0) dX9_uneven_2 (by decide) ?_
  refine j_istore_n X (lv2 := [(2, .int 0), (1, .int 0), (0, .ref r_)]) dX9_uneven_3 (by decide) rfl ?_
  refine j_sub (lv2 := [(0, .ref r_), (1, .int 0), (2, .int 0)]) [2, 1, 0] rfl ?_
  exact L_4 _ _ _ hR

def rmX9_evenest : Room := { frames := 5, cells := 0, slots := 0, locals := 117 }
theorem hdX9_evenest : yX9_evenest.cls ≠ "java/lang/invoke/MethodHandle" ∧ yX9_evenest.cls ≠ "java/lang/invoke/VarHandle" ∧ (parseMethodDescriptor yX9_evenest.desc).map (fun d => d.parameters.length) = some 0 := by decide +kernel
def fX9_evenest_95 (im : Int32) (tx : Int32) (ta : Int32) (fa : Int32) (cl : Int32) (K_18 : Int32 → Int32 → Int32 → Int32 → Int32 → Int32 → Int32 → (Nat → Int64) → (Nat → Int64) → (Nat → Int32) → (Nat → Int32) → (Nat → Int32) → Option (Int32 × Int32 × Int32 × (Nat → Int64) × (Nat → Int64) × (Nat → Int32) × (Nat → Int32) × (Nat → Int32))) : Int32 → Int32 → Int32 → Int32 → Int32 → Int32 → Int32 → Int32 → Int32 → (Nat → Int64) → (Nat → Int64) → (Nat → Int32) → (Nat → Int32) → (Nat → Int32) → Option (Int32 × Int32 × Int32 × (Nat → Int64) × (Nat → Int64) × (Nat → Int32) × (Nat → Int32) × (Nat → Int32)) := fun x1 x2 x3 x4 x5 x6 y0 be bg f_A f_H f_b f_h f_n =>
    if (0 : Int32) < y0 then (lt' (x5 + 1) fun x5v12 =>
  K_18 x5 be x6 x4 x5v12 be bg f_A f_H f_b f_h f_n) else (lt' (x5 + 1) fun x5v13 =>
  K_18 x1 x2 x3 x4 x5v13 be bg f_A f_H f_b f_h f_n)
def fX9_evenest_18 (im : Int32) (tx : Int32) (ta : Int32) (fa : Int32) (cl : Int32) : Nat → Int32 → Int32 → Int32 → Int32 → Int32 → Int32 → Int32 → (Nat → Int64) → (Nat → Int64) → (Nat → Int32) → (Nat → Int32) → (Nat → Int32) → Option (Int32 × Int32 × Int32 × (Nat → Int64) × (Nat → Int64) × (Nat → Int32) × (Nat → Int32) × (Nat → Int32))
  | 0, _, _, _, _, _, _, _, _, _, _, _, _ => none
  | fu + 1, x1, x2, x3, x4, x5, be, bg, f_A, f_H, f_b, f_h, f_n =>
    if (20 : Int32) < x5 then (some (x1, be, bg, f_A, f_H, f_b, f_h, f_n)) else ((fX9_hears 4 x5 im be bg tx ta fa cl f_A f_H f_b f_h f_n).bind fun ov3 =>
  (fX9_uneven im ov3.1 ov3.2.1 tx ta fa cl ov3.2.2.2.2.1).bind fun ov4 =>
  lt' (if 0 ≤ ov4 then ov4 else 0 - ov4) fun x6v5 =>
  if (0 : Int32) ≤ x2 then (if ov3.1 = x2 then (if x6v5 = x3 then (lt' (x1 - x4) fun uv9 =>
  lt' (x5 - x4) fun uv10 =>
  fX9_evenest_95 im tx ta fa cl (fX9_evenest_18 im tx ta fa cl fu) x1 x2 x3 x4 x5 x6v5 ((if 0 ≤ uv9 then uv9 else 0 - uv9) - (if 0 ≤ uv10 then uv10 else 0 - uv10)) ov3.1 ov3.2.1 ov3.2.2.1 ov3.2.2.2.1 ov3.2.2.2.2.1 ov3.2.2.2.2.2.1 ov3.2.2.2.2.2.2) else (fX9_evenest_95 im tx ta fa cl (fX9_evenest_18 im tx ta fa cl fu) x1 x2 x3 x4 x5 x6v5 (x3 - x6v5) ov3.1 ov3.2.1 ov3.2.2.1 ov3.2.2.2.1 ov3.2.2.2.2.1 ov3.2.2.2.2.2.1 ov3.2.2.2.2.2.2)) else (fX9_evenest_95 im tx ta fa cl (fX9_evenest_18 im tx ta fa cl fu) x1 x2 x3 x4 x5 x6v5 (ov3.1 - x2) ov3.1 ov3.2.1 ov3.2.2.1 ov3.2.2.2.1 ov3.2.2.2.2.1 ov3.2.2.2.2.2.1 ov3.2.2.2.2.2.2)) else (fX9_evenest_95 im tx ta fa cl (fX9_evenest_18 im tx ta fa cl fu) x1 x2 x3 x4 x5 x6v5 1 ov3.1 ov3.2.1 ov3.2.2.1 ov3.2.2.2.1 ov3.2.2.2.2.1 ov3.2.2.2.2.2.1 ov3.2.2.2.2.2.2))
def fX9_evenest (im : Int32) (be : Int32) (bg : Int32) (tx : Int32) (ta : Int32) (fa : Int32) (cl : Int32) (f_A : Nat → Int64) (f_H : Nat → Int64) (f_b : Nat → Int32) (f_h : Nat → Int32) (f_n : Nat → Int32) : Option (Int32 × Int32 × Int32 × (Nat → Int64) × (Nat → Int64) × (Nat → Int32) × (Nat → Int32) × (Nat → Int32)) :=
  lt' (f_n 4) fun x4v1 =>
  fX9_evenest_18 im tx ta fa cl 500 0 (-1) 0 x4v1 (-20) be bg f_A f_H f_b f_h f_n
set_option maxHeartbeats 8000000 in
set_option maxRecDepth 100000 in
theorem mX9_evenest (l : Launch) (D : va_G) (cI cJ cB cT : ClassId) (tt : Nat → Nat) (r_ r_n r_o r_h r_A r_O r_H r_b r_x r_c r_m r_s r_z r_i r_v : Nat)  {im : Int32} {be : Int32} {bg : Int32} {tx : Int32} {ta : Int32} {fa : Int32} {cl : Int32} {f_A : Nat → Int64} {f_H : Nat → Int64} {f_b : Nat → Int32} {f_h : Nat → Int32} {f_n : Nat → Int32} {out : Int32 × Int32 × Int32 × (Nat → Int64) × (Nat → Int64) × (Nat → Int32) × (Nat → Int32) × (Nat → Int32)} (h : fX9_evenest im be bg tx ta fa cl f_A f_H f_b f_h f_n = some out) :
    jM l yX9_evenest (.code yX9_evenest cX9_evenest 8 (some .int)) rmX9_evenest D (wTy cI cJ cB cT) tt [.ref r_] [cMod r_ r_n r_o r_h r_A r_O r_H r_b r_x r_c r_m r_s r_z r_i r_v im be bg tx ta fa cl, cJar cJ r_A 4 f_A, cJar cJ r_H 4 f_H, cIar cI r_b 400 f_b, cIar cI r_h 69 f_h, cIar cI r_n 69 f_n] (some (.int out.1)) [cMod r_ r_n r_o r_h r_A r_O r_H r_b r_x r_c r_m r_s r_z r_i r_v im out.2.1 out.2.2.1 tx ta fa cl, cJar cJ r_A 4 out.2.2.2.1, cJar cJ r_H 4 out.2.2.2.2.1, cIar cI r_b 400 out.2.2.2.2.2.1, cIar cI r_h 69 out.2.2.2.2.2.2.1, cIar cI r_n 69 out.2.2.2.2.2.2.2] := by
  refine jM.of (by decide) (Nat.le_of_ble_eq_true rfl) ?_
  intro p e s m below meth c A X hr
  have L_95 : ∀ (K_18 : Int32 → Int32 → Int32 → Int32 → Int32 → Int32 → Int32 → (Nat → Int64) → (Nat → Int64) → (Nat → Int32) → (Nat → Int32) → (Nat → Int32) → Option (Int32 × Int32 × Int32 × (Nat → Int64) × (Nat → Int64) × (Nat → Int32) × (Nat → Int32) × (Nat → Int32))), (∀ (x1 : Int32) (x2 : Int32) (x3 : Int32) (x4 : Int32) (x5 : Int32) (be : Int32) (bg : Int32) (f_A : Nat → Int64) (f_H : Nat → Int64) (f_b : Nat → Int32) (f_h : Nat → Int32) (f_n : Nat → Int32), K_18 x1 x2 x3 x4 x5 be bg f_A f_H f_b f_h f_n = some out → jW p l e rmX9_evenest s m ([.ref r_] : List Value).toArray below meth c D A 8 (MQ below (jQ D (some (.int out.1)) [cMod r_ r_n r_o r_h r_A r_O r_H r_b r_x r_c r_m r_s r_z r_i r_v im out.2.1 out.2.2.1 tx ta fa cl, cJar cJ r_A 4 out.2.2.2.1, cJar cJ r_H 4 out.2.2.2.2.1, cIar cI r_b 400 out.2.2.2.2.2.1, cIar cI r_h 69 out.2.2.2.2.2.2.1, cIar cI r_n 69 out.2.2.2.2.2.2.2] A) ([.ref r_] : List Value).toArray s 0 0 A) 0 0 18 [(0, .ref r_), (1, .int x1), (2, .int x2), (3, .int x3), (4, .int x4), (5, .int x5)] [] [cMod r_ r_n r_o r_h r_A r_O r_H r_b r_x r_c r_m r_s r_z r_i r_v im be bg tx ta fa cl, cJar cJ r_A 4 f_A, cJar cJ r_H 4 f_H, cIar cI r_b 400 f_b, cIar cI r_h 69 f_h, cIar cI r_n 69 f_n]) → ∀ (x1 : Int32) (x2 : Int32) (x3 : Int32) (x4 : Int32) (x5 : Int32) (x6 : Int32) (y0 : Int32) (be : Int32) (bg : Int32) (f_A : Nat → Int64) (f_H : Nat → Int64) (f_b : Nat → Int32) (f_h : Nat → Int32) (f_n : Nat → Int32), fX9_evenest_95 im tx ta fa cl K_18 x1 x2 x3 x4 x5 x6 y0 be bg f_A f_H f_b f_h f_n = some out → jW p l e rmX9_evenest s m ([.ref r_] : List Value).toArray below meth c D A 8 (MQ below (jQ D (some (.int out.1)) [cMod r_ r_n r_o r_h r_A r_O r_H r_b r_x r_c r_m r_s r_z r_i r_v im out.2.1 out.2.2.1 tx ta fa cl, cJar cJ r_A 4 out.2.2.2.1, cJar cJ r_H 4 out.2.2.2.2.1, cIar cI r_b 400 out.2.2.2.2.2.1, cIar cI r_h 69 out.2.2.2.2.2.2.1, cIar cI r_n 69 out.2.2.2.2.2.2.2] A) ([.ref r_] : List Value).toArray s 0 0 A) 0 0 95 [(0, .ref r_), (1, .int x1), (2, .int x2), (3, .int x3), (4, .int x4), (5, .int x5), (6, .int x6)] [.int y0] [cMod r_ r_n r_o r_h r_A r_O r_H r_b r_x r_c r_m r_s r_z r_i r_v im be bg tx ta fa cl, cJar cJ r_A 4 f_A, cJar cJ r_H 4 f_H, cIar cI r_b 400 f_b, cIar cI r_h 69 f_h, cIar cI r_n 69 f_n] := by
    intro K_18 hK_18 x1 x2 x3 x4 x5 x6 y0 be bg f_A f_H f_b f_h f_n hR
    unfold fX9_evenest_95 at hR
    refine j_istore X (lv2 := [(7, .int y0), (0, .ref r_), (1, .int x1), (2, .int x2), (3, .int x3), (4, .int x4), (5, .int x5), (6, .int x6)]) dX9_evenest_95 (by decide) rfl ?_
    refine j_iload X (q := 0) dX9_evenest_97 rfl ?_
    refine j_if_gt X (tgt := 105) dX9_evenest_99 (by decide) (fun cv11 => ?_) (fun cv11 => ?_)
    · replace hR := (if_pos cv11).symm.trans hR
      refine j_iload X (q := 6) dX9_evenest_105 rfl ?_
      refine j_istore_n X (lv2 := [(1, .int x5), (7, .int y0), (0, .ref r_), (2, .int x2), (3, .int x3), (4, .int x4), (5, .int x5), (6, .int x6)]) dX9_evenest_107 (by decide) rfl ?_
      refine j_aload_n X (q := 2) dX9_evenest_108 rfl ?_
      refine j_get X 0 7 hiX9 k_672 dX9_evenest_109 rfl rfl (by decide) rfl ?_
      refine j_istore_n X (lv2 := [(2, .int be), (1, .int x5), (7, .int y0), (0, .ref r_), (3, .int x3), (4, .int x4), (5, .int x5), (6, .int x6)]) dX9_evenest_112 (by decide) rfl ?_
      refine j_iload X (q := 7) dX9_evenest_113 rfl ?_
      refine j_istore_n X (lv2 := [(3, .int x6), (2, .int be), (1, .int x5), (7, .int y0), (0, .ref r_), (4, .int x4), (5, .int x5), (6, .int x6)]) dX9_evenest_115 (by decide) rfl ?_
      obtain ⟨x5v12, ex5v12, hR⟩ := lt_some hR
      refine j_iinc X (k := 6) (v := x5v12) (lv2 := [(5, .int x5v12), (3, .int x6), (2, .int be), (1, .int x5), (7, .int y0), (0, .ref r_), (4, .int x4), (6, .int x6)]) dX9_evenest_116 rfl (by rw [← ex5v12]; rfl) (by decide) rfl ?_
      refine j_goto X (tgt := 18) dX9_evenest_119 (by decide) ?_
      refine j_sub (lv2 := [(0, .ref r_), (1, .int x5), (2, .int be), (3, .int x6), (4, .int x4), (5, .int x5v12)]) [5, 3, 2, 1, 6, 0] rfl ?_
      exact hK_18 _ _ _ _ _ _ _ _ _ _ _ _ hR
    · replace hR := (if_neg cv11).symm.trans hR
      refine j_goto X (tgt := 116) dX9_evenest_102 (by decide) ?_
      obtain ⟨x5v13, ex5v13, hR⟩ := lt_some hR
      refine j_iinc X (k := 6) (v := x5v13) (lv2 := [(5, .int x5v13), (7, .int y0), (0, .ref r_), (1, .int x1), (2, .int x2), (3, .int x3), (4, .int x4), (6, .int x6)]) dX9_evenest_116 rfl (by rw [← ex5v13]; rfl) (by decide) rfl ?_
      refine j_goto X (tgt := 18) dX9_evenest_119 (by decide) ?_
      refine j_sub (lv2 := [(0, .ref r_), (1, .int x1), (2, .int x2), (3, .int x3), (4, .int x4), (5, .int x5v13)]) [2, 3, 4, 5, 6, 0] rfl ?_
      exact hK_18 _ _ _ _ _ _ _ _ _ _ _ _ hR
  have L_18 : ∀ (fuel : Nat) (x1 : Int32) (x2 : Int32) (x3 : Int32) (x4 : Int32) (x5 : Int32) (be : Int32) (bg : Int32) (f_A : Nat → Int64) (f_H : Nat → Int64) (f_b : Nat → Int32) (f_h : Nat → Int32) (f_n : Nat → Int32), fX9_evenest_18 im tx ta fa cl  fuel x1 x2 x3 x4 x5 be bg f_A f_H f_b f_h f_n = some out → jW p l e rmX9_evenest s m ([.ref r_] : List Value).toArray below meth c D A 8 (MQ below (jQ D (some (.int out.1)) [cMod r_ r_n r_o r_h r_A r_O r_H r_b r_x r_c r_m r_s r_z r_i r_v im out.2.1 out.2.2.1 tx ta fa cl, cJar cJ r_A 4 out.2.2.2.1, cJar cJ r_H 4 out.2.2.2.2.1, cIar cI r_b 400 out.2.2.2.2.2.1, cIar cI r_h 69 out.2.2.2.2.2.2.1, cIar cI r_n 69 out.2.2.2.2.2.2.2] A) ([.ref r_] : List Value).toArray s 0 0 A) 0 0 18 [(0, .ref r_), (1, .int x1), (2, .int x2), (3, .int x3), (4, .int x4), (5, .int x5)] [] [cMod r_ r_n r_o r_h r_A r_O r_H r_b r_x r_c r_m r_s r_z r_i r_v im be bg tx ta fa cl, cJar cJ r_A 4 f_A, cJar cJ r_H 4 f_H, cIar cI r_b 400 f_b, cIar cI r_h 69 f_h, cIar cI r_n 69 f_n] := by
    intro  fuel
    induction fuel with
    | zero =>
      intro x1 x2 x3 x4 x5 be bg f_A f_H f_b f_h f_n hR
      rw [fX9_evenest_18] at hR
      cases hR
    | succ fu ih =>
      intro x1 x2 x3 x4 x5 be bg f_A f_H f_b f_h f_n hR
      rw [fX9_evenest_18] at hR
      refine j_iload X (q := 5) dX9_evenest_18 rfl ?_
      refine j_bipush X (v := 20) dX9_evenest_20 (by decide) ?_
      refine j_icmp_gt X (tgt := 122) dX9_evenest_22 (by decide) (fun cv2 => ?_) (fun cv2 => ?_)
      · replace hR := (if_pos cv2).symm.trans hR
        refine j_iload_n X (q := 1) dX9_evenest_122 rfl ?_
        have hR := Option.some.inj hR
        exact j_iret X hr dX9_evenest_123 (by rw [← hR]) (by rw [← hR])
      · replace hR := (if_neg cv2).symm.trans hR
        refine j_aload_n X (q := 0) dX9_evenest_25 rfl ?_
        refine j_iconst X (v := 4) dX9_evenest_26 (by decide) ?_
        refine j_iload X (q := 5) dX9_evenest_27 rfl ?_
        obtain ⟨ov3, hov3, hR⟩ := bd_some hR
        refine j_callV X (As := [.int 4, .int x5]) (rest := []) (ws2 := [cMod r_ r_n r_o r_h r_A r_O r_H r_b r_x r_c r_m r_s r_z r_i r_v im ov3.1 ov3.2.1 tx ta fa cl, cJar cJ r_A 4 ov3.2.2.1, cJar cJ r_H 4 ov3.2.2.2.1, cIar cI r_b 400 ov3.2.2.2.2.1, cIar cI r_h 69 ov3.2.2.2.2.2.1, cIar cI r_n 69 ov3.2.2.2.2.2.2]) (q0 := 0) (ci := 9) (mX9_hears l D cI cJ cB cT tt r_ r_n r_o r_h r_A r_O r_H r_b r_x r_c r_m r_s r_z r_i r_v hov3) [0, 1, 2, 3, 4, 5] [.inr 0, .inr 1, .inr 2, .inr 3, .inr 4, .inr 5] k_855 k_852 k_854 k_31 rfl rfl k_47 hdX9_hears (by decide) (Nat.le_of_ble_eq_true rfl) dX9_evenest_29 (by decide) rfl rfl (by decide) rfl rfl ?_
        refine j_aload_n X (q := 0) dX9_evenest_32 rfl ?_
        obtain ⟨ov4, hov4, hR⟩ := bd_some hR
        refine j_callV X (As := []) (rest := []) (ws2 := [cMod r_ r_n r_o r_h r_A r_O r_H r_b r_x r_c r_m r_s r_z r_i r_v im ov3.1 ov3.2.1 tx ta fa cl, cJar cJ r_A 4 ov3.2.2.1, cJar cJ r_H 4 ov3.2.2.2.1, cIar cI r_b 400 ov3.2.2.2.2.1, cIar cI r_h 69 ov3.2.2.2.2.2.1, cIar cI r_n 69 ov3.2.2.2.2.2.2]) (q0 := 0) (ci := 9) (mX9_uneven l D cI cJ cB cT tt r_ r_n r_o r_h r_A r_O r_H r_b r_x r_c r_m r_s r_z r_i r_v hov4) [0, 3] [.inr 0, .inl 1, .inl 2, .inr 1, .inl 4, .inl 5] k_867 k_864 k_866 k_33 rfl rfl k_47 hdX9_uneven (by decide) (Nat.le_of_ble_eq_true rfl) dX9_evenest_33 (by decide) rfl rfl (by decide) rfl rfl ?_
        refine j_mabs X k_876 k_524 k_48 k_525 ⟨by decide, Nat.le_of_ble_eq_true rfl, Nat.zero_le _, Nat.zero_le _⟩ dX9_evenest_36 ?_
        obtain ⟨x6v5, ex6v5, hR⟩ := lt_some hR
        refine j_eq (congrArg (fun z => Value.int z :: _) ex6v5) rfl ?_
        refine j_istore X (lv2 := [(6, .int x6v5), (0, .ref r_), (1, .int x1), (2, .int x2), (3, .int x3), (4, .int x4), (5, .int x5)]) dX9_evenest_39 (by decide) rfl ?_
        refine j_iload_n X (q := 3) dX9_evenest_41 rfl ?_
        refine j_if_ge X (tgt := 49) dX9_evenest_42 (by decide) (fun cv6 => ?_) (fun cv6 => ?_)
        · replace hR := (if_pos cv6).symm.trans hR
          refine j_aload_n X (q := 1) dX9_evenest_49 rfl ?_
          refine j_get X 0 7 hiX9 k_672 dX9_evenest_50 rfl rfl (by decide) rfl ?_
          refine j_iload_n X (q := 3) dX9_evenest_53 rfl ?_
          refine j_icmp_eq X (tgt := 66) dX9_evenest_54 (by decide) (fun cv7 => ?_) (fun cv7 => ?_)
          · replace hR := (if_pos cv7).symm.trans hR
            refine j_iload X (q := 0) dX9_evenest_66 rfl ?_
            refine j_iload_n X (q := 4) dX9_evenest_68 rfl ?_
            refine j_icmp_eq X (tgt := 79) dX9_evenest_69 (by decide) (fun cv8 => ?_) (fun cv8 => ?_)
            · replace hR := (if_pos cv8).symm.trans hR
              refine j_iload_n X (q := 2) dX9_evenest_79 rfl ?_
              refine j_iload X (q := 5) dX9_evenest_80 rfl ?_
              refine j_isub X dX9_evenest_82 ?_
              obtain ⟨uv9, euv9, hR⟩ := lt_some hR
              refine j_eq (congrArg (fun z => Value.int z :: _) euv9) rfl ?_
              refine j_mabs X k_876 k_524 k_48 k_525 ⟨by decide, Nat.le_of_ble_eq_true rfl, Nat.zero_le _, Nat.zero_le _⟩ dX9_evenest_83 ?_
              refine j_iload X (q := 6) dX9_evenest_86 rfl ?_
              refine j_iload X (q := 5) dX9_evenest_88 rfl ?_
              refine j_isub X dX9_evenest_90 ?_
              obtain ⟨uv10, euv10, hR⟩ := lt_some hR
              refine j_eq (congrArg (fun z => Value.int z :: _) euv10) rfl ?_
              refine j_mabs X k_876 k_524 k_48 k_525 ⟨by decide, Nat.le_of_ble_eq_true rfl, Nat.zero_le _, Nat.zero_le _⟩ dX9_evenest_91 ?_
              refine j_isub X dX9_evenest_94 ?_
              refine j_sub (lv2 := [(0, .ref r_), (1, .int x1), (2, .int x2), (3, .int x3), (4, .int x4), (5, .int x5), (6, .int x6v5)]) [1, 2, 3, 4, 5, 6, 0] rfl ?_
              exact L_95 _ ih _ _ _ _ _ _ _ _ _ _ _ _ _ _ hR
            · replace hR := (if_neg cv8).symm.trans hR
              refine j_iload_n X (q := 4) dX9_evenest_72 rfl ?_
              refine j_iload X (q := 0) dX9_evenest_73 rfl ?_
              refine j_isub X dX9_evenest_75 ?_
              refine j_goto X (tgt := 95) dX9_evenest_76 (by decide) ?_
              refine j_sub (lv2 := [(0, .ref r_), (1, .int x1), (2, .int x2), (3, .int x3), (4, .int x4), (5, .int x5), (6, .int x6v5)]) [1, 2, 3, 4, 5, 6, 0] rfl ?_
              exact L_95 _ ih _ _ _ _ _ _ _ _ _ _ _ _ _ _ hR
          · replace hR := (if_neg cv7).symm.trans hR
            refine j_aload_n X (q := 1) dX9_evenest_57 rfl ?_
            refine j_get X 0 7 hiX9 k_672 dX9_evenest_58 rfl rfl (by decide) rfl ?_
            refine j_iload_n X (q := 3) dX9_evenest_61 rfl ?_
            refine j_isub X dX9_evenest_62 ?_
            refine j_goto X (tgt := 95) dX9_evenest_63 (by decide) ?_
            refine j_sub (lv2 := [(0, .ref r_), (1, .int x1), (2, .int x2), (3, .int x3), (4, .int x4), (5, .int x5), (6, .int x6v5)]) [1, 2, 3, 4, 5, 6, 0] rfl ?_
            exact L_95 _ ih _ _ _ _ _ _ _ _ _ _ _ _ _ _ hR
        · replace hR := (if_neg cv6).symm.trans hR
          refine j_iconst X (v := 1) dX9_evenest_45 (by decide) ?_
          refine j_goto X (tgt := 95) dX9_evenest_46 (by decide) ?_
          refine j_sub (lv2 := [(0, .ref r_), (1, .int x1), (2, .int x2), (3, .int x3), (4, .int x4), (5, .int x5), (6, .int x6v5)]) [1, 2, 3, 4, 5, 6, 0] rfl ?_
          exact L_95 _ ih _ _ _ _ _ _ _ _ _ _ _ _ _ _ hR
  refine j_sub (lv2 := [(0, .ref r_)]) [0] rfl ?_
  have hR := h
  unfold fX9_evenest at hR
  refine j_iconst X (v := 0) dX9_evenest_0 (by decide) ?_
  refine j_istore_n X (lv2 := [(1, .int 0), (0, .ref r_)]) dX9_evenest_1 (by decide) rfl ?_
  refine j_iconst X (v := (-1)) dX9_evenest_2 (by decide) ?_
  refine j_istore_n X (lv2 := [(2, .int (-1)), (1, .int 0), (0, .ref r_)]) dX9_evenest_3 (by decide) rfl ?_
  refine j_iconst X (v := 0) dX9_evenest_4 (by decide) ?_
  refine j_istore_n X (lv2 := [(3, .int 0), (2, .int (-1)), (1, .int 0), (0, .ref r_)]) dX9_evenest_5 (by decide) rfl ?_
  refine j_aload_n X (q := 3) dX9_evenest_6 rfl ?_
  refine j_get X 0 0 hiX9 k_665 dX9_evenest_7 rfl rfl (by decide) rfl ?_
  refine j_iconst X (v := 4) dX9_evenest_10 (by decide) ?_
  refine j_iald X (k := 4) 5 0 rfl dX9_evenest_11 rfl rfl (by decide) ?_
  obtain ⟨x4v1, ex4v1, hR⟩ := lt_some hR
  refine j_eq (congrArg (fun z => Value.int z :: _) ex4v1) rfl ?_
  refine j_istore X (lv2 := [(4, .int x4v1), (3, .int 0), (2, .int (-1)), (1, .int 0), (0, .ref r_)]) dX9_evenest_12 (by decide) rfl ?_
  refine j_bipush X (v := (-20)) dX9_evenest_14 (by decide) ?_
  refine j_istore X (lv2 := [(5, .int (-20)), (4, .int x4v1), (3, .int 0), (2, .int (-1)), (1, .int 0), (0, .ref r_)]) dX9_evenest_16 (by decide) rfl ?_
  refine j_sub (lv2 := [(0, .ref r_), (1, .int 0), (2, .int (-1)), (3, .int 0), (4, .int x4v1), (5, .int (-20))]) [5, 4, 3, 2, 1, 0] rfl ?_
  exact L_18 _ _ _ _ _ _ _ _ _ _ _ _ _ hR

def rmX9_beat : Room := { frames := 6, cells := 0, slots := 0, locals := 144 }
theorem hdX9_beat : yX9_beat.cls ≠ "java/lang/invoke/MethodHandle" ∧ yX9_beat.cls ≠ "java/lang/invoke/VarHandle" ∧ (parseMethodDescriptor yX9_beat.desc).map (fun d => d.parameters.length) = some 1 := by decide +kernel
def fX9_beat (i1 : Int32) (im : Int32) (be : Int32) (bg : Int32) (tx : Int32) (ta : Int32) (fa : Int32) (cl : Int32) (f_A : Nat → Int64) (f_H : Nat → Int64) (f_b : Nat → Int32) (f_h : Nat → Int32) (f_n : Nat → Int32) : Option (Int32 × Int32 × Int32 × (Nat → Int64) × (Nat → Int64) × (Nat → Int32) × (Nat → Int32) × (Nat → Int32)) :=
  (fX9_within i1 0 4).bind fun ov1 =>
  if ov1 = 0 then (some ((-1000), be, bg, f_A, f_H, f_b, f_h, f_n)) else (if i1 = 3 then ((fX9_evenest im be bg tx ta fa cl f_A f_H f_b f_h f_n).bind fun ov12 =>
  some (ov12.1, ov12.2.1, ov12.2.2.1, ov12.2.2.2.1, ov12.2.2.2.2.1, ov12.2.2.2.2.2.1, ov12.2.2.2.2.2.2.1, ov12.2.2.2.2.2.2.2)) else ((fX9_hears_ im be bg tx ta fa cl f_A f_H f_b f_h f_n).bind fun ov4 =>
  if i1 = 0 then (some (ov4.1, ov4.1, ov4.2.1, ov4.2.2.1, ov4.2.2.2.1, ov4.2.2.2.2.1, ov4.2.2.2.2.2.1, ov4.2.2.2.2.2.2)) else (if i1 = 1 then ((fX9_gaps im ov4.1 ov4.2.1 tx ta fa cl).bind fun ov11 =>
  some (ov11, ov4.1, ov4.2.1, ov4.2.2.1, ov4.2.2.2.1, ov4.2.2.2.2.1, ov4.2.2.2.2.2.1, ov4.2.2.2.2.2.2)) else (if i1 = 2 then ((fX9_uneven im ov4.1 ov4.2.1 tx ta fa cl ov4.2.2.2.2.1).bind fun ov10 =>
  some (ov10, ov4.1, ov4.2.1, ov4.2.2.1, ov4.2.2.2.1, ov4.2.2.2.2.1, ov4.2.2.2.2.2.1, ov4.2.2.2.2.2.2)) else (if ov4.1 = 0 then (some ((-500), ov4.1, ov4.2.1, ov4.2.2.1, ov4.2.2.2.1, ov4.2.2.2.2.1, ov4.2.2.2.2.2.1, ov4.2.2.2.2.2.2)) else (gd (inb (ov4.1 - 1) 400) (some (ov4.2.2.2.2.1 (ov4.1 - 1).toNatClampNeg, ov4.1, ov4.2.1, ov4.2.2.1, ov4.2.2.2.1, ov4.2.2.2.2.1, ov4.2.2.2.2.2.1, ov4.2.2.2.2.2.2))))))))
set_option maxHeartbeats 8000000 in
set_option maxRecDepth 100000 in
theorem mX9_beat (l : Launch) (D : va_G) (cI cJ cB cT : ClassId) (tt : Nat → Nat) (r_ r_n r_o r_h r_A r_O r_H r_b r_x r_c r_m r_s r_z r_i r_v : Nat) {i1 : Int32} {im : Int32} {be : Int32} {bg : Int32} {tx : Int32} {ta : Int32} {fa : Int32} {cl : Int32} {f_A : Nat → Int64} {f_H : Nat → Int64} {f_b : Nat → Int32} {f_h : Nat → Int32} {f_n : Nat → Int32} {out : Int32 × Int32 × Int32 × (Nat → Int64) × (Nat → Int64) × (Nat → Int32) × (Nat → Int32) × (Nat → Int32)} (h : fX9_beat i1 im be bg tx ta fa cl f_A f_H f_b f_h f_n = some out) :
    jM l yX9_beat (.code yX9_beat cX9_beat 2 (some .int)) rmX9_beat D (wTy cI cJ cB cT) tt [.ref r_, .int i1] [cMod r_ r_n r_o r_h r_A r_O r_H r_b r_x r_c r_m r_s r_z r_i r_v im be bg tx ta fa cl, cJar cJ r_A 4 f_A, cJar cJ r_H 4 f_H, cIar cI r_b 400 f_b, cIar cI r_h 69 f_h, cIar cI r_n 69 f_n] (some (.int out.1)) [cMod r_ r_n r_o r_h r_A r_O r_H r_b r_x r_c r_m r_s r_z r_i r_v im out.2.1 out.2.2.1 tx ta fa cl, cJar cJ r_A 4 out.2.2.2.1, cJar cJ r_H 4 out.2.2.2.2.1, cIar cI r_b 400 out.2.2.2.2.2.1, cIar cI r_h 69 out.2.2.2.2.2.2.1, cIar cI r_n 69 out.2.2.2.2.2.2.2] := by
  refine jM.of (by decide) (Nat.le_of_ble_eq_true rfl) ?_
  intro p e s m below meth c A X hr
  refine j_sub (lv2 := [(0, .ref r_), (1, .int i1)]) [0, 1] rfl ?_
  have hR := h
  unfold fX9_beat at hR
  refine j_iload_n X (q := 1) dX9_beat_0 rfl ?_
  refine j_iconst X (v := 0) dX9_beat_1 (by decide) ?_
  refine j_iconst X (v := 4) dX9_beat_2 (by decide) ?_
  obtain ⟨ov1, hov1, hR⟩ := bd_some hR
  refine j_callS X (As := [.int i1, .int 0, .int 4]) (rest := []) (ws2 := [cMod r_ r_n r_o r_h r_A r_O r_H r_b r_x r_c r_m r_s r_z r_i r_v im be bg tx ta fa cl, cJar cJ r_A 4 f_A, cJar cJ r_H 4 f_H, cIar cI r_b 400 f_b, cIar cI r_h 69 f_h, cIar cI r_n 69 f_n]) (mX9_within l D cI cJ cB cT tt  hov1) [] [.inl 0, .inl 1, .inl 2, .inl 3, .inl 4, .inl 5] k_735 k_733 k_734 k_47 hdX9_within (by decide) (Nat.le_of_ble_eq_true rfl) dX9_beat_3 (by decide) rfl rfl (by decide) rfl rfl ?_
  refine j_if_ne X (tgt := 13) dX9_beat_6 (by decide) (fun cv2 => ?_) (fun cv2 => ?_)
  · replace hR := (if_neg cv2).symm.trans hR
    refine j_iload_n X (q := 1) dX9_beat_13 rfl ?_
    refine j_iconst X (v := 3) dX9_beat_14 (by decide) ?_
    refine j_icmp_ne X (tgt := 23) dX9_beat_15 (by decide) (fun cv3 => ?_) (fun cv3 => ?_)
    · replace hR := (if_neg cv3).symm.trans hR
      refine j_aload_n X (q := 0) dX9_beat_23 rfl ?_
      obtain ⟨ov4, hov4, hR⟩ := bd_some hR
      refine j_callV X (As := []) (rest := []) (ws2 := [cMod r_ r_n r_o r_h r_A r_O r_H r_b r_x r_c r_m r_s r_z r_i r_v im ov4.1 ov4.2.1 tx ta fa cl, cJar cJ r_A 4 ov4.2.2.1, cJar cJ r_H 4 ov4.2.2.2.1, cIar cI r_b 400 ov4.2.2.2.2.1, cIar cI r_h 69 ov4.2.2.2.2.2.1, cIar cI r_n 69 ov4.2.2.2.2.2.2]) (q0 := 0) (ci := 9) (mX9_hears_ l D cI cJ cB cT tt r_ r_n r_o r_h r_A r_O r_H r_b r_x r_c r_m r_s r_z r_i r_v hov4) [0, 1, 2, 3, 4, 5] [.inr 0, .inr 1, .inr 2, .inr 3, .inr 4, .inr 5] k_851 k_848 k_850 k_30 rfl rfl k_47 hdX9_hears_ (by decide) (Nat.le_of_ble_eq_true rfl) dX9_beat_24 (by decide) rfl rfl (by decide) rfl rfl ?_
      refine j_iload_n X (q := 1) dX9_beat_27 rfl ?_
      refine j_if_ne X (tgt := 38) dX9_beat_28 (by decide) (fun cv5 => ?_) (fun cv5 => ?_)
      · replace hR := (if_neg cv5).symm.trans hR
        refine j_iload_n X (q := 1) dX9_beat_38 rfl ?_
        refine j_iconst X (v := 1) dX9_beat_39 (by decide) ?_
        refine j_icmp_ne X (tgt := 50) dX9_beat_40 (by decide) (fun cv6 => ?_) (fun cv6 => ?_)
        · replace hR := (if_neg cv6).symm.trans hR
          refine j_iload_n X (q := 1) dX9_beat_50 rfl ?_
          refine j_iconst X (v := 2) dX9_beat_51 (by decide) ?_
          refine j_icmp_ne X (tgt := 62) dX9_beat_52 (by decide) (fun cv7 => ?_) (fun cv7 => ?_)
          · replace hR := (if_neg cv7).symm.trans hR
            refine j_aload_n X (q := 0) dX9_beat_62 rfl ?_
            refine j_get X 0 7 hiX9 k_672 dX9_beat_63 rfl rfl (by decide) rfl ?_
            refine j_if_ne X (tgt := 75) dX9_beat_66 (by decide) (fun cv8 => ?_) (fun cv8 => ?_)
            · replace hR := (if_neg cv8).symm.trans hR
              refine j_aload_n X (q := 0) dX9_beat_75 rfl ?_
              refine j_get X 0 9 hiX9 k_674 dX9_beat_76 rfl rfl (by decide) rfl ?_
              refine j_aload_n X (q := 0) dX9_beat_79 rfl ?_
              refine j_get X 0 7 hiX9 k_672 dX9_beat_80 rfl rfl (by decide) rfl ?_
              refine j_iconst X (v := 1) dX9_beat_83 (by decide) ?_
              refine j_isub X dX9_beat_84 ?_
              obtain ⟨gv9, hR⟩ := gd_some hR
              refine j_iald X 3 0 rfl dX9_beat_85 rfl rfl gv9 ?_
              have hR := Option.some.inj hR
              exact j_iret X hr dX9_beat_86 (by rw [← hR]) (by rw [← hR])
            · replace hR := (if_pos cv8).symm.trans hR
              refine j_sipush X (v := (-500)) dX9_beat_69 (by decide) ?_
              refine j_goto X (tgt := 86) dX9_beat_72 (by decide) ?_
              have hR := Option.some.inj hR
              exact j_iret X hr dX9_beat_86 (by rw [← hR]) (by rw [← hR])
          · replace hR := (if_pos cv7).symm.trans hR
            refine j_aload_n X (q := 0) dX9_beat_55 rfl ?_
            obtain ⟨ov10, hov10, hR⟩ := bd_some hR
            refine j_callV X (As := []) (rest := []) (ws2 := [cMod r_ r_n r_o r_h r_A r_O r_H r_b r_x r_c r_m r_s r_z r_i r_v im ov4.1 ov4.2.1 tx ta fa cl, cJar cJ r_A 4 ov4.2.2.1, cJar cJ r_H 4 ov4.2.2.2.1, cIar cI r_b 400 ov4.2.2.2.2.1, cIar cI r_h 69 ov4.2.2.2.2.2.1, cIar cI r_n 69 ov4.2.2.2.2.2.2]) (q0 := 0) (ci := 9) (mX9_uneven l D cI cJ cB cT tt r_ r_n r_o r_h r_A r_O r_H r_b r_x r_c r_m r_s r_z r_i r_v hov10) [0, 3] [.inr 0, .inl 1, .inl 2, .inr 1, .inl 4, .inl 5] k_867 k_864 k_866 k_33 rfl rfl k_47 hdX9_uneven (by decide) (Nat.le_of_ble_eq_true rfl) dX9_beat_56 (by decide) rfl rfl (by decide) rfl rfl ?_
            refine j_goto X (tgt := 86) dX9_beat_59 (by decide) ?_
            have hR := Option.some.inj hR
            exact j_iret X hr dX9_beat_86 (by rw [← hR]) (by rw [← hR])
        · replace hR := (if_pos cv6).symm.trans hR
          refine j_aload_n X (q := 0) dX9_beat_43 rfl ?_
          obtain ⟨ov11, hov11, hR⟩ := bd_some hR
          refine j_callV X (As := []) (rest := []) (ws2 := [cMod r_ r_n r_o r_h r_A r_O r_H r_b r_x r_c r_m r_s r_z r_i r_v im ov4.1 ov4.2.1 tx ta fa cl, cJar cJ r_A 4 ov4.2.2.1, cJar cJ r_H 4 ov4.2.2.2.1, cIar cI r_b 400 ov4.2.2.2.2.1, cIar cI r_h 69 ov4.2.2.2.2.2.1, cIar cI r_n 69 ov4.2.2.2.2.2.2]) (q0 := 0) (ci := 9) (mX9_gaps l D cI cJ cB cT tt r_ r_n r_o r_h r_A r_O r_H r_b r_x r_c r_m r_s r_z r_i r_v hov11) [0] [.inr 0, .inl 1, .inl 2, .inl 3, .inl 4, .inl 5] k_871 k_868 k_870 k_34 rfl rfl k_47 hdX9_gaps (by decide) (Nat.le_of_ble_eq_true rfl) dX9_beat_44 (by decide) rfl rfl (by decide) rfl rfl ?_
          refine j_goto X (tgt := 86) dX9_beat_47 (by decide) ?_
          have hR := Option.some.inj hR
          exact j_iret X hr dX9_beat_86 (by rw [← hR]) (by rw [← hR])
      · replace hR := (if_pos cv5).symm.trans hR
        refine j_aload_n X (q := 0) dX9_beat_31 rfl ?_
        refine j_get X 0 7 hiX9 k_672 dX9_beat_32 rfl rfl (by decide) rfl ?_
        refine j_goto X (tgt := 86) dX9_beat_35 (by decide) ?_
        have hR := Option.some.inj hR
        exact j_iret X hr dX9_beat_86 (by rw [← hR]) (by rw [← hR])
    · replace hR := (if_pos cv3).symm.trans hR
      refine j_aload_n X (q := 0) dX9_beat_18 rfl ?_
      obtain ⟨ov12, hov12, hR⟩ := bd_some hR
      refine j_callV X (As := []) (rest := []) (ws2 := [cMod r_ r_n r_o r_h r_A r_O r_H r_b r_x r_c r_m r_s r_z r_i r_v im ov12.2.1 ov12.2.2.1 tx ta fa cl, cJar cJ r_A 4 ov12.2.2.2.1, cJar cJ r_H 4 ov12.2.2.2.2.1, cIar cI r_b 400 ov12.2.2.2.2.2.1, cIar cI r_h 69 ov12.2.2.2.2.2.2.1, cIar cI r_n 69 ov12.2.2.2.2.2.2.2]) (q0 := 0) (ci := 9) (mX9_evenest l D cI cJ cB cT tt r_ r_n r_o r_h r_A r_O r_H r_b r_x r_c r_m r_s r_z r_i r_v hov12) [0, 1, 2, 3, 4, 5] [.inr 0, .inr 1, .inr 2, .inr 3, .inr 4, .inr 5] k_863 k_860 k_862 k_32 rfl rfl k_47 hdX9_evenest (by decide) (Nat.le_of_ble_eq_true rfl) dX9_beat_19 (by decide) rfl rfl (by decide) rfl rfl ?_
      have hR := Option.some.inj hR
      exact j_iret X hr dX9_beat_22 (by rw [← hR]) (by rw [← hR])
  · replace hR := (if_pos cv2).symm.trans hR
    refine j_sipush X (v := (-1000)) dX9_beat_9 (by decide) ?_
    have hR := Option.some.inj hR
    exact j_iret X hr dX9_beat_12 (by rw [← hR]) (by rw [← hR])

def rmX9_gap : Room := { frames := 6, cells := 0, slots := 0, locals := 137 }
theorem hdX9_gap : yX9_gap.cls ≠ "java/lang/invoke/MethodHandle" ∧ yX9_gap.cls ≠ "java/lang/invoke/VarHandle" ∧ (parseMethodDescriptor yX9_gap.desc).map (fun d => d.parameters.length) = some 1 := by decide +kernel
def fX9_gap (i1 : Int32) (im : Int32) (be : Int32) (bg : Int32) (tx : Int32) (ta : Int32) (fa : Int32) (cl : Int32) (f_A : Nat → Int64) (f_H : Nat → Int64) (f_b : Nat → Int32) (f_h : Nat → Int32) (f_n : Nat → Int32) : Option (Int32 × Int32 × Int32 × (Nat → Int64) × (Nat → Int64) × (Nat → Int32) × (Nat → Int32) × (Nat → Int32)) :=
  if (0 : Int32) ≤ i1 then ((fX9_hears_ im be bg tx ta fa cl f_A f_H f_b f_h f_n).bind fun ov2 =>
  (fX9_gaps im ov2.1 ov2.2.1 tx ta fa cl).bind fun ov3 =>
  if ov3 ≤ i1 then (some ((-5), ov2.1, ov2.2.1, ov2.2.2.1, ov2.2.2.2.1, ov2.2.2.2.2.1, ov2.2.2.2.2.2.1, ov2.2.2.2.2.2.2)) else ((fX9_gapOf i1 im ov2.1 ov2.2.1 tx ta fa cl ov2.2.2.2.2.1).bind fun ov5 =>
  some (ov5, ov2.1, ov2.2.1, ov2.2.2.1, ov2.2.2.2.1, ov2.2.2.2.2.1, ov2.2.2.2.2.2.1, ov2.2.2.2.2.2.2))) else (some ((-1), be, bg, f_A, f_H, f_b, f_h, f_n))
set_option maxHeartbeats 8000000 in
set_option maxRecDepth 100000 in
theorem mX9_gap (l : Launch) (D : va_G) (cI cJ cB cT : ClassId) (tt : Nat → Nat) (r_ r_n r_o r_h r_A r_O r_H r_b r_x r_c r_m r_s r_z r_i r_v : Nat) {i1 : Int32} {im : Int32} {be : Int32} {bg : Int32} {tx : Int32} {ta : Int32} {fa : Int32} {cl : Int32} {f_A : Nat → Int64} {f_H : Nat → Int64} {f_b : Nat → Int32} {f_h : Nat → Int32} {f_n : Nat → Int32} {out : Int32 × Int32 × Int32 × (Nat → Int64) × (Nat → Int64) × (Nat → Int32) × (Nat → Int32) × (Nat → Int32)} (h : fX9_gap i1 im be bg tx ta fa cl f_A f_H f_b f_h f_n = some out) :
    jM l yX9_gap (.code yX9_gap cX9_gap 2 (some .int)) rmX9_gap D (wTy cI cJ cB cT) tt [.ref r_, .int i1] [cMod r_ r_n r_o r_h r_A r_O r_H r_b r_x r_c r_m r_s r_z r_i r_v im be bg tx ta fa cl, cJar cJ r_A 4 f_A, cJar cJ r_H 4 f_H, cIar cI r_b 400 f_b, cIar cI r_h 69 f_h, cIar cI r_n 69 f_n] (some (.int out.1)) [cMod r_ r_n r_o r_h r_A r_O r_H r_b r_x r_c r_m r_s r_z r_i r_v im out.2.1 out.2.2.1 tx ta fa cl, cJar cJ r_A 4 out.2.2.2.1, cJar cJ r_H 4 out.2.2.2.2.1, cIar cI r_b 400 out.2.2.2.2.2.1, cIar cI r_h 69 out.2.2.2.2.2.2.1, cIar cI r_n 69 out.2.2.2.2.2.2.2] := by
  refine jM.of (by decide) (Nat.le_of_ble_eq_true rfl) ?_
  intro p e s m below meth c A X hr
  refine j_sub (lv2 := [(0, .ref r_), (1, .int i1)]) [0, 1] rfl ?_
  have hR := h
  unfold fX9_gap at hR
  refine j_iload_n X (q := 1) dX9_gap_0 rfl ?_
  refine j_if_ge X (tgt := 6) dX9_gap_1 (by decide) (fun cv1 => ?_) (fun cv1 => ?_)
  · replace hR := (if_pos cv1).symm.trans hR
    refine j_aload_n X (q := 0) dX9_gap_6 rfl ?_
    obtain ⟨ov2, hov2, hR⟩ := bd_some hR
    refine j_callV X (As := []) (rest := []) (ws2 := [cMod r_ r_n r_o r_h r_A r_O r_H r_b r_x r_c r_m r_s r_z r_i r_v im ov2.1 ov2.2.1 tx ta fa cl, cJar cJ r_A 4 ov2.2.2.1, cJar cJ r_H 4 ov2.2.2.2.1, cIar cI r_b 400 ov2.2.2.2.2.1, cIar cI r_h 69 ov2.2.2.2.2.2.1, cIar cI r_n 69 ov2.2.2.2.2.2.2]) (q0 := 0) (ci := 9) (mX9_hears_ l D cI cJ cB cT tt r_ r_n r_o r_h r_A r_O r_H r_b r_x r_c r_m r_s r_z r_i r_v hov2) [0, 1, 2, 3, 4, 5] [.inr 0, .inr 1, .inr 2, .inr 3, .inr 4, .inr 5] k_851 k_848 k_850 k_30 rfl rfl k_47 hdX9_hears_ (by decide) (Nat.le_of_ble_eq_true rfl) dX9_gap_7 (by decide) rfl rfl (by decide) rfl rfl ?_
    refine j_iload_n X (q := 1) dX9_gap_10 rfl ?_
    refine j_aload_n X (q := 0) dX9_gap_11 rfl ?_
    obtain ⟨ov3, hov3, hR⟩ := bd_some hR
    refine j_callV X (As := []) (rest := [.int i1]) (ws2 := [cMod r_ r_n r_o r_h r_A r_O r_H r_b r_x r_c r_m r_s r_z r_i r_v im ov2.1 ov2.2.1 tx ta fa cl, cJar cJ r_A 4 ov2.2.2.1, cJar cJ r_H 4 ov2.2.2.2.1, cIar cI r_b 400 ov2.2.2.2.2.1, cIar cI r_h 69 ov2.2.2.2.2.2.1, cIar cI r_n 69 ov2.2.2.2.2.2.2]) (q0 := 0) (ci := 9) (mX9_gaps l D cI cJ cB cT tt r_ r_n r_o r_h r_A r_O r_H r_b r_x r_c r_m r_s r_z r_i r_v hov3) [0] [.inr 0, .inl 1, .inl 2, .inl 3, .inl 4, .inl 5] k_871 k_868 k_870 k_34 rfl rfl k_47 hdX9_gaps (by decide) (Nat.le_of_ble_eq_true rfl) dX9_gap_12 (by decide) rfl rfl (by decide) rfl rfl ?_
    refine j_icmp_ge X (tgt := 26) dX9_gap_15 (by decide) (fun cv4 => ?_) (fun cv4 => ?_)
    · replace hR := (if_pos cv4).symm.trans hR
      refine j_bipush X (v := (-5)) dX9_gap_26 (by decide) ?_
      have hR := Option.some.inj hR
      exact j_iret X hr dX9_gap_28 (by rw [← hR]) (by rw [← hR])
    · replace hR := (if_neg cv4).symm.trans hR
      refine j_aload_n X (q := 0) dX9_gap_18 rfl ?_
      refine j_iload_n X (q := 1) dX9_gap_19 rfl ?_
      obtain ⟨ov5, hov5, hR⟩ := bd_some hR
      refine j_callV X (As := [.int i1]) (rest := []) (ws2 := [cMod r_ r_n r_o r_h r_A r_O r_H r_b r_x r_c r_m r_s r_z r_i r_v im ov2.1 ov2.2.1 tx ta fa cl, cJar cJ r_A 4 ov2.2.2.1, cJar cJ r_H 4 ov2.2.2.2.1, cIar cI r_b 400 ov2.2.2.2.2.1, cIar cI r_h 69 ov2.2.2.2.2.2.1, cIar cI r_n 69 ov2.2.2.2.2.2.2]) (q0 := 0) (ci := 9) (mX9_gapOf l D cI cJ cB cT tt r_ r_n r_o r_h r_A r_O r_H r_b r_x r_c r_m r_s r_z r_i r_v hov5) [0, 3] [.inr 0, .inl 1, .inl 2, .inr 1, .inl 4, .inl 5] k_875 k_872 k_874 k_35 rfl rfl k_47 hdX9_gapOf (by decide) (Nat.le_of_ble_eq_true rfl) dX9_gap_20 (by decide) rfl rfl (by decide) rfl rfl ?_
      refine j_goto X (tgt := 28) dX9_gap_23 (by decide) ?_
      have hR := Option.some.inj hR
      exact j_iret X hr dX9_gap_28 (by rw [← hR]) (by rw [← hR])
  · replace hR := (if_neg cv1).symm.trans hR
    refine j_iconst X (v := (-1)) dX9_gap_4 (by decide) ?_
    have hR := Option.some.inj hR
    exact j_iret X hr dX9_gap_5 (by rw [← hR]) (by rw [← hR])

def rmX9_longest : Room := { frames := 6, cells := 0, slots := 0, locals := 137 }
theorem hdX9_longest : yX9_longest.cls ≠ "java/lang/invoke/MethodHandle" ∧ yX9_longest.cls ≠ "java/lang/invoke/VarHandle" ∧ (parseMethodDescriptor yX9_longest.desc).map (fun d => d.parameters.length) = some 2 := by decide +kernel
def fX9_longest_35 (i1 : Int32) (i2 : Int32) (im : Int32) (tx : Int32) (ta : Int32) (fa : Int32) (cl : Int32) (K_21 : Int32 → Int32 → Int32 → (Nat → Int64) → (Nat → Int64) → (Nat → Int32) → (Nat → Int32) → (Nat → Int32) → Option (Int32 × Int32 × Int32 × (Nat → Int64) × (Nat → Int64) × (Nat → Int32) × (Nat → Int32) × (Nat → Int32))) : Nat → Int32 → Int32 → Int32 → Int32 → Int32 → (Nat → Int64) → (Nat → Int64) → (Nat → Int32) → (Nat → Int32) → (Nat → Int32) → Option (Int32 × Int32 × Int32 × (Nat → Int64) × (Nat → Int64) × (Nat → Int32) × (Nat → Int32) × (Nat → Int32))
  | 0, _, _, _, _, _, _, _, _, _, _ => none
  | fu + 1, x3, x4, x5, be, bg, f_A, f_H, f_b, f_h, f_n =>
    (fX9_gaps im be bg tx ta fa cl).bind fun ov7 =>
  if ov7 ≤ x5 then (if x4 = i1 then (if i2 = 0 then ((fX9_gapOf x3 im be bg tx ta fa cl f_b).bind fun ov12 =>
  some (ov12, be, bg, f_A, f_H, f_b, f_h, f_n)) else (some (x3, be, bg, f_A, f_H, f_b, f_h, f_n))) else (lt' (x3 + 1) fun x3v10 =>
  K_21 x3v10 be bg f_A f_H f_b f_h f_n)) else ((fX9_gapOf x5 im be bg tx ta fa cl f_b).bind fun ov13 =>
  (fX9_gapOf x3 im be bg tx ta fa cl f_b).bind fun ov14 =>
  if ov14 < ov13 then (lt' (x4 + 1) fun x4v16 =>
  lt' (x5 + 1) fun x5v17 =>
  fX9_longest_35 i1 i2 im tx ta fa cl K_21 fu x3 x4v16 x5v17 be bg f_A f_H f_b f_h f_n) else ((fX9_gapOf x5 im be bg tx ta fa cl f_b).bind fun ov18 =>
  (fX9_gapOf x3 im be bg tx ta fa cl f_b).bind fun ov19 =>
  if ov18 = ov19 then (if x3 ≤ x5 then (lt' (x5 + 1) fun x5v23 =>
  fX9_longest_35 i1 i2 im tx ta fa cl K_21 fu x3 x4 x5v23 be bg f_A f_H f_b f_h f_n) else (lt' (x4 + 1) fun x4v24 =>
  lt' (x5 + 1) fun x5v25 =>
  fX9_longest_35 i1 i2 im tx ta fa cl K_21 fu x3 x4v24 x5v25 be bg f_A f_H f_b f_h f_n)) else (lt' (x5 + 1) fun x5v21 =>
  fX9_longest_35 i1 i2 im tx ta fa cl K_21 fu x3 x4 x5v21 be bg f_A f_H f_b f_h f_n)))
def fX9_longest_21 (i1 : Int32) (i2 : Int32) (im : Int32) (tx : Int32) (ta : Int32) (fa : Int32) (cl : Int32) : Nat → Int32 → Int32 → Int32 → (Nat → Int64) → (Nat → Int64) → (Nat → Int32) → (Nat → Int32) → (Nat → Int32) → Option (Int32 × Int32 × Int32 × (Nat → Int64) × (Nat → Int64) × (Nat → Int32) × (Nat → Int32) × (Nat → Int32))
  | 0, _, _, _, _, _, _, _, _ => none
  | fu + 1, x3, be, bg, f_A, f_H, f_b, f_h, f_n =>
    (fX9_gaps im be bg tx ta fa cl).bind fun ov5 =>
  if ov5 ≤ x3 then (some ((-5), be, bg, f_A, f_H, f_b, f_h, f_n)) else (fX9_longest_35 i1 i2 im tx ta fa cl (fX9_longest_21 i1 i2 im tx ta fa cl fu) 500 x3 0 0 be bg f_A f_H f_b f_h f_n)
def fX9_longest (i1 : Int32) (i2 : Int32) (im : Int32) (be : Int32) (bg : Int32) (tx : Int32) (ta : Int32) (fa : Int32) (cl : Int32) (f_A : Nat → Int64) (f_H : Nat → Int64) (f_b : Nat → Int32) (f_h : Nat → Int32) (f_n : Nat → Int32) : Option (Int32 × Int32 × Int32 × (Nat → Int64) × (Nat → Int64) × (Nat → Int32) × (Nat → Int32) × (Nat → Int32)) :=
  if i1 < 0 then (some ((-1), be, bg, f_A, f_H, f_b, f_h, f_n)) else ((fX9_within i2 0 1).bind fun ov2 =>
  if ov2 = 0 then (some ((-1), be, bg, f_A, f_H, f_b, f_h, f_n)) else ((fX9_hears_ im be bg tx ta fa cl f_A f_H f_b f_h f_n).bind fun ov4 =>
  fX9_longest_21 i1 i2 im tx ta fa cl 500 0 ov4.1 ov4.2.1 ov4.2.2.1 ov4.2.2.2.1 ov4.2.2.2.2.1 ov4.2.2.2.2.2.1 ov4.2.2.2.2.2.2))
set_option maxHeartbeats 8000000 in
set_option maxRecDepth 100000 in
theorem mX9_longest (l : Launch) (D : va_G) (cI cJ cB cT : ClassId) (tt : Nat → Nat) (r_ r_n r_o r_h r_A r_O r_H r_b r_x r_c r_m r_s r_z r_i r_v : Nat) {i1 : Int32} {i2 : Int32} {im : Int32} {be : Int32} {bg : Int32} {tx : Int32} {ta : Int32} {fa : Int32} {cl : Int32} {f_A : Nat → Int64} {f_H : Nat → Int64} {f_b : Nat → Int32} {f_h : Nat → Int32} {f_n : Nat → Int32} {out : Int32 × Int32 × Int32 × (Nat → Int64) × (Nat → Int64) × (Nat → Int32) × (Nat → Int32) × (Nat → Int32)} (h : fX9_longest i1 i2 im be bg tx ta fa cl f_A f_H f_b f_h f_n = some out) :
    jM l yX9_longest (.code yX9_longest cX9_longest 6 (some .int)) rmX9_longest D (wTy cI cJ cB cT) tt [.ref r_, .int i1, .int i2] [cMod r_ r_n r_o r_h r_A r_O r_H r_b r_x r_c r_m r_s r_z r_i r_v im be bg tx ta fa cl, cJar cJ r_A 4 f_A, cJar cJ r_H 4 f_H, cIar cI r_b 400 f_b, cIar cI r_h 69 f_h, cIar cI r_n 69 f_n] (some (.int out.1)) [cMod r_ r_n r_o r_h r_A r_O r_H r_b r_x r_c r_m r_s r_z r_i r_v im out.2.1 out.2.2.1 tx ta fa cl, cJar cJ r_A 4 out.2.2.2.1, cJar cJ r_H 4 out.2.2.2.2.1, cIar cI r_b 400 out.2.2.2.2.2.1, cIar cI r_h 69 out.2.2.2.2.2.2.1, cIar cI r_n 69 out.2.2.2.2.2.2.2] := by
  refine jM.of (by decide) (Nat.le_of_ble_eq_true rfl) ?_
  intro p e s m below meth c A X hr
  have L_35 : ∀ (K_21 : Int32 → Int32 → Int32 → (Nat → Int64) → (Nat → Int64) → (Nat → Int32) → (Nat → Int32) → (Nat → Int32) → Option (Int32 × Int32 × Int32 × (Nat → Int64) × (Nat → Int64) × (Nat → Int32) × (Nat → Int32) × (Nat → Int32))), (∀ (x3 : Int32) (be : Int32) (bg : Int32) (f_A : Nat → Int64) (f_H : Nat → Int64) (f_b : Nat → Int32) (f_h : Nat → Int32) (f_n : Nat → Int32), K_21 x3 be bg f_A f_H f_b f_h f_n = some out → jW p l e rmX9_longest s m ([.ref r_, .int i1, .int i2] : List Value).toArray below meth c D A 6 (MQ below (jQ D (some (.int out.1)) [cMod r_ r_n r_o r_h r_A r_O r_H r_b r_x r_c r_m r_s r_z r_i r_v im out.2.1 out.2.2.1 tx ta fa cl, cJar cJ r_A 4 out.2.2.2.1, cJar cJ r_H 4 out.2.2.2.2.1, cIar cI r_b 400 out.2.2.2.2.2.1, cIar cI r_h 69 out.2.2.2.2.2.2.1, cIar cI r_n 69 out.2.2.2.2.2.2.2] A) ([.ref r_, .int i1, .int i2] : List Value).toArray s 0 0 A) 0 0 21 [(0, .ref r_), (1, .int i1), (2, .int i2), (3, .int x3)] [] [cMod r_ r_n r_o r_h r_A r_O r_H r_b r_x r_c r_m r_s r_z r_i r_v im be bg tx ta fa cl, cJar cJ r_A 4 f_A, cJar cJ r_H 4 f_H, cIar cI r_b 400 f_b, cIar cI r_h 69 f_h, cIar cI r_n 69 f_n]) → ∀ (fuel : Nat) (x3 : Int32) (x4 : Int32) (x5 : Int32) (be : Int32) (bg : Int32) (f_A : Nat → Int64) (f_H : Nat → Int64) (f_b : Nat → Int32) (f_h : Nat → Int32) (f_n : Nat → Int32), fX9_longest_35 i1 i2 im tx ta fa cl K_21 fuel x3 x4 x5 be bg f_A f_H f_b f_h f_n = some out → jW p l e rmX9_longest s m ([.ref r_, .int i1, .int i2] : List Value).toArray below meth c D A 6 (MQ below (jQ D (some (.int out.1)) [cMod r_ r_n r_o r_h r_A r_O r_H r_b r_x r_c r_m r_s r_z r_i r_v im out.2.1 out.2.2.1 tx ta fa cl, cJar cJ r_A 4 out.2.2.2.1, cJar cJ r_H 4 out.2.2.2.2.1, cIar cI r_b 400 out.2.2.2.2.2.1, cIar cI r_h 69 out.2.2.2.2.2.2.1, cIar cI r_n 69 out.2.2.2.2.2.2.2] A) ([.ref r_, .int i1, .int i2] : List Value).toArray s 0 0 A) 0 0 35 [(0, .ref r_), (1, .int i1), (2, .int i2), (3, .int x3), (4, .int x4), (5, .int x5)] [] [cMod r_ r_n r_o r_h r_A r_O r_H r_b r_x r_c r_m r_s r_z r_i r_v im be bg tx ta fa cl, cJar cJ r_A 4 f_A, cJar cJ r_H 4 f_H, cIar cI r_b 400 f_b, cIar cI r_h 69 f_h, cIar cI r_n 69 f_n] := by
    intro K_21 hK_21 fuel
    induction fuel with
    | zero =>
      intro x3 x4 x5 be bg f_A f_H f_b f_h f_n hR
      rw [fX9_longest_35] at hR
      cases hR
    | succ fu ih =>
      intro x3 x4 x5 be bg f_A f_H f_b f_h f_n hR
      rw [fX9_longest_35] at hR
      refine j_iload X (q := 5) dX9_longest_35 rfl ?_
      refine j_aload_n X (q := 0) dX9_longest_37 rfl ?_
      obtain ⟨ov7, hov7, hR⟩ := bd_some hR
      refine j_callV X (As := []) (rest := [.int x5]) (ws2 := [cMod r_ r_n r_o r_h r_A r_O r_H r_b r_x r_c r_m r_s r_z r_i r_v im be bg tx ta fa cl, cJar cJ r_A 4 f_A, cJar cJ r_H 4 f_H, cIar cI r_b 400 f_b, cIar cI r_h 69 f_h, cIar cI r_n 69 f_n]) (q0 := 0) (ci := 9) (mX9_gaps l D cI cJ cB cT tt r_ r_n r_o r_h r_A r_O r_H r_b r_x r_c r_m r_s r_z r_i r_v hov7) [0] [.inr 0, .inl 1, .inl 2, .inl 3, .inl 4, .inl 5] k_871 k_868 k_870 k_34 rfl rfl k_47 hdX9_gaps (by decide) (Nat.le_of_ble_eq_true rfl) dX9_longest_38 (by decide) rfl rfl (by decide) rfl rfl ?_
      refine j_icmp_ge X (tgt := 87) dX9_longest_41 (by decide) (fun cv8 => ?_) (fun cv8 => ?_)
      · replace hR := (if_pos cv8).symm.trans hR
        refine j_iload X (q := 4) dX9_longest_87 rfl ?_
        refine j_iload_n X (q := 1) dX9_longest_89 rfl ?_
        refine j_icmp_ne X (tgt := 107) dX9_longest_90 (by decide) (fun cv9 => ?_) (fun cv9 => ?_)
        · replace hR := (if_neg cv9).symm.trans hR
          obtain ⟨x3v10, ex3v10, hR⟩ := lt_some hR
          refine j_iinc X (k := 3) (v := x3v10) (lv2 := [(3, .int x3v10), (0, .ref r_), (1, .int i1), (2, .int i2), (4, .int x4), (5, .int x5)]) dX9_longest_107 rfl (by rw [← ex3v10]; rfl) (by decide) rfl ?_
          refine j_goto X (tgt := 21) dX9_longest_110 (by decide) ?_
          refine j_sub (lv2 := [(0, .ref r_), (1, .int i1), (2, .int i2), (3, .int x3v10)]) [1, 2, 3, 0] rfl ?_
          exact hK_21 _ _ _ _ _ _ _ _ hR
        · replace hR := (if_pos cv9).symm.trans hR
          refine j_iload_n X (q := 2) dX9_longest_93 rfl ?_
          refine j_if_ne X (tgt := 105) dX9_longest_94 (by decide) (fun cv11 => ?_) (fun cv11 => ?_)
          · replace hR := (if_neg cv11).symm.trans hR
            refine j_iload_n X (q := 3) dX9_longest_105 rfl ?_
            have hR := Option.some.inj hR
            exact j_iret X hr dX9_longest_106 (by rw [← hR]) (by rw [← hR])
          · replace hR := (if_pos cv11).symm.trans hR
            refine j_aload_n X (q := 0) dX9_longest_97 rfl ?_
            refine j_iload_n X (q := 3) dX9_longest_98 rfl ?_
            obtain ⟨ov12, hov12, hR⟩ := bd_some hR
            refine j_callV X (As := [.int x3]) (rest := []) (ws2 := [cMod r_ r_n r_o r_h r_A r_O r_H r_b r_x r_c r_m r_s r_z r_i r_v im be bg tx ta fa cl, cJar cJ r_A 4 f_A, cJar cJ r_H 4 f_H, cIar cI r_b 400 f_b, cIar cI r_h 69 f_h, cIar cI r_n 69 f_n]) (q0 := 0) (ci := 9) (mX9_gapOf l D cI cJ cB cT tt r_ r_n r_o r_h r_A r_O r_H r_b r_x r_c r_m r_s r_z r_i r_v hov12) [0, 3] [.inr 0, .inl 1, .inl 2, .inr 1, .inl 4, .inl 5] k_875 k_872 k_874 k_35 rfl rfl k_47 hdX9_gapOf (by decide) (Nat.le_of_ble_eq_true rfl) dX9_longest_99 (by decide) rfl rfl (by decide) rfl rfl ?_
            refine j_goto X (tgt := 106) dX9_longest_102 (by decide) ?_
            have hR := Option.some.inj hR
            exact j_iret X hr dX9_longest_106 (by rw [← hR]) (by rw [← hR])
      · replace hR := (if_neg cv8).symm.trans hR
        refine j_aload_n X (q := 0) dX9_longest_44 rfl ?_
        refine j_iload X (q := 5) dX9_longest_45 rfl ?_
        obtain ⟨ov13, hov13, hR⟩ := bd_some hR
        refine j_callV X (As := [.int x5]) (rest := []) (ws2 := [cMod r_ r_n r_o r_h r_A r_O r_H r_b r_x r_c r_m r_s r_z r_i r_v im be bg tx ta fa cl, cJar cJ r_A 4 f_A, cJar cJ r_H 4 f_H, cIar cI r_b 400 f_b, cIar cI r_h 69 f_h, cIar cI r_n 69 f_n]) (q0 := 0) (ci := 9) (mX9_gapOf l D cI cJ cB cT tt r_ r_n r_o r_h r_A r_O r_H r_b r_x r_c r_m r_s r_z r_i r_v hov13) [0, 3] [.inr 0, .inl 1, .inl 2, .inr 1, .inl 4, .inl 5] k_875 k_872 k_874 k_35 rfl rfl k_47 hdX9_gapOf (by decide) (Nat.le_of_ble_eq_true rfl) dX9_longest_47 (by decide) rfl rfl (by decide) rfl rfl ?_
        refine j_aload_n X (q := 0) dX9_longest_50 rfl ?_
        refine j_iload_n X (q := 3) dX9_longest_51 rfl ?_
        obtain ⟨ov14, hov14, hR⟩ := bd_some hR
        refine j_callV X (As := [.int x3]) (rest := [.int ov13]) (ws2 := [cMod r_ r_n r_o r_h r_A r_O r_H r_b r_x r_c r_m r_s r_z r_i r_v im be bg tx ta fa cl, cJar cJ r_A 4 f_A, cJar cJ r_H 4 f_H, cIar cI r_b 400 f_b, cIar cI r_h 69 f_h, cIar cI r_n 69 f_n]) (q0 := 0) (ci := 9) (mX9_gapOf l D cI cJ cB cT tt r_ r_n r_o r_h r_A r_O r_H r_b r_x r_c r_m r_s r_z r_i r_v hov14) [0, 3] [.inr 0, .inl 1, .inl 2, .inr 1, .inl 4, .inl 5] k_875 k_872 k_874 k_35 rfl rfl k_47 hdX9_gapOf (by decide) (Nat.le_of_ble_eq_true rfl) dX9_longest_52 (by decide) rfl rfl (by decide) rfl rfl ?_
        refine j_icmp_gt X (tgt := 78) dX9_longest_55 (by decide) (fun cv15 => ?_) (fun cv15 => ?_)
        · replace hR := (if_pos cv15).symm.trans hR
          obtain ⟨x4v16, ex4v16, hR⟩ := lt_some hR
          refine j_iinc X (k := 4) (v := x4v16) (lv2 := [(4, .int x4v16), (0, .ref r_), (1, .int i1), (2, .int i2), (3, .int x3), (5, .int x5)]) dX9_longest_78 rfl (by rw [← ex4v16]; rfl) (by decide) rfl ?_
          obtain ⟨x5v17, ex5v17, hR⟩ := lt_some hR
          refine j_iinc X (k := 5) (v := x5v17) (lv2 := [(5, .int x5v17), (4, .int x4v16), (0, .ref r_), (1, .int i1), (2, .int i2), (3, .int x3)]) dX9_longest_81 rfl (by rw [← ex5v17]; rfl) (by decide) rfl ?_
          refine j_goto X (tgt := 35) dX9_longest_84 (by decide) ?_
          refine j_sub (lv2 := [(0, .ref r_), (1, .int i1), (2, .int i2), (3, .int x3), (4, .int x4v16), (5, .int x5v17)]) [2, 3, 4, 5, 1, 0] rfl ?_
          exact ih _ _ _ _ _ _ _ _ _ _ hR
        · replace hR := (if_neg cv15).symm.trans hR
          refine j_aload_n X (q := 0) dX9_longest_58 rfl ?_
          refine j_iload X (q := 5) dX9_longest_59 rfl ?_
          obtain ⟨ov18, hov18, hR⟩ := bd_some hR
          refine j_callV X (As := [.int x5]) (rest := []) (ws2 := [cMod r_ r_n r_o r_h r_A r_O r_H r_b r_x r_c r_m r_s r_z r_i r_v im be bg tx ta fa cl, cJar cJ r_A 4 f_A, cJar cJ r_H 4 f_H, cIar cI r_b 400 f_b, cIar cI r_h 69 f_h, cIar cI r_n 69 f_n]) (q0 := 0) (ci := 9) (mX9_gapOf l D cI cJ cB cT tt r_ r_n r_o r_h r_A r_O r_H r_b r_x r_c r_m r_s r_z r_i r_v hov18) [0, 3] [.inr 0, .inl 1, .inl 2, .inr 1, .inl 4, .inl 5] k_875 k_872 k_874 k_35 rfl rfl k_47 hdX9_gapOf (by decide) (Nat.le_of_ble_eq_true rfl) dX9_longest_61 (by decide) rfl rfl (by decide) rfl rfl ?_
          refine j_aload_n X (q := 0) dX9_longest_64 rfl ?_
          refine j_iload_n X (q := 3) dX9_longest_65 rfl ?_
          obtain ⟨ov19, hov19, hR⟩ := bd_some hR
          refine j_callV X (As := [.int x3]) (rest := [.int ov18]) (ws2 := [cMod r_ r_n r_o r_h r_A r_O r_H r_b r_x r_c r_m r_s r_z r_i r_v im be bg tx ta fa cl, cJar cJ r_A 4 f_A, cJar cJ r_H 4 f_H, cIar cI r_b 400 f_b, cIar cI r_h 69 f_h, cIar cI r_n 69 f_n]) (q0 := 0) (ci := 9) (mX9_gapOf l D cI cJ cB cT tt r_ r_n r_o r_h r_A r_O r_H r_b r_x r_c r_m r_s r_z r_i r_v hov19) [0, 3] [.inr 0, .inl 1, .inl 2, .inr 1, .inl 4, .inl 5] k_875 k_872 k_874 k_35 rfl rfl k_47 hdX9_gapOf (by decide) (Nat.le_of_ble_eq_true rfl) dX9_longest_66 (by decide) rfl rfl (by decide) rfl rfl ?_
          refine j_icmp_ne X (tgt := 81) dX9_longest_69 (by decide) (fun cv20 => ?_) (fun cv20 => ?_)
          · replace hR := (if_neg cv20).symm.trans hR
            obtain ⟨x5v21, ex5v21, hR⟩ := lt_some hR
            refine j_iinc X (k := 5) (v := x5v21) (lv2 := [(5, .int x5v21), (0, .ref r_), (1, .int i1), (2, .int i2), (3, .int x3), (4, .int x4)]) dX9_longest_81 rfl (by rw [← ex5v21]; rfl) (by decide) rfl ?_
            refine j_goto X (tgt := 35) dX9_longest_84 (by decide) ?_
            refine j_sub (lv2 := [(0, .ref r_), (1, .int i1), (2, .int i2), (3, .int x3), (4, .int x4), (5, .int x5v21)]) [1, 2, 3, 4, 5, 0] rfl ?_
            exact ih _ _ _ _ _ _ _ _ _ _ hR
          · replace hR := (if_pos cv20).symm.trans hR
            refine j_iload X (q := 5) dX9_longest_72 rfl ?_
            refine j_iload_n X (q := 3) dX9_longest_74 rfl ?_
            refine j_icmp_ge X (tgt := 81) dX9_longest_75 (by decide) (fun cv22 => ?_) (fun cv22 => ?_)
            · replace hR := (if_pos cv22).symm.trans hR
              obtain ⟨x5v23, ex5v23, hR⟩ := lt_some hR
              refine j_iinc X (k := 5) (v := x5v23) (lv2 := [(5, .int x5v23), (0, .ref r_), (1, .int i1), (2, .int i2), (3, .int x3), (4, .int x4)]) dX9_longest_81 rfl (by rw [← ex5v23]; rfl) (by decide) rfl ?_
              refine j_goto X (tgt := 35) dX9_longest_84 (by decide) ?_
              refine j_sub (lv2 := [(0, .ref r_), (1, .int i1), (2, .int i2), (3, .int x3), (4, .int x4), (5, .int x5v23)]) [1, 2, 3, 4, 5, 0] rfl ?_
              exact ih _ _ _ _ _ _ _ _ _ _ hR
            · replace hR := (if_neg cv22).symm.trans hR
              obtain ⟨x4v24, ex4v24, hR⟩ := lt_some hR
              refine j_iinc X (k := 4) (v := x4v24) (lv2 := [(4, .int x4v24), (0, .ref r_), (1, .int i1), (2, .int i2), (3, .int x3), (5, .int x5)]) dX9_longest_78 rfl (by rw [← ex4v24]; rfl) (by decide) rfl ?_
              obtain ⟨x5v25, ex5v25, hR⟩ := lt_some hR
              refine j_iinc X (k := 5) (v := x5v25) (lv2 := [(5, .int x5v25), (4, .int x4v24), (0, .ref r_), (1, .int i1), (2, .int i2), (3, .int x3)]) dX9_longest_81 rfl (by rw [← ex5v25]; rfl) (by decide) rfl ?_
              refine j_goto X (tgt := 35) dX9_longest_84 (by decide) ?_
              refine j_sub (lv2 := [(0, .ref r_), (1, .int i1), (2, .int i2), (3, .int x3), (4, .int x4v24), (5, .int x5v25)]) [2, 3, 4, 5, 1, 0] rfl ?_
              exact ih _ _ _ _ _ _ _ _ _ _ hR
  have L_21 : ∀ (fuel : Nat) (x3 : Int32) (be : Int32) (bg : Int32) (f_A : Nat → Int64) (f_H : Nat → Int64) (f_b : Nat → Int32) (f_h : Nat → Int32) (f_n : Nat → Int32), fX9_longest_21 i1 i2 im tx ta fa cl  fuel x3 be bg f_A f_H f_b f_h f_n = some out → jW p l e rmX9_longest s m ([.ref r_, .int i1, .int i2] : List Value).toArray below meth c D A 6 (MQ below (jQ D (some (.int out.1)) [cMod r_ r_n r_o r_h r_A r_O r_H r_b r_x r_c r_m r_s r_z r_i r_v im out.2.1 out.2.2.1 tx ta fa cl, cJar cJ r_A 4 out.2.2.2.1, cJar cJ r_H 4 out.2.2.2.2.1, cIar cI r_b 400 out.2.2.2.2.2.1, cIar cI r_h 69 out.2.2.2.2.2.2.1, cIar cI r_n 69 out.2.2.2.2.2.2.2] A) ([.ref r_, .int i1, .int i2] : List Value).toArray s 0 0 A) 0 0 21 [(0, .ref r_), (1, .int i1), (2, .int i2), (3, .int x3)] [] [cMod r_ r_n r_o r_h r_A r_O r_H r_b r_x r_c r_m r_s r_z r_i r_v im be bg tx ta fa cl, cJar cJ r_A 4 f_A, cJar cJ r_H 4 f_H, cIar cI r_b 400 f_b, cIar cI r_h 69 f_h, cIar cI r_n 69 f_n] := by
    intro  fuel
    induction fuel with
    | zero =>
      intro x3 be bg f_A f_H f_b f_h f_n hR
      rw [fX9_longest_21] at hR
      cases hR
    | succ fu ih =>
      intro x3 be bg f_A f_H f_b f_h f_n hR
      rw [fX9_longest_21] at hR
      refine j_iload_n X (q := 3) dX9_longest_21 rfl ?_
      refine j_aload_n X (q := 0) dX9_longest_22 rfl ?_
      obtain ⟨ov5, hov5, hR⟩ := bd_some hR
      refine j_callV X (As := []) (rest := [.int x3]) (ws2 := [cMod r_ r_n r_o r_h r_A r_O r_H r_b r_x r_c r_m r_s r_z r_i r_v im be bg tx ta fa cl, cJar cJ r_A 4 f_A, cJar cJ r_H 4 f_H, cIar cI r_b 400 f_b, cIar cI r_h 69 f_h, cIar cI r_n 69 f_n]) (q0 := 0) (ci := 9) (mX9_gaps l D cI cJ cB cT tt r_ r_n r_o r_h r_A r_O r_H r_b r_x r_c r_m r_s r_z r_i r_v hov5) [0] [.inr 0, .inl 1, .inl 2, .inl 3, .inl 4, .inl 5] k_871 k_868 k_870 k_34 rfl rfl k_47 hdX9_gaps (by decide) (Nat.le_of_ble_eq_true rfl) dX9_longest_23 (by decide) rfl rfl (by decide) rfl rfl ?_
      refine j_icmp_ge X (tgt := 113) dX9_longest_26 (by decide) (fun cv6 => ?_) (fun cv6 => ?_)
      · replace hR := (if_pos cv6).symm.trans hR
        refine j_bipush X (v := (-5)) dX9_longest_113 (by decide) ?_
        have hR := Option.some.inj hR
        exact j_iret X hr dX9_longest_115 (by rw [← hR]) (by rw [← hR])
      · replace hR := (if_neg cv6).symm.trans hR
        refine j_iconst X (v := 0) dX9_longest_29 (by decide) ?_
        refine j_istore X (lv2 := [(4, .int 0), (0, .ref r_), (1, .int i1), (2, .int i2), (3, .int x3)]) dX9_longest_30 (by decide) rfl ?_
        refine j_iconst X (v := 0) dX9_longest_32 (by decide) ?_
        refine j_istore X (lv2 := [(5, .int 0), (4, .int 0), (0, .ref r_), (1, .int i1), (2, .int i2), (3, .int x3)]) dX9_longest_33 (by decide) rfl ?_
        refine j_sub (lv2 := [(0, .ref r_), (1, .int i1), (2, .int i2), (3, .int x3), (4, .int 0), (5, .int 0)]) [2, 3, 4, 5, 1, 0] rfl ?_
        exact L_35 _ ih _ _ _ _ _ _ _ _ _ _ _ hR
  refine j_sub (lv2 := [(0, .ref r_), (1, .int i1), (2, .int i2)]) [0, 1, 2] rfl ?_
  have hR := h
  unfold fX9_longest at hR
  refine j_iload_n X (q := 1) dX9_longest_0 rfl ?_
  refine j_if_lt X (tgt := 13) dX9_longest_1 (by decide) (fun cv1 => ?_) (fun cv1 => ?_)
  · replace hR := (if_pos cv1).symm.trans hR
    refine j_iconst X (v := (-1)) dX9_longest_13 (by decide) ?_
    have hR := Option.some.inj hR
    exact j_iret X hr dX9_longest_14 (by rw [← hR]) (by rw [← hR])
  · replace hR := (if_neg cv1).symm.trans hR
    refine j_iload_n X (q := 2) dX9_longest_4 rfl ?_
    refine j_iconst X (v := 0) dX9_longest_5 (by decide) ?_
    refine j_iconst X (v := 1) dX9_longest_6 (by decide) ?_
    obtain ⟨ov2, hov2, hR⟩ := bd_some hR
    refine j_callS X (As := [.int i2, .int 0, .int 1]) (rest := []) (ws2 := [cMod r_ r_n r_o r_h r_A r_O r_H r_b r_x r_c r_m r_s r_z r_i r_v im be bg tx ta fa cl, cJar cJ r_A 4 f_A, cJar cJ r_H 4 f_H, cIar cI r_b 400 f_b, cIar cI r_h 69 f_h, cIar cI r_n 69 f_n]) (mX9_within l D cI cJ cB cT tt  hov2) [] [.inl 0, .inl 1, .inl 2, .inl 3, .inl 4, .inl 5] k_735 k_733 k_734 k_47 hdX9_within (by decide) (Nat.le_of_ble_eq_true rfl) dX9_longest_7 (by decide) rfl rfl (by decide) rfl rfl ?_
    refine j_if_ne X (tgt := 15) dX9_longest_10 (by decide) (fun cv3 => ?_) (fun cv3 => ?_)
    · replace hR := (if_neg cv3).symm.trans hR
      refine j_aload_n X (q := 0) dX9_longest_15 rfl ?_
      obtain ⟨ov4, hov4, hR⟩ := bd_some hR
      refine j_callV X (As := []) (rest := []) (ws2 := [cMod r_ r_n r_o r_h r_A r_O r_H r_b r_x r_c r_m r_s r_z r_i r_v im ov4.1 ov4.2.1 tx ta fa cl, cJar cJ r_A 4 ov4.2.2.1, cJar cJ r_H 4 ov4.2.2.2.1, cIar cI r_b 400 ov4.2.2.2.2.1, cIar cI r_h 69 ov4.2.2.2.2.2.1, cIar cI r_n 69 ov4.2.2.2.2.2.2]) (q0 := 0) (ci := 9) (mX9_hears_ l D cI cJ cB cT tt r_ r_n r_o r_h r_A r_O r_H r_b r_x r_c r_m r_s r_z r_i r_v hov4) [0, 1, 2, 3, 4, 5] [.inr 0, .inr 1, .inr 2, .inr 3, .inr 4, .inr 5] k_851 k_848 k_850 k_30 rfl rfl k_47 hdX9_hears_ (by decide) (Nat.le_of_ble_eq_true rfl) dX9_longest_16 (by decide) rfl rfl (by decide) rfl rfl ?_
      refine j_iconst X (v := 0) dX9_longest_19 (by decide) ?_
      refine j_istore_n X (lv2 := [(3, .int 0), (0, .ref r_), (1, .int i1), (2, .int i2)]) dX9_longest_20 (by decide) rfl ?_
      refine j_sub (lv2 := [(0, .ref r_), (1, .int i1), (2, .int i2), (3, .int 0)]) [1, 2, 3, 0] rfl ?_
      exact L_21 _ _ _ _ _ _ _ _ _ hR
    · replace hR := (if_pos cv3).symm.trans hR
      refine j_iconst X (v := (-1)) dX9_longest_13 (by decide) ?_
      have hR := Option.some.inj hR
      exact j_iret X hr dX9_longest_14 (by rw [← hR]) (by rw [← hR])

def rmX9_see : Room := { frames := 1, cells := 0, slots := 0, locals := 22 }
theorem hdX9_see : yX9_see.cls ≠ "java/lang/invoke/MethodHandle" ∧ yX9_see.cls ≠ "java/lang/invoke/VarHandle" ∧ (parseMethodDescriptor yX9_see.desc).map (fun d => d.parameters.length) = some 2 := by decide +kernel
def fX9_see (i1 : Int32) (i2 : Int32) (im : Int32) (be : Int32) (bg : Int32) (tx : Int32) (ta : Int32) (fa : Int32) (cl : Int32) (f_n : Nat → Int32) : Option (Int32 × (Nat → Int32)) :=
  if i1 = (-1) then (lt' (upd f_n 13 0) fun f_nv13 =>
  some (0, f_nv13)) else ((fX9_within i1 0 400).bind fun ov2 =>
  if ov2 = 0 then (some ((-2), f_n)) else ((fX9_within i2 (-300) 300).bind fun ov4 =>
  if ov4 = 0 then (some ((-2), f_n)) else (if (f_n 13) = 5 then (some ((-4), f_n)) else (gd (inb ((43 : Int32) + ((2 : Int32) * (f_n 13))) 69) (lt' (upd f_n (((43 : Int32) + ((2 : Int32) * (f_n 13))).toNatClampNeg) i1) fun f_nv8 =>
  gd (inb (((43 : Int32) + ((2 : Int32) * (f_nv8 13))) + 1) 69) (lt' (upd f_nv8 ((((43 : Int32) + ((2 : Int32) * (f_nv8 13))) + 1).toNatClampNeg) i2) fun f_nv10 =>
  lt' ((f_nv10 13) + 1) fun dv11 =>
  lt' (upd f_nv10 13 dv11) fun f_nv12 =>
  some (dv11, f_nv12)))))))
set_option maxHeartbeats 8000000 in
set_option maxRecDepth 100000 in
theorem mX9_see (l : Launch) (D : va_G) (cI cJ cB cT : ClassId) (tt : Nat → Nat) (r_ r_n r_o r_h r_A r_O r_H r_b r_x r_c r_m r_s r_z r_i r_v : Nat) {i1 : Int32} {i2 : Int32} {im : Int32} {be : Int32} {bg : Int32} {tx : Int32} {ta : Int32} {fa : Int32} {cl : Int32} {f_n : Nat → Int32} {out : Int32 × (Nat → Int32)} (h : fX9_see i1 i2 im be bg tx ta fa cl f_n = some out) :
    jM l yX9_see (.code yX9_see cX9_see 3 (some .int)) rmX9_see D (wTy cI cJ cB cT) tt [.ref r_, .int i1, .int i2] [cMod r_ r_n r_o r_h r_A r_O r_H r_b r_x r_c r_m r_s r_z r_i r_v im be bg tx ta fa cl, cIar cI r_n 69 f_n] (some (.int out.1)) [cMod r_ r_n r_o r_h r_A r_O r_H r_b r_x r_c r_m r_s r_z r_i r_v im be bg tx ta fa cl, cIar cI r_n 69 out.2] := by
  refine jM.of (by decide) (Nat.le_of_ble_eq_true rfl) ?_
  intro p e s m below meth c A X hr
  refine j_sub (lv2 := [(0, .ref r_), (1, .int i1), (2, .int i2)]) [0, 1, 2] rfl ?_
  have hR := h
  unfold fX9_see at hR
  refine j_iload_n X (q := 1) dX9_see_0 rfl ?_
  refine j_iconst X (v := (-1)) dX9_see_1 (by decide) ?_
  refine j_icmp_ne X (tgt := 15) dX9_see_2 (by decide) (fun cv1 => ?_) (fun cv1 => ?_)
  · replace hR := (if_neg cv1).symm.trans hR
    refine j_iload_n X (q := 1) dX9_see_15 rfl ?_
    refine j_iconst X (v := 0) dX9_see_16 (by decide) ?_
    refine j_sipush X (v := 400) dX9_see_17 (by decide) ?_
    obtain ⟨ov2, hov2, hR⟩ := bd_some hR
    refine j_callS X (As := [.int i1, .int 0, .int 400]) (rest := []) (ws2 := [cMod r_ r_n r_o r_h r_A r_O r_H r_b r_x r_c r_m r_s r_z r_i r_v im be bg tx ta fa cl, cIar cI r_n 69 f_n]) (mX9_within l D cI cJ cB cT tt  hov2) [] [.inl 0, .inl 1] k_735 k_733 k_734 k_47 hdX9_within (by decide) (Nat.le_of_ble_eq_true rfl) dX9_see_20 (by decide) rfl rfl (by decide) rfl rfl ?_
    refine j_if_eq X (tgt := 39) dX9_see_23 (by decide) (fun cv3 => ?_) (fun cv3 => ?_)
    · replace hR := (if_pos cv3).symm.trans hR
      refine j_bipush X (v := (-2)) dX9_see_39 (by decide) ?_
      have hR := Option.some.inj hR
      exact j_iret X hr dX9_see_41 (by rw [← hR]) (by rw [← hR])
    · replace hR := (if_neg cv3).symm.trans hR
      refine j_iload_n X (q := 2) dX9_see_26 rfl ?_
      refine j_sipush X (v := (-300)) dX9_see_27 (by decide) ?_
      refine j_sipush X (v := 300) dX9_see_30 (by decide) ?_
      obtain ⟨ov4, hov4, hR⟩ := bd_some hR
      refine j_callS X (As := [.int i2, .int (-300), .int 300]) (rest := []) (ws2 := [cMod r_ r_n r_o r_h r_A r_O r_H r_b r_x r_c r_m r_s r_z r_i r_v im be bg tx ta fa cl, cIar cI r_n 69 f_n]) (mX9_within l D cI cJ cB cT tt  hov4) [] [.inl 0, .inl 1] k_735 k_733 k_734 k_47 hdX9_within (by decide) (Nat.le_of_ble_eq_true rfl) dX9_see_33 (by decide) rfl rfl (by decide) rfl rfl ?_
      refine j_if_ne X (tgt := 42) dX9_see_36 (by decide) (fun cv5 => ?_) (fun cv5 => ?_)
      · replace hR := (if_neg cv5).symm.trans hR
        refine j_aload_n X (q := 0) dX9_see_42 rfl ?_
        refine j_get X 0 0 hiX9 k_665 dX9_see_43 rfl rfl (by decide) rfl ?_
        refine j_bipush X (v := 13) dX9_see_46 (by decide) ?_
        refine j_iald X (k := 13) 1 0 rfl dX9_see_48 rfl rfl (by decide) ?_
        refine j_iconst X (v := 5) dX9_see_49 (by decide) ?_
        refine j_icmp_ne X (tgt := 56) dX9_see_50 (by decide) (fun cv6 => ?_) (fun cv6 => ?_)
        · replace hR := (if_neg cv6).symm.trans hR
          refine j_aload_n X (q := 0) dX9_see_56 rfl ?_
          refine j_get X 0 0 hiX9 k_665 dX9_see_57 rfl rfl (by decide) rfl ?_
          refine j_bipush X (v := 43) dX9_see_60 (by decide) ?_
          refine j_iconst X (v := 2) dX9_see_62 (by decide) ?_
          refine j_aload_n X (q := 0) dX9_see_63 rfl ?_
          refine j_get X 0 0 hiX9 k_665 dX9_see_64 rfl rfl (by decide) rfl ?_
          refine j_bipush X (v := 13) dX9_see_67 (by decide) ?_
          refine j_iald X (k := 13) 1 0 rfl dX9_see_69 rfl rfl (by decide) ?_
          refine j_imul X dX9_see_70 ?_
          refine j_iadd X dX9_see_71 ?_
          refine j_iload_n X (q := 1) dX9_see_72 rfl ?_
          obtain ⟨gv7, hR⟩ := gd_some hR
          obtain ⟨f_nv8, ef_nv8, hR⟩ := lt_some hR
          refine j_iast X (ws2 := [cMod r_ r_n r_o r_h r_A r_O r_H r_b r_x r_c r_m r_s r_z r_i r_v im be bg tx ta fa cl, cIar cI r_n 69 f_nv8]) 1 0 rfl dX9_see_73 rfl rfl gv7 ef_nv8 rfl ?_
          refine j_aload_n X (q := 0) dX9_see_74 rfl ?_
          refine j_get X 0 0 hiX9 k_665 dX9_see_75 rfl rfl (by decide) rfl ?_
          refine j_bipush X (v := 43) dX9_see_78 (by decide) ?_
          refine j_iconst X (v := 2) dX9_see_80 (by decide) ?_
          refine j_aload_n X (q := 0) dX9_see_81 rfl ?_
          refine j_get X 0 0 hiX9 k_665 dX9_see_82 rfl rfl (by decide) rfl ?_
          refine j_bipush X (v := 13) dX9_see_85 (by decide) ?_
          refine j_iald X (k := 13) 1 0 rfl dX9_see_87 rfl rfl (by decide) ?_
          refine j_imul X dX9_see_88 ?_
          refine j_iadd X dX9_see_89 ?_
          refine j_iconst X (v := 1) dX9_see_90 (by decide) ?_
          refine j_iadd X dX9_see_91 ?_
          refine j_iload_n X (q := 2) dX9_see_92 rfl ?_
          obtain ⟨gv9, hR⟩ := gd_some hR
          obtain ⟨f_nv10, ef_nv10, hR⟩ := lt_some hR
          refine j_iast X (ws2 := [cMod r_ r_n r_o r_h r_A r_O r_H r_b r_x r_c r_m r_s r_z r_i r_v im be bg tx ta fa cl, cIar cI r_n 69 f_nv10]) 1 0 rfl dX9_see_93 rfl rfl gv9 ef_nv10 rfl ?_
          refine j_aload_n X (q := 0) dX9_see_94 rfl ?_
          refine j_get X 0 0 hiX9 k_665 dX9_see_95 rfl rfl (by decide) rfl ?_
          refine j_bipush X (v := 13) dX9_see_98 (by decide) ?_
          refine j_dup2_11 X dX9_see_100 rfl rfl ?_
          refine j_iald X (k := 13) 1 0 rfl dX9_see_101 rfl rfl (by decide) ?_
          refine j_iconst X (v := 1) dX9_see_102 (by decide) ?_
          refine j_iadd X dX9_see_103 ?_
          obtain ⟨dv11, edv11, hR⟩ := lt_some hR
          refine j_eq (congrArg (fun z => Value.int z :: _) edv11) rfl ?_
          refine j_dup_x2 X dX9_see_104 rfl rfl rfl ?_
          obtain ⟨f_nv12, ef_nv12, hR⟩ := lt_some hR
          refine j_iast X (k := 13) (ws2 := [cMod r_ r_n r_o r_h r_A r_O r_H r_b r_x r_c r_m r_s r_z r_i r_v im be bg tx ta fa cl, cIar cI r_n 69 f_nv12]) 1 0 rfl dX9_see_105 rfl rfl (by decide) ef_nv12 rfl ?_
          have hR := Option.some.inj hR
          exact j_iret X hr dX9_see_106 (by rw [← hR]) (by rw [← hR])
        · replace hR := (if_pos cv6).symm.trans hR
          refine j_bipush X (v := (-4)) dX9_see_53 (by decide) ?_
          have hR := Option.some.inj hR
          exact j_iret X hr dX9_see_55 (by rw [← hR]) (by rw [← hR])
      · replace hR := (if_pos cv5).symm.trans hR
        refine j_bipush X (v := (-2)) dX9_see_39 (by decide) ?_
        have hR := Option.some.inj hR
        exact j_iret X hr dX9_see_41 (by rw [← hR]) (by rw [← hR])
  · replace hR := (if_pos cv1).symm.trans hR
    refine j_aload_n X (q := 0) dX9_see_5 rfl ?_
    refine j_get X 0 0 hiX9 k_665 dX9_see_6 rfl rfl (by decide) rfl ?_
    refine j_bipush X (v := 13) dX9_see_9 (by decide) ?_
    refine j_iconst X (v := 0) dX9_see_11 (by decide) ?_
    obtain ⟨f_nv13, ef_nv13, hR⟩ := lt_some hR
    refine j_iast X (k := 13) (ws2 := [cMod r_ r_n r_o r_h r_A r_O r_H r_b r_x r_c r_m r_s r_z r_i r_v im be bg tx ta fa cl, cIar cI r_n 69 f_nv13]) 1 0 rfl dX9_see_12 rfl rfl (by decide) ef_nv13 rfl ?_
    refine j_iconst X (v := 0) dX9_see_13 (by decide) ?_
    have hR := Option.some.inj hR
    exact j_iret X hr dX9_see_14 (by rw [← hR]) (by rw [← hR])

def rmX9_isSeen : Room := { frames := 3, cells := 0, slots := 0, locals := 73 }
theorem hdX9_isSeen : yX9_isSeen.cls ≠ "java/lang/invoke/MethodHandle" ∧ yX9_isSeen.cls ≠ "java/lang/invoke/VarHandle" ∧ (parseMethodDescriptor yX9_isSeen.desc).map (fun d => d.parameters.length) = some 0 := by decide +kernel
def fX9_isSeen_17 (im : Int32) (bg : Int32) (tx : Int32) (ta : Int32) (fa : Int32) (cl : Int32) (K_4 : Int32 → Int32 → Int32 → (Nat → Int64) → (Nat → Int32) → (Nat → Int32) → Option (Int32 × Int32 × (Nat → Int64) × (Nat → Int32) × (Nat → Int32))) : Nat → Int32 → Int32 → Int32 → Int32 → (Nat → Int64) → (Nat → Int32) → (Nat → Int32) → Option (Int32 × Int32 × (Nat → Int64) × (Nat → Int32) × (Nat → Int32))
  | 0, _, _, _, _, _, _, _ => none
  | fu + 1, x1, x2, x3, be, f_A, f_b, f_n =>
    if (f_n 13) ≤ x3 then ((fX9_tick im be bg tx ta fa cl f_A f_b f_n).bind fun ov6 =>
  lt' (x2 + 1) fun x2v7 =>
  K_4 x1 x2v7 ov6.1 ov6.2.1 ov6.2.2.1 ov6.2.2.2) else (gd (inb ((43 : Int32) + ((2 : Int32) * x3)) 69) (if (f_n ((43 : Int32) + ((2 : Int32) * x3)).toNatClampNeg) = x2 then (gd (inb (((43 : Int32) + ((2 : Int32) * x3)) + 1) 69) (if (f_n (((43 : Int32) + ((2 : Int32) * x3)) + 1).toNatClampNeg) = (f_n 0) then (lt' (x3 + 1) fun x3v13 =>
  fX9_isSeen_17 im bg tx ta fa cl K_4 fu x1 x2 x3v13 be f_A f_b f_n) else (lt' (x3 + 1) fun x3v14 =>
  fX9_isSeen_17 im bg tx ta fa cl K_4 fu 0 x2 x3v14 be f_A f_b f_n))) else (lt' (x3 + 1) fun x3v10 =>
  fX9_isSeen_17 im bg tx ta fa cl K_4 fu x1 x2 x3v10 be f_A f_b f_n)))
def fX9_isSeen_4 (im : Int32) (bg : Int32) (tx : Int32) (ta : Int32) (fa : Int32) (cl : Int32) : Nat → Int32 → Int32 → Int32 → (Nat → Int64) → (Nat → Int32) → (Nat → Int32) → Option (Int32 × Int32 × (Nat → Int64) × (Nat → Int32) × (Nat → Int32))
  | 0, _, _, _, _, _, _ => none
  | fu + 1, x1, x2, be, f_A, f_b, f_n =>
    if (400 : Int32) < x2 then (gd (zb x1) (some (x1, be, f_A, f_b, f_n))) else (if x1 = 0 then (gd (zb x1) (some (x1, be, f_A, f_b, f_n))) else (fX9_isSeen_17 im bg tx ta fa cl (fX9_isSeen_4 im bg tx ta fa cl fu) 500 x1 x2 0 be f_A f_b f_n))
def fX9_isSeen (im : Int32) (be : Int32) (bg : Int32) (tx : Int32) (ta : Int32) (fa : Int32) (cl : Int32) (f_A : Nat → Int64) (f_b : Nat → Int32) (f_n : Nat → Int32) : Option (Int32 × Int32 × (Nat → Int64) × (Nat → Int32) × (Nat → Int32)) :=
  fX9_isSeen_4 im bg tx ta fa cl 500 1 0 be f_A f_b f_n
set_option maxHeartbeats 8000000 in
set_option maxRecDepth 100000 in
theorem mX9_isSeen (l : Launch) (D : va_G) (cI cJ cB cT : ClassId) (tt : Nat → Nat) (r_ r_n r_o r_h r_A r_O r_H r_b r_x r_c r_m r_s r_z r_i r_v : Nat)  {im : Int32} {be : Int32} {bg : Int32} {tx : Int32} {ta : Int32} {fa : Int32} {cl : Int32} {f_A : Nat → Int64} {f_b : Nat → Int32} {f_n : Nat → Int32} {out : Int32 × Int32 × (Nat → Int64) × (Nat → Int32) × (Nat → Int32)} (h : fX9_isSeen im be bg tx ta fa cl f_A f_b f_n = some out) :
    jM l yX9_isSeen (.code yX9_isSeen cX9_isSeen 4 (some .boolean)) rmX9_isSeen D (wTy cI cJ cB cT) tt [.ref r_] [cMod r_ r_n r_o r_h r_A r_O r_H r_b r_x r_c r_m r_s r_z r_i r_v im be bg tx ta fa cl, cJar cJ r_A 4 f_A, cIar cI r_b 400 f_b, cIar cI r_n 69 f_n] (some (.int out.1)) [cMod r_ r_n r_o r_h r_A r_O r_H r_b r_x r_c r_m r_s r_z r_i r_v im out.2.1 bg tx ta fa cl, cJar cJ r_A 4 out.2.2.1, cIar cI r_b 400 out.2.2.2.1, cIar cI r_n 69 out.2.2.2.2] := by
  refine jM.of (by decide) (Nat.le_of_ble_eq_true rfl) ?_
  intro p e s m below meth c A X hr
  have L_17 : ∀ (K_4 : Int32 → Int32 → Int32 → (Nat → Int64) → (Nat → Int32) → (Nat → Int32) → Option (Int32 × Int32 × (Nat → Int64) × (Nat → Int32) × (Nat → Int32))), (∀ (x1 : Int32) (x2 : Int32) (be : Int32) (f_A : Nat → Int64) (f_b : Nat → Int32) (f_n : Nat → Int32), K_4 x1 x2 be f_A f_b f_n = some out → jW p l e rmX9_isSeen s m ([.ref r_] : List Value).toArray below meth c D A 4 (MQ below (jQ D (some (.int out.1)) [cMod r_ r_n r_o r_h r_A r_O r_H r_b r_x r_c r_m r_s r_z r_i r_v im out.2.1 bg tx ta fa cl, cJar cJ r_A 4 out.2.2.1, cIar cI r_b 400 out.2.2.2.1, cIar cI r_n 69 out.2.2.2.2] A) ([.ref r_] : List Value).toArray s 0 0 A) 0 0 4 [(0, .ref r_), (1, .int x1), (2, .int x2)] [] [cMod r_ r_n r_o r_h r_A r_O r_H r_b r_x r_c r_m r_s r_z r_i r_v im be bg tx ta fa cl, cJar cJ r_A 4 f_A, cIar cI r_b 400 f_b, cIar cI r_n 69 f_n]) → ∀ (fuel : Nat) (x1 : Int32) (x2 : Int32) (x3 : Int32) (be : Int32) (f_A : Nat → Int64) (f_b : Nat → Int32) (f_n : Nat → Int32), fX9_isSeen_17 im bg tx ta fa cl K_4 fuel x1 x2 x3 be f_A f_b f_n = some out → jW p l e rmX9_isSeen s m ([.ref r_] : List Value).toArray below meth c D A 4 (MQ below (jQ D (some (.int out.1)) [cMod r_ r_n r_o r_h r_A r_O r_H r_b r_x r_c r_m r_s r_z r_i r_v im out.2.1 bg tx ta fa cl, cJar cJ r_A 4 out.2.2.1, cIar cI r_b 400 out.2.2.2.1, cIar cI r_n 69 out.2.2.2.2] A) ([.ref r_] : List Value).toArray s 0 0 A) 0 0 17 [(0, .ref r_), (1, .int x1), (2, .int x2), (3, .int x3)] [] [cMod r_ r_n r_o r_h r_A r_O r_H r_b r_x r_c r_m r_s r_z r_i r_v im be bg tx ta fa cl, cJar cJ r_A 4 f_A, cIar cI r_b 400 f_b, cIar cI r_n 69 f_n] := by
    intro K_4 hK_4 fuel
    induction fuel with
    | zero =>
      intro x1 x2 x3 be f_A f_b f_n hR
      rw [fX9_isSeen_17] at hR
      cases hR
    | succ fu ih =>
      intro x1 x2 x3 be f_A f_b f_n hR
      rw [fX9_isSeen_17] at hR
      refine j_iload_n X (q := 3) dX9_isSeen_17 rfl ?_
      refine j_aload_n X (q := 0) dX9_isSeen_18 rfl ?_
      refine j_get X 0 0 hiX9 k_665 dX9_isSeen_19 rfl rfl (by decide) rfl ?_
      refine j_bipush X (v := 13) dX9_isSeen_22 (by decide) ?_
      refine j_iald X (k := 13) 3 0 rfl dX9_isSeen_24 rfl rfl (by decide) ?_
      refine j_icmp_ge X (tgt := 73) dX9_isSeen_25 (by decide) (fun cv5 => ?_) (fun cv5 => ?_)
      · replace hR := (if_pos cv5).symm.trans hR
        refine j_aload_n X (q := 0) dX9_isSeen_73 rfl ?_
        obtain ⟨ov6, hov6, hR⟩ := bd_some hR
        refine j_callV X (As := []) (rest := []) (ws2 := [cMod r_ r_n r_o r_h r_A r_O r_H r_b r_x r_c r_m r_s r_z r_i r_v im ov6.1 bg tx ta fa cl, cJar cJ r_A 4 ov6.2.1, cIar cI r_b 400 ov6.2.2.1, cIar cI r_n 69 ov6.2.2.2]) (q0 := 0) (ci := 9) (mX9_tick l D cI cJ cB cT tt r_ r_n r_o r_h r_A r_O r_H r_b r_x r_c r_m r_s r_z r_i r_v hov6) [0, 1, 2, 3] [.inr 0, .inr 1, .inr 2, .inr 3] k_768 k_765 k_767 k_22 rfl rfl k_47 hdX9_tick (by decide) (Nat.le_of_ble_eq_true rfl) dX9_isSeen_74 (by decide) rfl rfl (by decide) rfl rfl ?_
        obtain ⟨x2v7, ex2v7, hR⟩ := lt_some hR
        refine j_iinc X (k := 2) (v := x2v7) (lv2 := [(2, .int x2v7), (0, .ref r_), (1, .int x1), (3, .int x3)]) dX9_isSeen_77 rfl (by rw [← ex2v7]; rfl) (by decide) rfl ?_
        refine j_goto X (tgt := 4) dX9_isSeen_80 (by decide) ?_
        refine j_sub (lv2 := [(0, .ref r_), (1, .int x1), (2, .int x2v7)]) [1, 2, 0] rfl ?_
        exact hK_4 _ _ _ _ _ _ hR
      · replace hR := (if_neg cv5).symm.trans hR
        refine j_aload_n X (q := 0) dX9_isSeen_28 rfl ?_
        refine j_get X 0 0 hiX9 k_665 dX9_isSeen_29 rfl rfl (by decide) rfl ?_
        refine j_bipush X (v := 43) dX9_isSeen_32 (by decide) ?_
        refine j_iconst X (v := 2) dX9_isSeen_34 (by decide) ?_
        refine j_iload_n X (q := 3) dX9_isSeen_35 rfl ?_
        refine j_imul X dX9_isSeen_36 ?_
        refine j_iadd X dX9_isSeen_37 ?_
        obtain ⟨gv8, hR⟩ := gd_some hR
        refine j_iald X 3 0 rfl dX9_isSeen_38 rfl rfl gv8 ?_
        refine j_iload_n X (q := 2) dX9_isSeen_39 rfl ?_
        refine j_icmp_ne X (tgt := 67) dX9_isSeen_40 (by decide) (fun cv9 => ?_) (fun cv9 => ?_)
        · replace hR := (if_neg cv9).symm.trans hR
          obtain ⟨x3v10, ex3v10, hR⟩ := lt_some hR
          refine j_iinc X (k := 3) (v := x3v10) (lv2 := [(3, .int x3v10), (0, .ref r_), (1, .int x1), (2, .int x2)]) dX9_isSeen_67 rfl (by rw [← ex3v10]; rfl) (by decide) rfl ?_
          refine j_goto X (tgt := 17) dX9_isSeen_70 (by decide) ?_
          refine j_sub (lv2 := [(0, .ref r_), (1, .int x1), (2, .int x2), (3, .int x3v10)]) [1, 2, 3, 0] rfl ?_
          exact ih _ _ _ _ _ _ _ hR
        · replace hR := (if_pos cv9).symm.trans hR
          refine j_aload_n X (q := 0) dX9_isSeen_43 rfl ?_
          refine j_get X 0 0 hiX9 k_665 dX9_isSeen_44 rfl rfl (by decide) rfl ?_
          refine j_bipush X (v := 43) dX9_isSeen_47 (by decide) ?_
          refine j_iconst X (v := 2) dX9_isSeen_49 (by decide) ?_
          refine j_iload_n X (q := 3) dX9_isSeen_50 rfl ?_
          refine j_imul X dX9_isSeen_51 ?_
          refine j_iadd X dX9_isSeen_52 ?_
          refine j_iconst X (v := 1) dX9_isSeen_53 (by decide) ?_
          refine j_iadd X dX9_isSeen_54 ?_
          obtain ⟨gv11, hR⟩ := gd_some hR
          refine j_iald X 3 0 rfl dX9_isSeen_55 rfl rfl gv11 ?_
          refine j_aload_n X (q := 0) dX9_isSeen_56 rfl ?_
          refine j_get X 0 0 hiX9 k_665 dX9_isSeen_57 rfl rfl (by decide) rfl ?_
          refine j_iconst X (v := 0) dX9_isSeen_60 (by decide) ?_
          refine j_iald X (k := 0) 3 0 rfl dX9_isSeen_61 rfl rfl (by decide) ?_
          refine j_icmp_eq X (tgt := 67) dX9_isSeen_62 (by decide) (fun cv12 => ?_) (fun cv12 => ?_)
          · replace hR := (if_pos cv12).symm.trans hR
            obtain ⟨x3v13, ex3v13, hR⟩ := lt_some hR
            refine j_iinc X (k := 3) (v := x3v13) (lv2 := [(3, .int x3v13), (0, .ref r_), (1, .int x1), (2, .int x2)]) dX9_isSeen_67 rfl (by rw [← ex3v13]; rfl) (by decide) rfl ?_
            refine j_goto X (tgt := 17) dX9_isSeen_70 (by decide) ?_
            refine j_sub (lv2 := [(0, .ref r_), (1, .int x1), (2, .int x2), (3, .int x3v13)]) [1, 2, 3, 0] rfl ?_
            exact ih _ _ _ _ _ _ _ hR
          · replace hR := (if_neg cv12).symm.trans hR
            refine j_iconst X (v := 0) dX9_isSeen_65 (by decide) ?_
            refine j_istore_n X (lv2 := [(1, .int 0), (0, .ref r_), (2, .int x2), (3, .int x3)]) dX9_isSeen_66 (by decide) rfl ?_
            obtain ⟨x3v14, ex3v14, hR⟩ := lt_some hR
            refine j_iinc X (k := 3) (v := x3v14) (lv2 := [(3, .int x3v14), (1, .int 0), (0, .ref r_), (2, .int x2)]) dX9_isSeen_67 rfl (by rw [← ex3v14]; rfl) (by decide) rfl ?_
            refine j_goto X (tgt := 17) dX9_isSeen_70 (by decide) ?_
            refine j_sub (lv2 := [(0, .ref r_), (1, .int 0), (2, .int x2), (3, .int x3v14)]) [2, 1, 3, 0] rfl ?_
            exact ih _ _ _ _ _ _ _ hR
  have L_4 : ∀ (fuel : Nat) (x1 : Int32) (x2 : Int32) (be : Int32) (f_A : Nat → Int64) (f_b : Nat → Int32) (f_n : Nat → Int32), fX9_isSeen_4 im bg tx ta fa cl  fuel x1 x2 be f_A f_b f_n = some out → jW p l e rmX9_isSeen s m ([.ref r_] : List Value).toArray below meth c D A 4 (MQ below (jQ D (some (.int out.1)) [cMod r_ r_n r_o r_h r_A r_O r_H r_b r_x r_c r_m r_s r_z r_i r_v im out.2.1 bg tx ta fa cl, cJar cJ r_A 4 out.2.2.1, cIar cI r_b 400 out.2.2.2.1, cIar cI r_n 69 out.2.2.2.2] A) ([.ref r_] : List Value).toArray s 0 0 A) 0 0 4 [(0, .ref r_), (1, .int x1), (2, .int x2)] [] [cMod r_ r_n r_o r_h r_A r_O r_H r_b r_x r_c r_m r_s r_z r_i r_v im be bg tx ta fa cl, cJar cJ r_A 4 f_A, cIar cI r_b 400 f_b, cIar cI r_n 69 f_n] := by
    intro  fuel
    induction fuel with
    | zero =>
      intro x1 x2 be f_A f_b f_n hR
      rw [fX9_isSeen_4] at hR
      cases hR
    | succ fu ih =>
      intro x1 x2 be f_A f_b f_n hR
      rw [fX9_isSeen_4] at hR
      refine j_iload_n X (q := 2) dX9_isSeen_4 rfl ?_
      refine j_sipush X (v := 400) dX9_isSeen_5 (by decide) ?_
      refine j_icmp_gt X (tgt := 83) dX9_isSeen_8 (by decide) (fun cv1 => ?_) (fun cv1 => ?_)
      · replace hR := (if_pos cv1).symm.trans hR
        refine j_iload_n X (q := 1) dX9_isSeen_83 rfl ?_
        obtain ⟨gv2, hR⟩ := gd_some hR
        have hR := Option.some.inj hR
        exact j_zret X hr (zb_nar gv2) dX9_isSeen_84 (by rw [← hR]) (by rw [← hR])
      · replace hR := (if_neg cv1).symm.trans hR
        refine j_iload_n X (q := 1) dX9_isSeen_11 rfl ?_
        refine j_if_eq X (tgt := 83) dX9_isSeen_12 (by decide) (fun cv3 => ?_) (fun cv3 => ?_)
        · replace hR := (if_pos cv3).symm.trans hR
          refine j_iload_n X (q := 1) dX9_isSeen_83 rfl ?_
          obtain ⟨gv4, hR⟩ := gd_some hR
          have hR := Option.some.inj hR
          exact j_zret X hr (zb_nar gv4) dX9_isSeen_84 (by rw [← hR]) (by rw [← hR])
        · replace hR := (if_neg cv3).symm.trans hR
          refine j_iconst X (v := 0) dX9_isSeen_15 (by decide) ?_
          refine j_istore_n X (lv2 := [(3, .int 0), (0, .ref r_), (1, .int x1), (2, .int x2)]) dX9_isSeen_16 (by decide) rfl ?_
          refine j_sub (lv2 := [(0, .ref r_), (1, .int x1), (2, .int x2), (3, .int 0)]) [1, 2, 3, 0] rfl ?_
          exact L_17 _ ih _ _ _ _ _ _ _ _ hR
  refine j_sub (lv2 := [(0, .ref r_)]) [0] rfl ?_
  have hR := h
  unfold fX9_isSeen at hR
  refine j_iconst X (v := 1) dX9_isSeen_0 (by decide) ?_
  refine j_istore_n X (lv2 := [(1, .int 1), (0, .ref r_)]) dX9_isSeen_1 (by decide) rfl ?_
  refine j_iconst X (v := 0) dX9_isSeen_2 (by decide) ?_
  refine j_istore_n X (lv2 := [(2, .int 0), (1, .int 1), (0, .ref r_)]) dX9_isSeen_3 (by decide) rfl ?_
  refine j_sub (lv2 := [(0, .ref r_), (1, .int 1), (2, .int 0)]) [2, 1, 0] rfl ?_
  exact L_4 _ _ _ _ _ _ _ hR

def rmX9_fits : Room := { frames := 4, cells := 0, slots := 0, locals := 96 }
theorem hdX9_fits : yX9_fits.cls ≠ "java/lang/invoke/MethodHandle" ∧ yX9_fits.cls ≠ "java/lang/invoke/VarHandle" ∧ (parseMethodDescriptor yX9_fits.desc).map (fun d => d.parameters.length) = some 1 := by decide +kernel
def fX9_fits_20 (i1 : Int32) (im : Int32) (bg : Int32) (tx : Int32) (ta : Int32) (fa : Int32) (cl : Int32) : Nat → Int32 → Int32 → Int32 → Int32 → (Nat → Int64) → (Nat → Int64) → (Nat → Int32) → (Nat → Int32) → (Nat → Int32) → Option (Int32 × Int32 × (Nat → Int64) × (Nat → Int64) × (Nat → Int32) × (Nat → Int32) × (Nat → Int32))
  | 0, _, _, _, _, _, _, _, _, _ => none
  | fu + 1, x2, x3, x4, be, f_A, f_H, f_b, f_h, f_n =>
    if x4 ≤ 0 then (if i1 = 0 then (some (x2, be, f_A, f_H, f_b, f_h, f_n)) else (some (x3, be, f_A, f_H, f_b, f_h, f_n))) else ((fX9_lays im be bg tx ta fa cl f_A f_H f_h f_n).bind fun ov5 =>
  lt' (upd f_n 2 x4) fun f_nv6 =>
  (fX9_isSeen im be bg tx ta fa cl f_A f_b f_nv6).bind fun ov7 =>
  (fX9_back im ov7.2.1 bg tx ta fa cl ov7.2.2.1 ov5.1 ov5.2 ov7.2.2.2.2).bind fun ov8 =>
  if ov7.1 = 0 then (lt' (x4 + (-1)) fun x4v12 =>
  fX9_fits_20 i1 im bg tx ta fa cl fu x2 x3 x4v12 ov7.2.1 ov8.1 ov5.1 ov7.2.2.2.1 ov5.2 ov8.2) else (lt' (x2 + 1) fun x2v10 =>
  lt' (x4 + (-1)) fun x4v11 =>
  fX9_fits_20 i1 im bg tx ta fa cl fu x2v10 x4 x4v11 ov7.2.1 ov8.1 ov5.1 ov7.2.2.2.1 ov5.2 ov8.2))
def fX9_fits (i1 : Int32) (im : Int32) (be : Int32) (bg : Int32) (tx : Int32) (ta : Int32) (fa : Int32) (cl : Int32) (f_A : Nat → Int64) (f_H : Nat → Int64) (f_b : Nat → Int32) (f_h : Nat → Int32) (f_n : Nat → Int32) : Option (Int32 × Int32 × (Nat → Int64) × (Nat → Int64) × (Nat → Int32) × (Nat → Int32) × (Nat → Int32)) :=
  (fX9_within i1 0 1).bind fun ov1 =>
  if ov1 = 0 then (some ((-1), be, f_A, f_H, f_b, f_h, f_n)) else (fX9_fits_20 i1 im bg tx ta fa cl 500 0 (-5) 32 be f_A f_H f_b f_h f_n)
set_option maxHeartbeats 8000000 in
set_option maxRecDepth 100000 in
theorem mX9_fits (l : Launch) (D : va_G) (cI cJ cB cT : ClassId) (tt : Nat → Nat) (r_ r_n r_o r_h r_A r_O r_H r_b r_x r_c r_m r_s r_z r_i r_v : Nat) {i1 : Int32} {im : Int32} {be : Int32} {bg : Int32} {tx : Int32} {ta : Int32} {fa : Int32} {cl : Int32} {f_A : Nat → Int64} {f_H : Nat → Int64} {f_b : Nat → Int32} {f_h : Nat → Int32} {f_n : Nat → Int32} {out : Int32 × Int32 × (Nat → Int64) × (Nat → Int64) × (Nat → Int32) × (Nat → Int32) × (Nat → Int32)} (h : fX9_fits i1 im be bg tx ta fa cl f_A f_H f_b f_h f_n = some out) :
    jM l yX9_fits (.code yX9_fits cX9_fits 6 (some .int)) rmX9_fits D (wTy cI cJ cB cT) tt [.ref r_, .int i1] [cMod r_ r_n r_o r_h r_A r_O r_H r_b r_x r_c r_m r_s r_z r_i r_v im be bg tx ta fa cl, cJar cJ r_A 4 f_A, cJar cJ r_H 4 f_H, cIar cI r_b 400 f_b, cIar cI r_h 69 f_h, cIar cI r_n 69 f_n] (some (.int out.1)) [cMod r_ r_n r_o r_h r_A r_O r_H r_b r_x r_c r_m r_s r_z r_i r_v im out.2.1 bg tx ta fa cl, cJar cJ r_A 4 out.2.2.1, cJar cJ r_H 4 out.2.2.2.1, cIar cI r_b 400 out.2.2.2.2.1, cIar cI r_h 69 out.2.2.2.2.2.1, cIar cI r_n 69 out.2.2.2.2.2.2] := by
  refine jM.of (by decide) (Nat.le_of_ble_eq_true rfl) ?_
  intro p e s m below meth c A X hr
  have L_20 : ∀ (fuel : Nat) (x2 : Int32) (x3 : Int32) (x4 : Int32) (be : Int32) (f_A : Nat → Int64) (f_H : Nat → Int64) (f_b : Nat → Int32) (f_h : Nat → Int32) (f_n : Nat → Int32), fX9_fits_20 i1 im bg tx ta fa cl  fuel x2 x3 x4 be f_A f_H f_b f_h f_n = some out → jW p l e rmX9_fits s m ([.ref r_, .int i1] : List Value).toArray below meth c D A 6 (MQ below (jQ D (some (.int out.1)) [cMod r_ r_n r_o r_h r_A r_O r_H r_b r_x r_c r_m r_s r_z r_i r_v im out.2.1 bg tx ta fa cl, cJar cJ r_A 4 out.2.2.1, cJar cJ r_H 4 out.2.2.2.1, cIar cI r_b 400 out.2.2.2.2.1, cIar cI r_h 69 out.2.2.2.2.2.1, cIar cI r_n 69 out.2.2.2.2.2.2] A) ([.ref r_, .int i1] : List Value).toArray s 0 0 A) 0 0 20 [(0, .ref r_), (1, .int i1), (2, .int x2), (3, .int x3), (4, .int x4)] [] [cMod r_ r_n r_o r_h r_A r_O r_H r_b r_x r_c r_m r_s r_z r_i r_v im be bg tx ta fa cl, cJar cJ r_A 4 f_A, cJar cJ r_H 4 f_H, cIar cI r_b 400 f_b, cIar cI r_h 69 f_h, cIar cI r_n 69 f_n] := by
    intro  fuel
    induction fuel with
    | zero =>
      intro x2 x3 x4 be f_A f_H f_b f_h f_n hR
      rw [fX9_fits_20] at hR
      cases hR
    | succ fu ih =>
      intro x2 x3 x4 be f_A f_H f_b f_h f_n hR
      rw [fX9_fits_20] at hR
      refine j_iload X (q := 4) dX9_fits_20 rfl ?_
      refine j_if_le X (tgt := 67) dX9_fits_22 (by decide) (fun cv3 => ?_) (fun cv3 => ?_)
      · replace hR := (if_pos cv3).symm.trans hR
        refine j_iload_n X (q := 1) dX9_fits_67 rfl ?_
        refine j_if_ne X (tgt := 75) dX9_fits_68 (by decide) (fun cv4 => ?_) (fun cv4 => ?_)
        · replace hR := (if_neg cv4).symm.trans hR
          refine j_iload_n X (q := 3) dX9_fits_75 rfl ?_
          have hR := Option.some.inj hR
          exact j_iret X hr dX9_fits_76 (by rw [← hR]) (by rw [← hR])
        · replace hR := (if_pos cv4).symm.trans hR
          refine j_iload_n X (q := 2) dX9_fits_71 rfl ?_
          refine j_goto X (tgt := 76) dX9_fits_72 (by decide) ?_
          have hR := Option.some.inj hR
          exact j_iret X hr dX9_fits_76 (by rw [← hR]) (by rw [← hR])
      · replace hR := (if_neg cv3).symm.trans hR
        refine j_aload_n X (q := 0) dX9_fits_25 rfl ?_
        obtain ⟨ov5, hov5, hR⟩ := bd_some hR
        refine j_callV X (As := []) (rest := []) (ws2 := [cMod r_ r_n r_o r_h r_A r_O r_H r_b r_x r_c r_m r_s r_z r_i r_v im be bg tx ta fa cl, cJar cJ r_A 4 f_A, cJar cJ r_H 4 ov5.1, cIar cI r_b 400 f_b, cIar cI r_h 69 ov5.2, cIar cI r_n 69 f_n]) (q0 := 0) (ci := 9) (mX9_lays l D cI cJ cB cT tt r_ r_n r_o r_h r_A r_O r_H r_b r_x r_c r_m r_s r_z r_i r_v hov5) [0, 1, 2, 4, 5] [.inr 0, .inr 1, .inr 2, .inl 3, .inr 3, .inr 4] k_829 k_826 k_828 k_28 rfl rfl k_47 hdX9_lays (by decide) (Nat.le_of_ble_eq_true rfl) dX9_fits_26 (by decide) rfl rfl (by decide) rfl rfl ?_
        refine j_aload_n X (q := 0) dX9_fits_29 rfl ?_
        refine j_get X 0 0 hiX9 k_665 dX9_fits_30 rfl rfl (by decide) rfl ?_
        refine j_iconst X (v := 2) dX9_fits_33 (by decide) ?_
        refine j_iload X (q := 4) dX9_fits_34 rfl ?_
        obtain ⟨f_nv6, ef_nv6, hR⟩ := lt_some hR
        refine j_iast X (k := 2) (ws2 := [cMod r_ r_n r_o r_h r_A r_O r_H r_b r_x r_c r_m r_s r_z r_i r_v im be bg tx ta fa cl, cJar cJ r_A 4 f_A, cJar cJ r_H 4 ov5.1, cIar cI r_b 400 f_b, cIar cI r_h 69 ov5.2, cIar cI r_n 69 f_nv6]) 5 0 rfl dX9_fits_36 rfl rfl (by decide) ef_nv6 rfl ?_
        refine j_aload_n X (q := 0) dX9_fits_37 rfl ?_
        obtain ⟨ov7, hov7, hR⟩ := bd_some hR
        refine j_callV X (As := []) (rest := []) (ws2 := [cMod r_ r_n r_o r_h r_A r_O r_H r_b r_x r_c r_m r_s r_z r_i r_v im ov7.2.1 bg tx ta fa cl, cJar cJ r_A 4 ov7.2.2.1, cJar cJ r_H 4 ov5.1, cIar cI r_b 400 ov7.2.2.2.1, cIar cI r_h 69 ov5.2, cIar cI r_n 69 ov7.2.2.2.2]) (q0 := 0) (ci := 9) (mX9_isSeen l D cI cJ cB cT tt r_ r_n r_o r_h r_A r_O r_H r_b r_x r_c r_m r_s r_z r_i r_v hov7) [0, 1, 3, 5] [.inr 0, .inr 1, .inl 2, .inr 2, .inl 4, .inr 3] k_896 k_893 k_895 k_36 rfl rfl k_47 hdX9_isSeen (by decide) (Nat.le_of_ble_eq_true rfl) dX9_fits_38 (by decide) rfl rfl (by decide) rfl rfl ?_
        refine j_istore X (lv2 := [(5, .int ov7.1), (0, .ref r_), (1, .int i1), (2, .int x2), (3, .int x3), (4, .int x4)]) dX9_fits_41 (by decide) rfl ?_
        refine j_aload_n X (q := 1) dX9_fits_43 rfl ?_
        obtain ⟨ov8, hov8, hR⟩ := bd_some hR
        refine j_callV X (As := []) (rest := []) (ws2 := [cMod r_ r_n r_o r_h r_A r_O r_H r_b r_x r_c r_m r_s r_z r_i r_v im ov7.2.1 bg tx ta fa cl, cJar cJ r_A 4 ov8.1, cJar cJ r_H 4 ov5.1, cIar cI r_b 400 ov7.2.2.2.1, cIar cI r_h 69 ov5.2, cIar cI r_n 69 ov8.2]) (q0 := 0) (ci := 9) (mX9_back l D cI cJ cB cT tt r_ r_n r_o r_h r_A r_O r_H r_b r_x r_c r_m r_s r_z r_i r_v hov8) [0, 1, 2, 4, 5] [.inr 0, .inr 1, .inr 2, .inl 3, .inr 3, .inr 4] k_839 k_836 k_838 k_29 rfl rfl k_47 hdX9_back (by decide) (Nat.le_of_ble_eq_true rfl) dX9_fits_44 (by decide) rfl rfl (by decide) rfl rfl ?_
        refine j_iload X (q := 0) dX9_fits_47 rfl ?_
        refine j_if_ne X (tgt := 55) dX9_fits_49 (by decide) (fun cv9 => ?_) (fun cv9 => ?_)
        · replace hR := (if_neg cv9).symm.trans hR
          obtain ⟨x2v10, ex2v10, hR⟩ := lt_some hR
          refine j_iinc X (k := 3) (v := x2v10) (lv2 := [(2, .int x2v10), (5, .int ov7.1), (0, .ref r_), (1, .int i1), (3, .int x3), (4, .int x4)]) dX9_fits_55 rfl (by rw [← ex2v10]; rfl) (by decide) rfl ?_
          refine j_iload X (q := 5) dX9_fits_58 rfl ?_
          refine j_istore_n X (lv2 := [(3, .int x4), (2, .int x2v10), (5, .int ov7.1), (0, .ref r_), (1, .int i1), (4, .int x4)]) dX9_fits_60 (by decide) rfl ?_
          obtain ⟨x4v11, ex4v11, hR⟩ := lt_some hR
          refine j_iinc X (k := 5) (v := x4v11) (lv2 := [(4, .int x4v11), (3, .int x4), (2, .int x2v10), (5, .int ov7.1), (0, .ref r_), (1, .int i1)]) dX9_fits_61 rfl (by rw [← ex4v11]; rfl) (by decide) rfl ?_
          refine j_goto X (tgt := 20) dX9_fits_64 (by decide) ?_
          refine j_sub (lv2 := [(0, .ref r_), (1, .int i1), (2, .int x2v10), (3, .int x4), (4, .int x4v11)]) [4, 5, 2, 1, 0] rfl ?_
          exact ih _ _ _ _ _ _ _ _ _ hR
        · replace hR := (if_pos cv9).symm.trans hR
          refine j_goto X (tgt := 61) dX9_fits_52 (by decide) ?_
          obtain ⟨x4v12, ex4v12, hR⟩ := lt_some hR
          refine j_iinc X (k := 5) (v := x4v12) (lv2 := [(4, .int x4v12), (5, .int ov7.1), (0, .ref r_), (1, .int i1), (2, .int x2), (3, .int x3)]) dX9_fits_61 rfl (by rw [← ex4v12]; rfl) (by decide) rfl ?_
          refine j_goto X (tgt := 20) dX9_fits_64 (by decide) ?_
          refine j_sub (lv2 := [(0, .ref r_), (1, .int i1), (2, .int x2), (3, .int x3), (4, .int x4v12)]) [2, 3, 4, 5, 0] rfl ?_
          exact ih _ _ _ _ _ _ _ _ _ hR
  refine j_sub (lv2 := [(0, .ref r_), (1, .int i1)]) [0, 1] rfl ?_
  have hR := h
  unfold fX9_fits at hR
  refine j_iload_n X (q := 1) dX9_fits_0 rfl ?_
  refine j_iconst X (v := 0) dX9_fits_1 (by decide) ?_
  refine j_iconst X (v := 1) dX9_fits_2 (by decide) ?_
  obtain ⟨ov1, hov1, hR⟩ := bd_some hR
  refine j_callS X (As := [.int i1, .int 0, .int 1]) (rest := []) (ws2 := [cMod r_ r_n r_o r_h r_A r_O r_H r_b r_x r_c r_m r_s r_z r_i r_v im be bg tx ta fa cl, cJar cJ r_A 4 f_A, cJar cJ r_H 4 f_H, cIar cI r_b 400 f_b, cIar cI r_h 69 f_h, cIar cI r_n 69 f_n]) (mX9_within l D cI cJ cB cT tt  hov1) [] [.inl 0, .inl 1, .inl 2, .inl 3, .inl 4, .inl 5] k_735 k_733 k_734 k_47 hdX9_within (by decide) (Nat.le_of_ble_eq_true rfl) dX9_fits_3 (by decide) rfl rfl (by decide) rfl rfl ?_
  refine j_if_ne X (tgt := 11) dX9_fits_6 (by decide) (fun cv2 => ?_) (fun cv2 => ?_)
  · replace hR := (if_neg cv2).symm.trans hR
    refine j_iconst X (v := 0) dX9_fits_11 (by decide) ?_
    refine j_istore_n X (lv2 := [(2, .int 0), (0, .ref r_), (1, .int i1)]) dX9_fits_12 (by decide) rfl ?_
    refine j_bipush X (v := (-5)) dX9_fits_13 (by decide) ?_
    refine j_istore_n X (lv2 := [(3, .int (-5)), (2, .int 0), (0, .ref r_), (1, .int i1)]) dX9_fits_15 (by decide) rfl ?_
    refine j_bipush X (v := 32) dX9_fits_16 (by decide) ?_
    refine j_istore X (lv2 := [(4, .int 32), (3, .int (-5)), (2, .int 0), (0, .ref r_), (1, .int i1)]) dX9_fits_18 (by decide) rfl ?_
    refine j_sub (lv2 := [(0, .ref r_), (1, .int i1), (2, .int 0), (3, .int (-5)), (4, .int 32)]) [3, 4, 2, 1, 0] rfl ?_
    exact L_20 _ _ _ _ _ _ _ _ _ _ hR
  · replace hR := (if_pos cv2).symm.trans hR
    refine j_iconst X (v := (-1)) dX9_fits_9 (by decide) ?_
    have hR := Option.some.inj hR
    exact j_iret X hr dX9_fits_10 (by rw [← hR]) (by rw [← hR])

def rmX9_odds : Room := { frames := 5, cells := 0, slots := 0, locals := 117 }
theorem hdX9_odds : yX9_odds.cls ≠ "java/lang/invoke/MethodHandle" ∧ yX9_odds.cls ≠ "java/lang/invoke/VarHandle" ∧ (parseMethodDescriptor yX9_odds.desc).map (fun d => d.parameters.length) = some 2 := by decide +kernel
def fX9_odds_29 (i1 : Int32) (i2 : Int32) (im : Int32) (tx : Int32) (ta : Int32) (fa : Int32) (cl : Int32) : Nat → Int32 → Int32 → Int32 → Int32 → (Nat → Int64) → (Nat → Int64) → (Nat → Int32) → (Nat → Int32) → (Nat → Int32) → Option (Int64 × Int32 × Int32 × (Nat → Int64) × (Nat → Int64) × (Nat → Int32) × (Nat → Int32) × (Nat → Int32))
  | 0, _, _, _, _, _, _, _, _, _ => none
  | fu + 1, x3, x4, be, bg, f_A, f_H, f_b, f_h, f_n =>
    if (20 : Int32) < x4 then ((fX9_lowest x3.toInt64 11 i2).bind fun ov6 =>
  some (ov6, be, bg, f_A, f_H, f_b, f_h, f_n)) else ((fX9_hears 1 x4 im be bg tx ta fa cl f_A f_H f_b f_h f_n).bind fun ov7 =>
  if ov7.1 < i1 then (lt' (x4 + 4) fun x4v9 =>
  fX9_odds_29 i1 i2 im tx ta fa cl fu x3 x4v9 ov7.1 ov7.2.1 ov7.2.2.1 ov7.2.2.2.1 ov7.2.2.2.2.1 ov7.2.2.2.2.2.1 ov7.2.2.2.2.2.2) else (lt' (x3 + 1) fun x3v10 =>
  lt' (x4 + 4) fun x4v11 =>
  fX9_odds_29 i1 i2 im tx ta fa cl fu x3v10 x4v11 ov7.1 ov7.2.1 ov7.2.2.1 ov7.2.2.2.1 ov7.2.2.2.2.1 ov7.2.2.2.2.2.1 ov7.2.2.2.2.2.2))
def fX9_odds (i1 : Int32) (i2 : Int32) (im : Int32) (be : Int32) (bg : Int32) (tx : Int32) (ta : Int32) (fa : Int32) (cl : Int32) (f_A : Nat → Int64) (f_H : Nat → Int64) (f_b : Nat → Int32) (f_h : Nat → Int32) (f_n : Nat → Int32) : Option (Int64 × Int32 × Int32 × (Nat → Int64) × (Nat → Int64) × (Nat → Int32) × (Nat → Int32) × (Nat → Int32)) :=
  (fX9_within i1 0 99).bind fun ov1 =>
  if ov1 = 0 then (some ((-9223372036854775808), be, bg, f_A, f_H, f_b, f_h, f_n)) else ((fX9_within i2 0 1).bind fun ov3 =>
  if ov3 = 0 then (some ((-9223372036854775808), be, bg, f_A, f_H, f_b, f_h, f_n)) else (fX9_odds_29 i1 i2 im tx ta fa cl 500 0 (-20) be bg f_A f_H f_b f_h f_n))
set_option maxHeartbeats 8000000 in
set_option maxRecDepth 100000 in
theorem mX9_odds (l : Launch) (D : va_G) (cI cJ cB cT : ClassId) (tt : Nat → Nat) (r_ r_n r_o r_h r_A r_O r_H r_b r_x r_c r_m r_s r_z r_i r_v : Nat) {i1 : Int32} {i2 : Int32} {im : Int32} {be : Int32} {bg : Int32} {tx : Int32} {ta : Int32} {fa : Int32} {cl : Int32} {f_A : Nat → Int64} {f_H : Nat → Int64} {f_b : Nat → Int32} {f_h : Nat → Int32} {f_n : Nat → Int32} {out : Int64 × Int32 × Int32 × (Nat → Int64) × (Nat → Int64) × (Nat → Int32) × (Nat → Int32) × (Nat → Int32)} (h : fX9_odds i1 i2 im be bg tx ta fa cl f_A f_H f_b f_h f_n = some out) :
    jM l yX9_odds (.code yX9_odds cX9_odds 5 (some .long)) rmX9_odds D (wTy cI cJ cB cT) tt [.ref r_, .int i1, .int i2] [cMod r_ r_n r_o r_h r_A r_O r_H r_b r_x r_c r_m r_s r_z r_i r_v im be bg tx ta fa cl, cJar cJ r_A 4 f_A, cJar cJ r_H 4 f_H, cIar cI r_b 400 f_b, cIar cI r_h 69 f_h, cIar cI r_n 69 f_n] (some (.long out.1)) [cMod r_ r_n r_o r_h r_A r_O r_H r_b r_x r_c r_m r_s r_z r_i r_v im out.2.1 out.2.2.1 tx ta fa cl, cJar cJ r_A 4 out.2.2.2.1, cJar cJ r_H 4 out.2.2.2.2.1, cIar cI r_b 400 out.2.2.2.2.2.1, cIar cI r_h 69 out.2.2.2.2.2.2.1, cIar cI r_n 69 out.2.2.2.2.2.2.2] := by
  refine jM.of (by decide) (Nat.le_of_ble_eq_true rfl) ?_
  intro p e s m below meth c A X hr
  have L_29 : ∀ (fuel : Nat) (x3 : Int32) (x4 : Int32) (be : Int32) (bg : Int32) (f_A : Nat → Int64) (f_H : Nat → Int64) (f_b : Nat → Int32) (f_h : Nat → Int32) (f_n : Nat → Int32), fX9_odds_29 i1 i2 im tx ta fa cl  fuel x3 x4 be bg f_A f_H f_b f_h f_n = some out → jW p l e rmX9_odds s m ([.ref r_, .int i1, .int i2] : List Value).toArray below meth c D A 5 (MQ below (jQ D (some (.long out.1)) [cMod r_ r_n r_o r_h r_A r_O r_H r_b r_x r_c r_m r_s r_z r_i r_v im out.2.1 out.2.2.1 tx ta fa cl, cJar cJ r_A 4 out.2.2.2.1, cJar cJ r_H 4 out.2.2.2.2.1, cIar cI r_b 400 out.2.2.2.2.2.1, cIar cI r_h 69 out.2.2.2.2.2.2.1, cIar cI r_n 69 out.2.2.2.2.2.2.2] A) ([.ref r_, .int i1, .int i2] : List Value).toArray s 0 0 A) 0 0 29 [(0, .ref r_), (1, .int i1), (2, .int i2), (3, .int x3), (4, .int x4)] [] [cMod r_ r_n r_o r_h r_A r_O r_H r_b r_x r_c r_m r_s r_z r_i r_v im be bg tx ta fa cl, cJar cJ r_A 4 f_A, cJar cJ r_H 4 f_H, cIar cI r_b 400 f_b, cIar cI r_h 69 f_h, cIar cI r_n 69 f_n] := by
    intro  fuel
    induction fuel with
    | zero =>
      intro x3 x4 be bg f_A f_H f_b f_h f_n hR
      rw [fX9_odds_29] at hR
      cases hR
    | succ fu ih =>
      intro x3 x4 be bg f_A f_H f_b f_h f_n hR
      rw [fX9_odds_29] at hR
      refine j_iload X (q := 4) dX9_odds_29 rfl ?_
      refine j_bipush X (v := 20) dX9_odds_31 (by decide) ?_
      refine j_icmp_gt X (tgt := 60) dX9_odds_33 (by decide) (fun cv5 => ?_) (fun cv5 => ?_)
      · replace hR := (if_pos cv5).symm.trans hR
        refine j_iload_n X (q := 3) dX9_odds_60 rfl ?_
        refine j_i2l X dX9_odds_61 ?_
        refine j_ldc2 X k_901 dX9_odds_62 ?_
        refine j_iload_n X (q := 2) dX9_odds_65 rfl ?_
        obtain ⟨ov6, hov6, hR⟩ := bd_some hR
        refine j_callS X (As := [.long x3.toInt64, .long 11, .int i2]) (rest := []) (ws2 := [cMod r_ r_n r_o r_h r_A r_O r_H r_b r_x r_c r_m r_s r_z r_i r_v im be bg tx ta fa cl, cJar cJ r_A 4 f_A, cJar cJ r_H 4 f_H, cIar cI r_b 400 f_b, cIar cI r_h 69 f_h, cIar cI r_n 69 f_n]) (mX9_lowest l D cI cJ cB cT tt  hov6) [] [.inl 0, .inl 1, .inl 2, .inl 3, .inl 4, .inl 5] k_791 k_789 k_790 k_47 hdX9_lowest (by decide) (Nat.le_of_ble_eq_true rfl) dX9_odds_66 (by decide) rfl rfl (by decide) rfl rfl ?_
        have hR := Option.some.inj hR
        exact j_lret X hr dX9_odds_69 (by rw [← hR]) (by rw [← hR])
      · replace hR := (if_neg cv5).symm.trans hR
        refine j_aload_n X (q := 0) dX9_odds_36 rfl ?_
        refine j_iconst X (v := 1) dX9_odds_37 (by decide) ?_
        refine j_iload X (q := 4) dX9_odds_38 rfl ?_
        obtain ⟨ov7, hov7, hR⟩ := bd_some hR
        refine j_callV X (As := [.int 1, .int x4]) (rest := []) (ws2 := [cMod r_ r_n r_o r_h r_A r_O r_H r_b r_x r_c r_m r_s r_z r_i r_v im ov7.1 ov7.2.1 tx ta fa cl, cJar cJ r_A 4 ov7.2.2.1, cJar cJ r_H 4 ov7.2.2.2.1, cIar cI r_b 400 ov7.2.2.2.2.1, cIar cI r_h 69 ov7.2.2.2.2.2.1, cIar cI r_n 69 ov7.2.2.2.2.2.2]) (q0 := 0) (ci := 9) (mX9_hears l D cI cJ cB cT tt r_ r_n r_o r_h r_A r_O r_H r_b r_x r_c r_m r_s r_z r_i r_v hov7) [0, 1, 2, 3, 4, 5] [.inr 0, .inr 1, .inr 2, .inr 3, .inr 4, .inr 5] k_855 k_852 k_854 k_31 rfl rfl k_47 hdX9_hears (by decide) (Nat.le_of_ble_eq_true rfl) dX9_odds_40 (by decide) rfl rfl (by decide) rfl rfl ?_
        refine j_aload_n X (q := 0) dX9_odds_43 rfl ?_
        refine j_get X 0 7 hiX9 k_672 dX9_odds_44 rfl rfl (by decide) rfl ?_
        refine j_iload_n X (q := 1) dX9_odds_47 rfl ?_
        refine j_icmp_lt X (tgt := 54) dX9_odds_48 (by decide) (fun cv8 => ?_) (fun cv8 => ?_)
        · replace hR := (if_pos cv8).symm.trans hR
          obtain ⟨x4v9, ex4v9, hR⟩ := lt_some hR
          refine j_iinc X (k := 4) (v := x4v9) (lv2 := [(4, .int x4v9), (0, .ref r_), (1, .int i1), (2, .int i2), (3, .int x3)]) dX9_odds_54 rfl (by rw [← ex4v9]; rfl) (by decide) rfl ?_
          refine j_goto X (tgt := 29) dX9_odds_57 (by decide) ?_
          refine j_sub (lv2 := [(0, .ref r_), (1, .int i1), (2, .int i2), (3, .int x3), (4, .int x4v9)]) [1, 2, 3, 4, 0] rfl ?_
          exact ih _ _ _ _ _ _ _ _ _ hR
        · replace hR := (if_neg cv8).symm.trans hR
          obtain ⟨x3v10, ex3v10, hR⟩ := lt_some hR
          refine j_iinc X (k := 3) (v := x3v10) (lv2 := [(3, .int x3v10), (0, .ref r_), (1, .int i1), (2, .int i2), (4, .int x4)]) dX9_odds_51 rfl (by rw [← ex3v10]; rfl) (by decide) rfl ?_
          obtain ⟨x4v11, ex4v11, hR⟩ := lt_some hR
          refine j_iinc X (k := 4) (v := x4v11) (lv2 := [(4, .int x4v11), (3, .int x3v10), (0, .ref r_), (1, .int i1), (2, .int i2)]) dX9_odds_54 rfl (by rw [← ex4v11]; rfl) (by decide) rfl ?_
          refine j_goto X (tgt := 29) dX9_odds_57 (by decide) ?_
          refine j_sub (lv2 := [(0, .ref r_), (1, .int i1), (2, .int i2), (3, .int x3v10), (4, .int x4v11)]) [2, 3, 4, 1, 0] rfl ?_
          exact ih _ _ _ _ _ _ _ _ _ hR
  refine j_sub (lv2 := [(0, .ref r_), (1, .int i1), (2, .int i2)]) [0, 1, 2] rfl ?_
  have hR := h
  unfold fX9_odds at hR
  refine j_iload_n X (q := 1) dX9_odds_0 rfl ?_
  refine j_iconst X (v := 0) dX9_odds_1 (by decide) ?_
  refine j_bipush X (v := 99) dX9_odds_2 (by decide) ?_
  obtain ⟨ov1, hov1, hR⟩ := bd_some hR
  refine j_callS X (As := [.int i1, .int 0, .int 99]) (rest := []) (ws2 := [cMod r_ r_n r_o r_h r_A r_O r_H r_b r_x r_c r_m r_s r_z r_i r_v im be bg tx ta fa cl, cJar cJ r_A 4 f_A, cJar cJ r_H 4 f_H, cIar cI r_b 400 f_b, cIar cI r_h 69 f_h, cIar cI r_n 69 f_n]) (mX9_within l D cI cJ cB cT tt  hov1) [] [.inl 0, .inl 1, .inl 2, .inl 3, .inl 4, .inl 5] k_735 k_733 k_734 k_47 hdX9_within (by decide) (Nat.le_of_ble_eq_true rfl) dX9_odds_4 (by decide) rfl rfl (by decide) rfl rfl ?_
  refine j_if_eq X (tgt := 19) dX9_odds_7 (by decide) (fun cv2 => ?_) (fun cv2 => ?_)
  · replace hR := (if_pos cv2).symm.trans hR
    refine j_ldc2 X k_787 dX9_odds_19 ?_
    have hR := Option.some.inj hR
    exact j_lret X hr dX9_odds_22 (by rw [← hR]) (by rw [← hR])
  · replace hR := (if_neg cv2).symm.trans hR
    refine j_iload_n X (q := 2) dX9_odds_10 rfl ?_
    refine j_iconst X (v := 0) dX9_odds_11 (by decide) ?_
    refine j_iconst X (v := 1) dX9_odds_12 (by decide) ?_
    obtain ⟨ov3, hov3, hR⟩ := bd_some hR
    refine j_callS X (As := [.int i2, .int 0, .int 1]) (rest := []) (ws2 := [cMod r_ r_n r_o r_h r_A r_O r_H r_b r_x r_c r_m r_s r_z r_i r_v im be bg tx ta fa cl, cJar cJ r_A 4 f_A, cJar cJ r_H 4 f_H, cIar cI r_b 400 f_b, cIar cI r_h 69 f_h, cIar cI r_n 69 f_n]) (mX9_within l D cI cJ cB cT tt  hov3) [] [.inl 0, .inl 1, .inl 2, .inl 3, .inl 4, .inl 5] k_735 k_733 k_734 k_47 hdX9_within (by decide) (Nat.le_of_ble_eq_true rfl) dX9_odds_13 (by decide) rfl rfl (by decide) rfl rfl ?_
    refine j_if_ne X (tgt := 23) dX9_odds_16 (by decide) (fun cv4 => ?_) (fun cv4 => ?_)
    · replace hR := (if_neg cv4).symm.trans hR
      refine j_iconst X (v := 0) dX9_odds_23 (by decide) ?_
      refine j_istore_n X (lv2 := [(3, .int 0), (0, .ref r_), (1, .int i1), (2, .int i2)]) dX9_odds_24 (by decide) rfl ?_
      refine j_bipush X (v := (-20)) dX9_odds_25 (by decide) ?_
      refine j_istore X (lv2 := [(4, .int (-20)), (3, .int 0), (0, .ref r_), (1, .int i1), (2, .int i2)]) dX9_odds_27 (by decide) rfl ?_
      refine j_sub (lv2 := [(0, .ref r_), (1, .int i1), (2, .int i2), (3, .int 0), (4, .int (-20))]) [2, 3, 4, 1, 0] rfl ?_
      exact L_29 _ _ _ _ _ _ _ _ _ _ hR
    · replace hR := (if_pos cv4).symm.trans hR
      refine j_ldc2 X k_787 dX9_odds_19 ?_
      have hR := Option.some.inj hR
      exact j_lret X hr dX9_odds_22 (by rw [← hR]) (by rw [← hR])

def rmX9_mean : Room := { frames := 6, cells := 0, slots := 0, locals := 137 }
theorem hdX9_mean : yX9_mean.cls ≠ "java/lang/invoke/MethodHandle" ∧ yX9_mean.cls ≠ "java/lang/invoke/VarHandle" ∧ (parseMethodDescriptor yX9_mean.desc).map (fun d => d.parameters.length) = some 1 := by decide +kernel
def fX9_mean (i1 : Int32) (im : Int32) (be : Int32) (bg : Int32) (tx : Int32) (ta : Int32) (fa : Int32) (cl : Int32) (f_A : Nat → Int64) (f_H : Nat → Int64) (f_b : Nat → Int32) (f_h : Nat → Int32) (f_n : Nat → Int32) : Option (Int64 × Int32 × Int32 × (Nat → Int64) × (Nat → Int64) × (Nat → Int32) × (Nat → Int32) × (Nat → Int32)) :=
  (fX9_within i1 0 1).bind fun ov1 =>
  if ov1 = 0 then (some ((-9223372036854775808), be, bg, f_A, f_H, f_b, f_h, f_n)) else ((fX9_hears_ im be bg tx ta fa cl f_A f_H f_b f_h f_n).bind fun ov3 =>
  (fX9_gaps im ov3.1 ov3.2.1 tx ta fa cl).bind fun ov4 =>
  if ov4 = 0 then (some ((-9223372036854775808), ov3.1, ov3.2.1, ov3.2.2.1, ov3.2.2.2.1, ov3.2.2.2.2.1, ov3.2.2.2.2.2.1, ov3.2.2.2.2.2.2)) else (gd (inb (ov3.1 - 1) 400) ((fX9_gaps im ov3.1 ov3.2.1 tx ta fa cl).bind fun ov7 =>
  (fX9_lowest (((ov3.2.2.2.2.1 (ov3.1 - 1).toNatClampNeg) - (ov3.2.2.2.2.1 0)).toInt64) ov7.toInt64 i1).bind fun ov8 =>
  some (ov8, ov3.1, ov3.2.1, ov3.2.2.1, ov3.2.2.2.1, ov3.2.2.2.2.1, ov3.2.2.2.2.2.1, ov3.2.2.2.2.2.2))))
set_option maxHeartbeats 8000000 in
set_option maxRecDepth 100000 in
theorem mX9_mean (l : Launch) (D : va_G) (cI cJ cB cT : ClassId) (tt : Nat → Nat) (r_ r_n r_o r_h r_A r_O r_H r_b r_x r_c r_m r_s r_z r_i r_v : Nat) {i1 : Int32} {im : Int32} {be : Int32} {bg : Int32} {tx : Int32} {ta : Int32} {fa : Int32} {cl : Int32} {f_A : Nat → Int64} {f_H : Nat → Int64} {f_b : Nat → Int32} {f_h : Nat → Int32} {f_n : Nat → Int32} {out : Int64 × Int32 × Int32 × (Nat → Int64) × (Nat → Int64) × (Nat → Int32) × (Nat → Int32) × (Nat → Int32)} (h : fX9_mean i1 im be bg tx ta fa cl f_A f_H f_b f_h f_n = some out) :
    jM l yX9_mean (.code yX9_mean cX9_mean 2 (some .long)) rmX9_mean D (wTy cI cJ cB cT) tt [.ref r_, .int i1] [cMod r_ r_n r_o r_h r_A r_O r_H r_b r_x r_c r_m r_s r_z r_i r_v im be bg tx ta fa cl, cJar cJ r_A 4 f_A, cJar cJ r_H 4 f_H, cIar cI r_b 400 f_b, cIar cI r_h 69 f_h, cIar cI r_n 69 f_n] (some (.long out.1)) [cMod r_ r_n r_o r_h r_A r_O r_H r_b r_x r_c r_m r_s r_z r_i r_v im out.2.1 out.2.2.1 tx ta fa cl, cJar cJ r_A 4 out.2.2.2.1, cJar cJ r_H 4 out.2.2.2.2.1, cIar cI r_b 400 out.2.2.2.2.2.1, cIar cI r_h 69 out.2.2.2.2.2.2.1, cIar cI r_n 69 out.2.2.2.2.2.2.2] := by
  refine jM.of (by decide) (Nat.le_of_ble_eq_true rfl) ?_
  intro p e s m below meth c A X hr
  refine j_sub (lv2 := [(0, .ref r_), (1, .int i1)]) [0, 1] rfl ?_
  have hR := h
  unfold fX9_mean at hR
  refine j_iload_n X (q := 1) dX9_mean_0 rfl ?_
  refine j_iconst X (v := 0) dX9_mean_1 (by decide) ?_
  refine j_iconst X (v := 1) dX9_mean_2 (by decide) ?_
  obtain ⟨ov1, hov1, hR⟩ := bd_some hR
  refine j_callS X (As := [.int i1, .int 0, .int 1]) (rest := []) (ws2 := [cMod r_ r_n r_o r_h r_A r_O r_H r_b r_x r_c r_m r_s r_z r_i r_v im be bg tx ta fa cl, cJar cJ r_A 4 f_A, cJar cJ r_H 4 f_H, cIar cI r_b 400 f_b, cIar cI r_h 69 f_h, cIar cI r_n 69 f_n]) (mX9_within l D cI cJ cB cT tt  hov1) [] [.inl 0, .inl 1, .inl 2, .inl 3, .inl 4, .inl 5] k_735 k_733 k_734 k_47 hdX9_within (by decide) (Nat.le_of_ble_eq_true rfl) dX9_mean_3 (by decide) rfl rfl (by decide) rfl rfl ?_
  refine j_if_ne X (tgt := 13) dX9_mean_6 (by decide) (fun cv2 => ?_) (fun cv2 => ?_)
  · replace hR := (if_neg cv2).symm.trans hR
    refine j_aload_n X (q := 0) dX9_mean_13 rfl ?_
    obtain ⟨ov3, hov3, hR⟩ := bd_some hR
    refine j_callV X (As := []) (rest := []) (ws2 := [cMod r_ r_n r_o r_h r_A r_O r_H r_b r_x r_c r_m r_s r_z r_i r_v im ov3.1 ov3.2.1 tx ta fa cl, cJar cJ r_A 4 ov3.2.2.1, cJar cJ r_H 4 ov3.2.2.2.1, cIar cI r_b 400 ov3.2.2.2.2.1, cIar cI r_h 69 ov3.2.2.2.2.2.1, cIar cI r_n 69 ov3.2.2.2.2.2.2]) (q0 := 0) (ci := 9) (mX9_hears_ l D cI cJ cB cT tt r_ r_n r_o r_h r_A r_O r_H r_b r_x r_c r_m r_s r_z r_i r_v hov3) [0, 1, 2, 3, 4, 5] [.inr 0, .inr 1, .inr 2, .inr 3, .inr 4, .inr 5] k_851 k_848 k_850 k_30 rfl rfl k_47 hdX9_hears_ (by decide) (Nat.le_of_ble_eq_true rfl) dX9_mean_14 (by decide) rfl rfl (by decide) rfl rfl ?_
    refine j_aload_n X (q := 0) dX9_mean_17 rfl ?_
    obtain ⟨ov4, hov4, hR⟩ := bd_some hR
    refine j_callV X (As := []) (rest := []) (ws2 := [cMod r_ r_n r_o r_h r_A r_O r_H r_b r_x r_c r_m r_s r_z r_i r_v im ov3.1 ov3.2.1 tx ta fa cl, cJar cJ r_A 4 ov3.2.2.1, cJar cJ r_H 4 ov3.2.2.2.1, cIar cI r_b 400 ov3.2.2.2.2.1, cIar cI r_h 69 ov3.2.2.2.2.2.1, cIar cI r_n 69 ov3.2.2.2.2.2.2]) (q0 := 0) (ci := 9) (mX9_gaps l D cI cJ cB cT tt r_ r_n r_o r_h r_A r_O r_H r_b r_x r_c r_m r_s r_z r_i r_v hov4) [0] [.inr 0, .inl 1, .inl 2, .inl 3, .inl 4, .inl 5] k_871 k_868 k_870 k_34 rfl rfl k_47 hdX9_gaps (by decide) (Nat.le_of_ble_eq_true rfl) dX9_mean_18 (by decide) rfl rfl (by decide) rfl rfl ?_
    refine j_if_ne X (tgt := 30) dX9_mean_21 (by decide) (fun cv5 => ?_) (fun cv5 => ?_)
    · replace hR := (if_neg cv5).symm.trans hR
      refine j_aload_n X (q := 0) dX9_mean_30 rfl ?_
      refine j_get X 0 9 hiX9 k_674 dX9_mean_31 rfl rfl (by decide) rfl ?_
      refine j_aload_n X (q := 0) dX9_mean_34 rfl ?_
      refine j_get X 0 7 hiX9 k_672 dX9_mean_35 rfl rfl (by decide) rfl ?_
      refine j_iconst X (v := 1) dX9_mean_38 (by decide) ?_
      refine j_isub X dX9_mean_39 ?_
      obtain ⟨gv6, hR⟩ := gd_some hR
      refine j_iald X 3 0 rfl dX9_mean_40 rfl rfl gv6 ?_
      refine j_aload_n X (q := 0) dX9_mean_41 rfl ?_
      refine j_get X 0 9 hiX9 k_674 dX9_mean_42 rfl rfl (by decide) rfl ?_
      refine j_iconst X (v := 0) dX9_mean_45 (by decide) ?_
      refine j_iald X (k := 0) 3 0 rfl dX9_mean_46 rfl rfl (by decide) ?_
      refine j_isub X dX9_mean_47 ?_
      refine j_i2l X dX9_mean_48 ?_
      refine j_aload_n X (q := 0) dX9_mean_49 rfl ?_
      obtain ⟨ov7, hov7, hR⟩ := bd_some hR
      refine j_callV X (As := []) (rest := [.long (((ov3.2.2.2.2.1 (ov3.1 - 1).toNatClampNeg) - (ov3.2.2.2.2.1 0)).toInt64)]) (ws2 := [cMod r_ r_n r_o r_h r_A r_O r_H r_b r_x r_c r_m r_s r_z r_i r_v im ov3.1 ov3.2.1 tx ta fa cl, cJar cJ r_A 4 ov3.2.2.1, cJar cJ r_H 4 ov3.2.2.2.1, cIar cI r_b 400 ov3.2.2.2.2.1, cIar cI r_h 69 ov3.2.2.2.2.2.1, cIar cI r_n 69 ov3.2.2.2.2.2.2]) (q0 := 0) (ci := 9) (mX9_gaps l D cI cJ cB cT tt r_ r_n r_o r_h r_A r_O r_H r_b r_x r_c r_m r_s r_z r_i r_v hov7) [0] [.inr 0, .inl 1, .inl 2, .inl 3, .inl 4, .inl 5] k_871 k_868 k_870 k_34 rfl rfl k_47 hdX9_gaps (by decide) (Nat.le_of_ble_eq_true rfl) dX9_mean_50 (by decide) rfl rfl (by decide) rfl rfl ?_
      refine j_i2l X dX9_mean_53 ?_
      refine j_iload_n X (q := 1) dX9_mean_54 rfl ?_
      obtain ⟨ov8, hov8, hR⟩ := bd_some hR
      refine j_callS X (As := [.long (((ov3.2.2.2.2.1 (ov3.1 - 1).toNatClampNeg) - (ov3.2.2.2.2.1 0)).toInt64), .long ov7.toInt64, .int i1]) (rest := []) (ws2 := [cMod r_ r_n r_o r_h r_A r_O r_H r_b r_x r_c r_m r_s r_z r_i r_v im ov3.1 ov3.2.1 tx ta fa cl, cJar cJ r_A 4 ov3.2.2.1, cJar cJ r_H 4 ov3.2.2.2.1, cIar cI r_b 400 ov3.2.2.2.2.1, cIar cI r_h 69 ov3.2.2.2.2.2.1, cIar cI r_n 69 ov3.2.2.2.2.2.2]) (mX9_lowest l D cI cJ cB cT tt  hov8) [] [.inl 0, .inl 1, .inl 2, .inl 3, .inl 4, .inl 5] k_791 k_789 k_790 k_47 hdX9_lowest (by decide) (Nat.le_of_ble_eq_true rfl) dX9_mean_55 (by decide) rfl rfl (by decide) rfl rfl ?_
      have hR := Option.some.inj hR
      exact j_lret X hr dX9_mean_58 (by rw [← hR]) (by rw [← hR])
    · replace hR := (if_pos cv5).symm.trans hR
      refine j_ldc2 X k_787 dX9_mean_24 ?_
      refine j_goto X (tgt := 58) dX9_mean_27 (by decide) ?_
      have hR := Option.some.inj hR
      exact j_lret X hr dX9_mean_58 (by rw [← hR]) (by rw [← hR])
  · replace hR := (if_pos cv2).symm.trans hR
    refine j_ldc2 X k_787 dX9_mean_9 ?_
    have hR := Option.some.inj hR
    exact j_lret X hr dX9_mean_12 (by rw [← hR]) (by rw [← hR])

def rmX9_book : Room := { frames := 1, cells := 0, slots := 0, locals := 22 }
theorem hdX9_book : yX9_book.cls ≠ "java/lang/invoke/MethodHandle" ∧ yX9_book.cls ≠ "java/lang/invoke/VarHandle" ∧ (parseMethodDescriptor yX9_book.desc).map (fun d => d.parameters.length) = some 2 := by decide +kernel
def fX9_book (i1 : Int32) (i2 : Int32) (im : Int32) (be : Int32) (bg : Int32) (tx : Int32) (ta : Int32) (fa : Int32) (cl : Int32) (f_n : Nat → Int32) : Option (Int32 × (Nat → Int32)) :=
  if i1 = (-1) then (lt' (upd f_n 14 0) fun f_nv13 =>
  some (0, f_nv13)) else ((fX9_within i1 0 99).bind fun ov2 =>
  if ov2 = 0 then (some ((-2), f_n)) else ((fX9_within i2 0 400).bind fun ov4 =>
  if ov4 = 0 then (some ((-2), f_n)) else (if (f_n 14) = 8 then (some ((-4), f_n)) else (gd (inb ((53 : Int32) + ((2 : Int32) * (f_n 14))) 69) (lt' (upd f_n (((53 : Int32) + ((2 : Int32) * (f_n 14))).toNatClampNeg) i1) fun f_nv8 =>
  gd (inb (((53 : Int32) + ((2 : Int32) * (f_nv8 14))) + 1) 69) (lt' (upd f_nv8 ((((53 : Int32) + ((2 : Int32) * (f_nv8 14))) + 1).toNatClampNeg) i2) fun f_nv10 =>
  lt' ((f_nv10 14) + 1) fun dv11 =>
  lt' (upd f_nv10 14 dv11) fun f_nv12 =>
  some (dv11, f_nv12)))))))
set_option maxHeartbeats 8000000 in
set_option maxRecDepth 100000 in
theorem mX9_book (l : Launch) (D : va_G) (cI cJ cB cT : ClassId) (tt : Nat → Nat) (r_ r_n r_o r_h r_A r_O r_H r_b r_x r_c r_m r_s r_z r_i r_v : Nat) {i1 : Int32} {i2 : Int32} {im : Int32} {be : Int32} {bg : Int32} {tx : Int32} {ta : Int32} {fa : Int32} {cl : Int32} {f_n : Nat → Int32} {out : Int32 × (Nat → Int32)} (h : fX9_book i1 i2 im be bg tx ta fa cl f_n = some out) :
    jM l yX9_book (.code yX9_book cX9_book 3 (some .int)) rmX9_book D (wTy cI cJ cB cT) tt [.ref r_, .int i1, .int i2] [cMod r_ r_n r_o r_h r_A r_O r_H r_b r_x r_c r_m r_s r_z r_i r_v im be bg tx ta fa cl, cIar cI r_n 69 f_n] (some (.int out.1)) [cMod r_ r_n r_o r_h r_A r_O r_H r_b r_x r_c r_m r_s r_z r_i r_v im be bg tx ta fa cl, cIar cI r_n 69 out.2] := by
  refine jM.of (by decide) (Nat.le_of_ble_eq_true rfl) ?_
  intro p e s m below meth c A X hr
  refine j_sub (lv2 := [(0, .ref r_), (1, .int i1), (2, .int i2)]) [0, 1, 2] rfl ?_
  have hR := h
  unfold fX9_book at hR
  refine j_iload_n X (q := 1) dX9_book_0 rfl ?_
  refine j_iconst X (v := (-1)) dX9_book_1 (by decide) ?_
  refine j_icmp_ne X (tgt := 15) dX9_book_2 (by decide) (fun cv1 => ?_) (fun cv1 => ?_)
  · replace hR := (if_neg cv1).symm.trans hR
    refine j_iload_n X (q := 1) dX9_book_15 rfl ?_
    refine j_iconst X (v := 0) dX9_book_16 (by decide) ?_
    refine j_bipush X (v := 99) dX9_book_17 (by decide) ?_
    obtain ⟨ov2, hov2, hR⟩ := bd_some hR
    refine j_callS X (As := [.int i1, .int 0, .int 99]) (rest := []) (ws2 := [cMod r_ r_n r_o r_h r_A r_O r_H r_b r_x r_c r_m r_s r_z r_i r_v im be bg tx ta fa cl, cIar cI r_n 69 f_n]) (mX9_within l D cI cJ cB cT tt  hov2) [] [.inl 0, .inl 1] k_735 k_733 k_734 k_47 hdX9_within (by decide) (Nat.le_of_ble_eq_true rfl) dX9_book_19 (by decide) rfl rfl (by decide) rfl rfl ?_
    refine j_if_eq X (tgt := 36) dX9_book_22 (by decide) (fun cv3 => ?_) (fun cv3 => ?_)
    · replace hR := (if_pos cv3).symm.trans hR
      refine j_bipush X (v := (-2)) dX9_book_36 (by decide) ?_
      have hR := Option.some.inj hR
      exact j_iret X hr dX9_book_38 (by rw [← hR]) (by rw [← hR])
    · replace hR := (if_neg cv3).symm.trans hR
      refine j_iload_n X (q := 2) dX9_book_25 rfl ?_
      refine j_iconst X (v := 0) dX9_book_26 (by decide) ?_
      refine j_sipush X (v := 400) dX9_book_27 (by decide) ?_
      obtain ⟨ov4, hov4, hR⟩ := bd_some hR
      refine j_callS X (As := [.int i2, .int 0, .int 400]) (rest := []) (ws2 := [cMod r_ r_n r_o r_h r_A r_O r_H r_b r_x r_c r_m r_s r_z r_i r_v im be bg tx ta fa cl, cIar cI r_n 69 f_n]) (mX9_within l D cI cJ cB cT tt  hov4) [] [.inl 0, .inl 1] k_735 k_733 k_734 k_47 hdX9_within (by decide) (Nat.le_of_ble_eq_true rfl) dX9_book_30 (by decide) rfl rfl (by decide) rfl rfl ?_
      refine j_if_ne X (tgt := 39) dX9_book_33 (by decide) (fun cv5 => ?_) (fun cv5 => ?_)
      · replace hR := (if_neg cv5).symm.trans hR
        refine j_aload_n X (q := 0) dX9_book_39 rfl ?_
        refine j_get X 0 0 hiX9 k_665 dX9_book_40 rfl rfl (by decide) rfl ?_
        refine j_bipush X (v := 14) dX9_book_43 (by decide) ?_
        refine j_iald X (k := 14) 1 0 rfl dX9_book_45 rfl rfl (by decide) ?_
        refine j_bipush X (v := 8) dX9_book_46 (by decide) ?_
        refine j_icmp_ne X (tgt := 54) dX9_book_48 (by decide) (fun cv6 => ?_) (fun cv6 => ?_)
        · replace hR := (if_neg cv6).symm.trans hR
          refine j_aload_n X (q := 0) dX9_book_54 rfl ?_
          refine j_get X 0 0 hiX9 k_665 dX9_book_55 rfl rfl (by decide) rfl ?_
          refine j_bipush X (v := 53) dX9_book_58 (by decide) ?_
          refine j_iconst X (v := 2) dX9_book_60 (by decide) ?_
          refine j_aload_n X (q := 0) dX9_book_61 rfl ?_
          refine j_get X 0 0 hiX9 k_665 dX9_book_62 rfl rfl (by decide) rfl ?_
          refine j_bipush X (v := 14) dX9_book_65 (by decide) ?_
          refine j_iald X (k := 14) 1 0 rfl dX9_book_67 rfl rfl (by decide) ?_
          refine j_imul X dX9_book_68 ?_
          refine j_iadd X dX9_book_69 ?_
          refine j_iload_n X (q := 1) dX9_book_70 rfl ?_
          obtain ⟨gv7, hR⟩ := gd_some hR
          obtain ⟨f_nv8, ef_nv8, hR⟩ := lt_some hR
          refine j_iast X (ws2 := [cMod r_ r_n r_o r_h r_A r_O r_H r_b r_x r_c r_m r_s r_z r_i r_v im be bg tx ta fa cl, cIar cI r_n 69 f_nv8]) 1 0 rfl dX9_book_71 rfl rfl gv7 ef_nv8 rfl ?_
          refine j_aload_n X (q := 0) dX9_book_72 rfl ?_
          refine j_get X 0 0 hiX9 k_665 dX9_book_73 rfl rfl (by decide) rfl ?_
          refine j_bipush X (v := 53) dX9_book_76 (by decide) ?_
          refine j_iconst X (v := 2) dX9_book_78 (by decide) ?_
          refine j_aload_n X (q := 0) dX9_book_79 rfl ?_
          refine j_get X 0 0 hiX9 k_665 dX9_book_80 rfl rfl (by decide) rfl ?_
          refine j_bipush X (v := 14) dX9_book_83 (by decide) ?_
          refine j_iald X (k := 14) 1 0 rfl dX9_book_85 rfl rfl (by decide) ?_
          refine j_imul X dX9_book_86 ?_
          refine j_iadd X dX9_book_87 ?_
          refine j_iconst X (v := 1) dX9_book_88 (by decide) ?_
          refine j_iadd X dX9_book_89 ?_
          refine j_iload_n X (q := 2) dX9_book_90 rfl ?_
          obtain ⟨gv9, hR⟩ := gd_some hR
          obtain ⟨f_nv10, ef_nv10, hR⟩ := lt_some hR
          refine j_iast X (ws2 := [cMod r_ r_n r_o r_h r_A r_O r_H r_b r_x r_c r_m r_s r_z r_i r_v im be bg tx ta fa cl, cIar cI r_n 69 f_nv10]) 1 0 rfl dX9_book_91 rfl rfl gv9 ef_nv10 rfl ?_
          refine j_aload_n X (q := 0) dX9_book_92 rfl ?_
          refine j_get X 0 0 hiX9 k_665 dX9_book_93 rfl rfl (by decide) rfl ?_
          refine j_bipush X (v := 14) dX9_book_96 (by decide) ?_
          refine j_dup2_11 X dX9_book_98 rfl rfl ?_
          refine j_iald X (k := 14) 1 0 rfl dX9_book_99 rfl rfl (by decide) ?_
          refine j_iconst X (v := 1) dX9_book_100 (by decide) ?_
          refine j_iadd X dX9_book_101 ?_
          obtain ⟨dv11, edv11, hR⟩ := lt_some hR
          refine j_eq (congrArg (fun z => Value.int z :: _) edv11) rfl ?_
          refine j_dup_x2 X dX9_book_102 rfl rfl rfl ?_
          obtain ⟨f_nv12, ef_nv12, hR⟩ := lt_some hR
          refine j_iast X (k := 14) (ws2 := [cMod r_ r_n r_o r_h r_A r_O r_H r_b r_x r_c r_m r_s r_z r_i r_v im be bg tx ta fa cl, cIar cI r_n 69 f_nv12]) 1 0 rfl dX9_book_103 rfl rfl (by decide) ef_nv12 rfl ?_
          have hR := Option.some.inj hR
          exact j_iret X hr dX9_book_104 (by rw [← hR]) (by rw [← hR])
        · replace hR := (if_pos cv6).symm.trans hR
          refine j_bipush X (v := (-4)) dX9_book_51 (by decide) ?_
          have hR := Option.some.inj hR
          exact j_iret X hr dX9_book_53 (by rw [← hR]) (by rw [← hR])
      · replace hR := (if_pos cv5).symm.trans hR
        refine j_bipush X (v := (-2)) dX9_book_36 (by decide) ?_
        have hR := Option.some.inj hR
        exact j_iret X hr dX9_book_38 (by rw [← hR]) (by rw [← hR])
  · replace hR := (if_pos cv1).symm.trans hR
    refine j_aload_n X (q := 0) dX9_book_5 rfl ?_
    refine j_get X 0 0 hiX9 k_665 dX9_book_6 rfl rfl (by decide) rfl ?_
    refine j_bipush X (v := 14) dX9_book_9 (by decide) ?_
    refine j_iconst X (v := 0) dX9_book_11 (by decide) ?_
    obtain ⟨f_nv13, ef_nv13, hR⟩ := lt_some hR
    refine j_iast X (k := 14) (ws2 := [cMod r_ r_n r_o r_h r_A r_O r_H r_b r_x r_c r_m r_s r_z r_i r_v im be bg tx ta fa cl, cIar cI r_n 69 f_nv13]) 1 0 rfl dX9_book_12 rfl rfl (by decide) ef_nv13 rfl ?_
    refine j_iconst X (v := 0) dX9_book_13 (by decide) ?_
    have hR := Option.some.inj hR
    exact j_iret X hr dX9_book_14 (by rw [← hR]) (by rw [← hR])

def rmX9_looked : Room := { frames := 6, cells := 0, slots := 0, locals := 137 }
theorem hdX9_looked : yX9_looked.cls ≠ "java/lang/invoke/MethodHandle" ∧ yX9_looked.cls ≠ "java/lang/invoke/VarHandle" ∧ (parseMethodDescriptor yX9_looked.desc).map (fun d => d.parameters.length) = some 0 := by decide +kernel
def fX9_looked_6 (im : Int32) (tx : Int32) (ta : Int32) (fa : Int32) (cl : Int32) : Nat → Int32 → Int32 → Int32 → (Nat → Int64) → (Nat → Int64) → (Nat → Int32) → (Nat → Int32) → (Nat → Int32) → Option (Int32 × Int32 × Int32 × (Nat → Int64) × (Nat → Int64) × (Nat → Int32) × (Nat → Int32) × (Nat → Int32))
  | 0, _, _, _, _, _, _, _, _ => none
  | fu + 1, x1, be, bg, f_A, f_H, f_b, f_h, f_n =>
    if (f_n 14) ≤ x1 then (some ((-5), be, bg, f_A, f_H, f_b, f_h, f_n)) else (gd (inb ((53 : Int32) + ((2 : Int32) * x1)) 69) (lt' (f_n ((53 : Int32) + ((2 : Int32) * x1)).toNatClampNeg) fun x2v4 =>
  if be ≤ x2v4 then (some (x1, be, bg, f_A, f_H, f_b, f_h, f_n)) else (gd (inb x2v4 400) (gd (inb (((53 : Int32) + ((2 : Int32) * x1)) + 1) 69) (if (f_b x2v4.toNatClampNeg) = (f_n (((53 : Int32) + ((2 : Int32) * x1)) + 1).toNatClampNeg) then (lt' (x1 + 1) fun x1v9 =>
  fX9_looked_6 im tx ta fa cl fu x1v9 be bg f_A f_H f_b f_h f_n) else (some (x1, be, bg, f_A, f_H, f_b, f_h, f_n)))))))
def fX9_looked (im : Int32) (be : Int32) (bg : Int32) (tx : Int32) (ta : Int32) (fa : Int32) (cl : Int32) (f_A : Nat → Int64) (f_H : Nat → Int64) (f_b : Nat → Int32) (f_h : Nat → Int32) (f_n : Nat → Int32) : Option (Int32 × Int32 × Int32 × (Nat → Int64) × (Nat → Int64) × (Nat → Int32) × (Nat → Int32) × (Nat → Int32)) :=
  (fX9_hears_ im be bg tx ta fa cl f_A f_H f_b f_h f_n).bind fun ov1 =>
  fX9_looked_6 im tx ta fa cl 500 0 ov1.1 ov1.2.1 ov1.2.2.1 ov1.2.2.2.1 ov1.2.2.2.2.1 ov1.2.2.2.2.2.1 ov1.2.2.2.2.2.2
set_option maxHeartbeats 8000000 in
set_option maxRecDepth 100000 in
theorem mX9_looked (l : Launch) (D : va_G) (cI cJ cB cT : ClassId) (tt : Nat → Nat) (r_ r_n r_o r_h r_A r_O r_H r_b r_x r_c r_m r_s r_z r_i r_v : Nat)  {im : Int32} {be : Int32} {bg : Int32} {tx : Int32} {ta : Int32} {fa : Int32} {cl : Int32} {f_A : Nat → Int64} {f_H : Nat → Int64} {f_b : Nat → Int32} {f_h : Nat → Int32} {f_n : Nat → Int32} {out : Int32 × Int32 × Int32 × (Nat → Int64) × (Nat → Int64) × (Nat → Int32) × (Nat → Int32) × (Nat → Int32)} (h : fX9_looked im be bg tx ta fa cl f_A f_H f_b f_h f_n = some out) :
    jM l yX9_looked (.code yX9_looked cX9_looked 3 (some .int)) rmX9_looked D (wTy cI cJ cB cT) tt [.ref r_] [cMod r_ r_n r_o r_h r_A r_O r_H r_b r_x r_c r_m r_s r_z r_i r_v im be bg tx ta fa cl, cJar cJ r_A 4 f_A, cJar cJ r_H 4 f_H, cIar cI r_b 400 f_b, cIar cI r_h 69 f_h, cIar cI r_n 69 f_n] (some (.int out.1)) [cMod r_ r_n r_o r_h r_A r_O r_H r_b r_x r_c r_m r_s r_z r_i r_v im out.2.1 out.2.2.1 tx ta fa cl, cJar cJ r_A 4 out.2.2.2.1, cJar cJ r_H 4 out.2.2.2.2.1, cIar cI r_b 400 out.2.2.2.2.2.1, cIar cI r_h 69 out.2.2.2.2.2.2.1, cIar cI r_n 69 out.2.2.2.2.2.2.2] := by
  refine jM.of (by decide) (Nat.le_of_ble_eq_true rfl) ?_
  intro p e s m below meth c A X hr
  have L_6 : ∀ (fuel : Nat) (x1 : Int32) (be : Int32) (bg : Int32) (f_A : Nat → Int64) (f_H : Nat → Int64) (f_b : Nat → Int32) (f_h : Nat → Int32) (f_n : Nat → Int32), fX9_looked_6 im tx ta fa cl  fuel x1 be bg f_A f_H f_b f_h f_n = some out → jW p l e rmX9_looked s m ([.ref r_] : List Value).toArray below meth c D A 3 (MQ below (jQ D (some (.int out.1)) [cMod r_ r_n r_o r_h r_A r_O r_H r_b r_x r_c r_m r_s r_z r_i r_v im out.2.1 out.2.2.1 tx ta fa cl, cJar cJ r_A 4 out.2.2.2.1, cJar cJ r_H 4 out.2.2.2.2.1, cIar cI r_b 400 out.2.2.2.2.2.1, cIar cI r_h 69 out.2.2.2.2.2.2.1, cIar cI r_n 69 out.2.2.2.2.2.2.2] A) ([.ref r_] : List Value).toArray s 0 0 A) 0 0 6 [(0, .ref r_), (1, .int x1)] [] [cMod r_ r_n r_o r_h r_A r_O r_H r_b r_x r_c r_m r_s r_z r_i r_v im be bg tx ta fa cl, cJar cJ r_A 4 f_A, cJar cJ r_H 4 f_H, cIar cI r_b 400 f_b, cIar cI r_h 69 f_h, cIar cI r_n 69 f_n] := by
    intro  fuel
    induction fuel with
    | zero =>
      intro x1 be bg f_A f_H f_b f_h f_n hR
      rw [fX9_looked_6] at hR
      cases hR
    | succ fu ih =>
      intro x1 be bg f_A f_H f_b f_h f_n hR
      rw [fX9_looked_6] at hR
      refine j_iload_n X (q := 1) dX9_looked_6 rfl ?_
      refine j_aload_n X (q := 0) dX9_looked_7 rfl ?_
      refine j_get X 0 0 hiX9 k_665 dX9_looked_8 rfl rfl (by decide) rfl ?_
      refine j_bipush X (v := 14) dX9_looked_11 (by decide) ?_
      refine j_iald X (k := 14) 5 0 rfl dX9_looked_13 rfl rfl (by decide) ?_
      refine j_icmp_ge X (tgt := 67) dX9_looked_14 (by decide) (fun cv2 => ?_) (fun cv2 => ?_)
      · replace hR := (if_pos cv2).symm.trans hR
        refine j_bipush X (v := (-5)) dX9_looked_67 (by decide) ?_
        have hR := Option.some.inj hR
        exact j_iret X hr dX9_looked_69 (by rw [← hR]) (by rw [← hR])
      · replace hR := (if_neg cv2).symm.trans hR
        refine j_aload_n X (q := 0) dX9_looked_17 rfl ?_
        refine j_get X 0 0 hiX9 k_665 dX9_looked_18 rfl rfl (by decide) rfl ?_
        refine j_bipush X (v := 53) dX9_looked_21 (by decide) ?_
        refine j_iconst X (v := 2) dX9_looked_23 (by decide) ?_
        refine j_iload_n X (q := 1) dX9_looked_24 rfl ?_
        refine j_imul X dX9_looked_25 ?_
        refine j_iadd X dX9_looked_26 ?_
        obtain ⟨gv3, hR⟩ := gd_some hR
        refine j_iald X 5 0 rfl dX9_looked_27 rfl rfl gv3 ?_
        obtain ⟨x2v4, ex2v4, hR⟩ := lt_some hR
        refine j_eq (congrArg (fun z => Value.int z :: _) ex2v4) rfl ?_
        refine j_istore_n X (lv2 := [(2, .int x2v4), (0, .ref r_), (1, .int x1)]) dX9_looked_28 (by decide) rfl ?_
        refine j_iload_n X (q := 0) dX9_looked_29 rfl ?_
        refine j_aload_n X (q := 1) dX9_looked_30 rfl ?_
        refine j_get X 0 7 hiX9 k_672 dX9_looked_31 rfl rfl (by decide) rfl ?_
        refine j_icmp_ge X (tgt := 59) dX9_looked_34 (by decide) (fun cv5 => ?_) (fun cv5 => ?_)
        · replace hR := (if_pos cv5).symm.trans hR
          refine j_iload_n X (q := 2) dX9_looked_59 rfl ?_
          have hR := Option.some.inj hR
          exact j_iret X hr dX9_looked_60 (by rw [← hR]) (by rw [← hR])
        · replace hR := (if_neg cv5).symm.trans hR
          refine j_aload_n X (q := 1) dX9_looked_37 rfl ?_
          refine j_get X 0 9 hiX9 k_674 dX9_looked_38 rfl rfl (by decide) rfl ?_
          refine j_iload_n X (q := 0) dX9_looked_41 rfl ?_
          obtain ⟨gv6, hR⟩ := gd_some hR
          refine j_iald X 3 0 rfl dX9_looked_42 rfl rfl gv6 ?_
          refine j_aload_n X (q := 1) dX9_looked_43 rfl ?_
          refine j_get X 0 0 hiX9 k_665 dX9_looked_44 rfl rfl (by decide) rfl ?_
          refine j_bipush X (v := 53) dX9_looked_47 (by decide) ?_
          refine j_iconst X (v := 2) dX9_looked_49 (by decide) ?_
          refine j_iload_n X (q := 2) dX9_looked_50 rfl ?_
          refine j_imul X dX9_looked_51 ?_
          refine j_iadd X dX9_looked_52 ?_
          refine j_iconst X (v := 1) dX9_looked_53 (by decide) ?_
          refine j_iadd X dX9_looked_54 ?_
          obtain ⟨gv7, hR⟩ := gd_some hR
          refine j_iald X 5 0 rfl dX9_looked_55 rfl rfl gv7 ?_
          refine j_icmp_eq X (tgt := 61) dX9_looked_56 (by decide) (fun cv8 => ?_) (fun cv8 => ?_)
          · replace hR := (if_pos cv8).symm.trans hR
            obtain ⟨x1v9, ex1v9, hR⟩ := lt_some hR
            refine j_iinc X (k := 2) (v := x1v9) (lv2 := [(1, .int x1v9), (2, .int x2v4), (0, .ref r_)]) dX9_looked_61 rfl (by rw [← ex1v9]; rfl) (by decide) rfl ?_
            refine j_goto X (tgt := 6) dX9_looked_64 (by decide) ?_
            refine j_sub (lv2 := [(0, .ref r_), (1, .int x1v9)]) [2, 0] rfl ?_
            exact ih _ _ _ _ _ _ _ _ hR
          · replace hR := (if_neg cv8).symm.trans hR
            refine j_iload_n X (q := 2) dX9_looked_59 rfl ?_
            have hR := Option.some.inj hR
            exact j_iret X hr dX9_looked_60 (by rw [← hR]) (by rw [← hR])
  refine j_sub (lv2 := [(0, .ref r_)]) [0] rfl ?_
  have hR := h
  unfold fX9_looked at hR
  refine j_aload_n X (q := 0) dX9_looked_0 rfl ?_
  obtain ⟨ov1, hov1, hR⟩ := bd_some hR
  refine j_callV X (As := []) (rest := []) (ws2 := [cMod r_ r_n r_o r_h r_A r_O r_H r_b r_x r_c r_m r_s r_z r_i r_v im ov1.1 ov1.2.1 tx ta fa cl, cJar cJ r_A 4 ov1.2.2.1, cJar cJ r_H 4 ov1.2.2.2.1, cIar cI r_b 400 ov1.2.2.2.2.1, cIar cI r_h 69 ov1.2.2.2.2.2.1, cIar cI r_n 69 ov1.2.2.2.2.2.2]) (q0 := 0) (ci := 9) (mX9_hears_ l D cI cJ cB cT tt r_ r_n r_o r_h r_A r_O r_H r_b r_x r_c r_m r_s r_z r_i r_v hov1) [0, 1, 2, 3, 4, 5] [.inr 0, .inr 1, .inr 2, .inr 3, .inr 4, .inr 5] k_851 k_848 k_850 k_30 rfl rfl k_47 hdX9_hears_ (by decide) (Nat.le_of_ble_eq_true rfl) dX9_looked_1 (by decide) rfl rfl (by decide) rfl rfl ?_
  refine j_iconst X (v := 0) dX9_looked_4 (by decide) ?_
  refine j_istore_n X (lv2 := [(1, .int 0), (0, .ref r_)]) dX9_looked_5 (by decide) rfl ?_
  refine j_sub (lv2 := [(0, .ref r_), (1, .int 0)]) [1, 0] rfl ?_
  exact L_6 _ _ _ _ _ _ _ _ _ hR

def rmX9_isTape : Room := { frames := 1, cells := 0, slots := 0, locals := 22 }
theorem hdX9_isTape : yX9_isTape.cls ≠ "java/lang/invoke/MethodHandle" ∧ yX9_isTape.cls ≠ "java/lang/invoke/VarHandle" ∧ (parseMethodDescriptor yX9_isTape.desc).map (fun d => d.parameters.length) = some 1 := by decide +kernel
def fX9_isTape (i0 : Int32) : Option (Int32) :=
  (fX9_within i0 0 5).bind fun ov1 =>
  gd (zb ov1) (some ov1)
set_option maxHeartbeats 8000000 in
set_option maxRecDepth 100000 in
theorem mX9_isTape (l : Launch) (D : va_G) (cI cJ cB cT : ClassId) (tt : Nat → Nat) {i0 : Int32}  {out : Int32} (h : fX9_isTape i0 = some out) :
    jM l yX9_isTape (.code yX9_isTape cX9_isTape 1 (some .boolean)) rmX9_isTape D (wTy cI cJ cB cT) tt [.int i0] [] (some (.int out)) [] := by
  refine jM.of (by decide) (Nat.le_of_ble_eq_true rfl) ?_
  intro p e s m below meth c A X hr
  refine j_sub (lv2 := [(0, .int i0)]) [0] rfl ?_
  have hR := h
  unfold fX9_isTape at hR
  refine j_iload_n X (q := 0) dX9_isTape_0 rfl ?_
  refine j_iconst X (v := 0) dX9_isTape_1 (by decide) ?_
  refine j_iconst X (v := 5) dX9_isTape_2 (by decide) ?_
  obtain ⟨ov1, hov1, hR⟩ := bd_some hR
  refine j_callS X (As := [.int i0, .int 0, .int 5]) (rest := []) (ws2 := []) (mX9_within l D cI cJ cB cT tt  hov1) [] [] k_735 k_733 k_734 k_47 hdX9_within (by decide) (Nat.le_of_ble_eq_true rfl) dX9_isTape_3 (by decide) rfl rfl (by decide) rfl rfl ?_
  obtain ⟨gv2, hR⟩ := gd_some hR
  have hR := Option.some.inj hR
  exact j_zret X hr (zb_nar gv2) dX9_isTape_6 (by rw [← hR]) rfl

def rmX9_judge : Room := { frames := 6, cells := 0, slots := 0, locals := 137 }
theorem hdX9_judge : yX9_judge.cls ≠ "java/lang/invoke/MethodHandle" ∧ yX9_judge.cls ≠ "java/lang/invoke/VarHandle" ∧ (parseMethodDescriptor yX9_judge.desc).map (fun d => d.parameters.length) = some 2 := by decide +kernel
def fX9_judge_37 (i1 : Int32) (i2 : Int32) (im : Int32) (tx : Int32) (ta : Int32) (fa : Int32) (cl : Int32) (f_i : Nat → Int64) (f_s : Nat → Int32) (f_z : Nat → Int32) : Nat → Int32 → Int32 → Int32 → (Nat → Int64) → (Nat → Int64) → (Nat → Int32) → (Nat → Int32) → (Nat → Int32) → Option (Int32 × Int32 × Int32 × (Nat → Int64) × (Nat → Int64) × (Nat → Int32) × (Nat → Int32) × (Nat → Int32))
  | 0, _, _, _, _, _, _, _, _ => none
  | fu + 1, x3, be, bg, f_A, f_H, f_b, f_h, f_n =>
    if be ≤ x3 then (some ((-5), be, bg, f_A, f_H, f_b, f_h, f_n)) else (if i2 < 0 then (some ((100 : Int32) + x3, be, bg, f_A, f_H, f_b, f_h, f_n)) else (gd (inb i1 6) (if (lg_cmp (i2.toInt64 + x3.toInt64) ((f_z i1.toNatClampNeg).toInt64)) < 0 then (gd (inb ((((60 : Int32) * i1) + i2) + x3) 360) (gd (inb x3 400) (if (lg_cmp (f_i ((((60 : Int32) * i1) + i2) + x3).toNatClampNeg) ((f_b x3.toNatClampNeg).toInt64)) = 0 then (lt' (x3 + 1) fun x3v16 =>
  fX9_judge_37 i1 i2 im tx ta fa cl f_i f_s f_z fu x3v16 be bg f_A f_H f_b f_h f_n) else (some (x3, be, bg, f_A, f_H, f_b, f_h, f_n))))) else (some ((100 : Int32) + x3, be, bg, f_A, f_H, f_b, f_h, f_n)))))
def fX9_judge (i1 : Int32) (i2 : Int32) (im : Int32) (be : Int32) (bg : Int32) (tx : Int32) (ta : Int32) (fa : Int32) (cl : Int32) (f_A : Nat → Int64) (f_H : Nat → Int64) (f_b : Nat → Int32) (f_h : Nat → Int32) (f_i : Nat → Int64) (f_n : Nat → Int32) (f_s : Nat → Int32) (f_z : Nat → Int32) : Option (Int32 × Int32 × Int32 × (Nat → Int64) × (Nat → Int64) × (Nat → Int32) × (Nat → Int32) × (Nat → Int32)) :=
  (fX9_isTape i1).bind fun ov1 =>
  if ov1 = 0 then (some ((-1), be, bg, f_A, f_H, f_b, f_h, f_n)) else (gd (inb i1 6) (if (f_s i1.toNatClampNeg) = 0 then ((fX9_hears_ im be bg tx ta fa cl f_A f_H f_b f_h f_n).bind fun ov5 =>
  fX9_judge_37 i1 i2 im tx ta fa cl f_i f_s f_z 500 0 ov5.1 ov5.2.1 ov5.2.2.1 ov5.2.2.2.1 ov5.2.2.2.2.1 ov5.2.2.2.2.2.1 ov5.2.2.2.2.2.2) else (gd (inb i1 6) (if (f_s i1.toNatClampNeg) = 2 then ((fX9_hears_ im be bg tx ta fa cl f_A f_H f_b f_h f_n).bind fun ov8 =>
  fX9_judge_37 i1 i2 im tx ta fa cl f_i f_s f_z 500 0 ov8.1 ov8.2.1 ov8.2.2.1 ov8.2.2.2.1 ov8.2.2.2.2.1 ov8.2.2.2.2.2.1 ov8.2.2.2.2.2.2) else (some ((-12), be, bg, f_A, f_H, f_b, f_h, f_n))))))
set_option maxHeartbeats 8000000 in
set_option maxRecDepth 100000 in
theorem mX9_judge (l : Launch) (D : va_G) (cI cJ cB cT : ClassId) (tt : Nat → Nat) (r_ r_n r_o r_h r_A r_O r_H r_b r_x r_c r_m r_s r_z r_i r_v : Nat) {i1 : Int32} {i2 : Int32} {im : Int32} {be : Int32} {bg : Int32} {tx : Int32} {ta : Int32} {fa : Int32} {cl : Int32} {f_A : Nat → Int64} {f_H : Nat → Int64} {f_b : Nat → Int32} {f_h : Nat → Int32} {f_i : Nat → Int64} {f_n : Nat → Int32} {f_s : Nat → Int32} {f_z : Nat → Int32} {out : Int32 × Int32 × Int32 × (Nat → Int64) × (Nat → Int64) × (Nat → Int32) × (Nat → Int32) × (Nat → Int32)} (h : fX9_judge i1 i2 im be bg tx ta fa cl f_A f_H f_b f_h f_i f_n f_s f_z = some out) :
    jM l yX9_judge (.code yX9_judge cX9_judge 4 (some .int)) rmX9_judge D (wTy cI cJ cB cT) tt [.ref r_, .int i1, .int i2] [cMod r_ r_n r_o r_h r_A r_O r_H r_b r_x r_c r_m r_s r_z r_i r_v im be bg tx ta fa cl, cJar cJ r_A 4 f_A, cJar cJ r_H 4 f_H, cIar cI r_b 400 f_b, cIar cI r_h 69 f_h, cJar cJ r_i 360 f_i, cIar cI r_n 69 f_n, cIar cI r_s 6 f_s, cIar cI r_z 6 f_z] (some (.int out.1)) [cMod r_ r_n r_o r_h r_A r_O r_H r_b r_x r_c r_m r_s r_z r_i r_v im out.2.1 out.2.2.1 tx ta fa cl, cJar cJ r_A 4 out.2.2.2.1, cJar cJ r_H 4 out.2.2.2.2.1, cIar cI r_b 400 out.2.2.2.2.2.1, cIar cI r_h 69 out.2.2.2.2.2.2.1, cJar cJ r_i 360 f_i, cIar cI r_n 69 out.2.2.2.2.2.2.2, cIar cI r_s 6 f_s, cIar cI r_z 6 f_z] := by
  refine jM.of (by decide) (Nat.le_of_ble_eq_true rfl) ?_
  intro p e s m below meth c A X hr
  have L_37 : ∀ (fuel : Nat) (x3 : Int32) (be : Int32) (bg : Int32) (f_A : Nat → Int64) (f_H : Nat → Int64) (f_b : Nat → Int32) (f_h : Nat → Int32) (f_n : Nat → Int32), fX9_judge_37 i1 i2 im tx ta fa cl f_i f_s f_z  fuel x3 be bg f_A f_H f_b f_h f_n = some out → jW p l e rmX9_judge s m ([.ref r_, .int i1, .int i2] : List Value).toArray below meth c D A 4 (MQ below (jQ D (some (.int out.1)) [cMod r_ r_n r_o r_h r_A r_O r_H r_b r_x r_c r_m r_s r_z r_i r_v im out.2.1 out.2.2.1 tx ta fa cl, cJar cJ r_A 4 out.2.2.2.1, cJar cJ r_H 4 out.2.2.2.2.1, cIar cI r_b 400 out.2.2.2.2.2.1, cIar cI r_h 69 out.2.2.2.2.2.2.1, cJar cJ r_i 360 f_i, cIar cI r_n 69 out.2.2.2.2.2.2.2, cIar cI r_s 6 f_s, cIar cI r_z 6 f_z] A) ([.ref r_, .int i1, .int i2] : List Value).toArray s 0 0 A) 0 0 37 [(0, .ref r_), (1, .int i1), (2, .int i2), (3, .int x3)] [] [cMod r_ r_n r_o r_h r_A r_O r_H r_b r_x r_c r_m r_s r_z r_i r_v im be bg tx ta fa cl, cJar cJ r_A 4 f_A, cJar cJ r_H 4 f_H, cIar cI r_b 400 f_b, cIar cI r_h 69 f_h, cJar cJ r_i 360 f_i, cIar cI r_n 69 f_n, cIar cI r_s 6 f_s, cIar cI r_z 6 f_z] := by
    intro  fuel
    induction fuel with
    | zero =>
      intro x3 be bg f_A f_H f_b f_h f_n hR
      rw [fX9_judge_37] at hR
      cases hR
    | succ fu ih =>
      intro x3 be bg f_A f_H f_b f_h f_n hR
      rw [fX9_judge_37] at hR
      refine j_iload_n X (q := 3) dX9_judge_37 rfl ?_
      refine j_aload_n X (q := 0) dX9_judge_38 rfl ?_
      refine j_get X 0 7 hiX9 k_672 dX9_judge_39 rfl rfl (by decide) rfl ?_
      refine j_icmp_ge X (tgt := 102) dX9_judge_42 (by decide) (fun cv9 => ?_) (fun cv9 => ?_)
      · replace hR := (if_pos cv9).symm.trans hR
        refine j_bipush X (v := (-5)) dX9_judge_102 (by decide) ?_
        have hR := Option.some.inj hR
        exact j_iret X hr dX9_judge_104 (by rw [← hR]) (by rw [← hR])
      · replace hR := (if_neg cv9).symm.trans hR
        refine j_iload_n X (q := 2) dX9_judge_45 rfl ?_
        refine j_if_lt X (tgt := 65) dX9_judge_46 (by decide) (fun cv10 => ?_) (fun cv10 => ?_)
        · replace hR := (if_pos cv10).symm.trans hR
          refine j_bipush X (v := 100) dX9_judge_65 (by decide) ?_
          refine j_iload_n X (q := 3) dX9_judge_67 rfl ?_
          refine j_iadd X dX9_judge_68 ?_
          have hR := Option.some.inj hR
          exact j_iret X hr dX9_judge_69 (by rw [← hR]) (by rw [← hR])
        · replace hR := (if_neg cv10).symm.trans hR
          refine j_iload_n X (q := 2) dX9_judge_49 rfl ?_
          refine j_i2l X dX9_judge_50 ?_
          refine j_iload_n X (q := 3) dX9_judge_51 rfl ?_
          refine j_i2l X dX9_judge_52 ?_
          refine j_ladd X dX9_judge_53 ?_
          refine j_aload_n X (q := 0) dX9_judge_54 rfl ?_
          refine j_get X 0 18 hiX9 k_683 dX9_judge_55 rfl rfl (by decide) rfl ?_
          refine j_iload_n X (q := 1) dX9_judge_58 rfl ?_
          obtain ⟨gv11, hR⟩ := gd_some hR
          refine j_iald X 8 0 rfl dX9_judge_59 rfl rfl gv11 ?_
          refine j_i2l X dX9_judge_60 ?_
          refine j_lcmp X dX9_judge_61 ?_
          refine j_if_lt X (tgt := 70) dX9_judge_62 (by decide) (fun cv12 => ?_) (fun cv12 => ?_)
          · replace hR := (if_pos cv12).symm.trans hR
            refine j_aload_n X (q := 0) dX9_judge_70 rfl ?_
            refine j_get X 0 19 hiX9 k_684 dX9_judge_71 rfl rfl (by decide) rfl ?_
            refine j_bipush X (v := 60) dX9_judge_74 (by decide) ?_
            refine j_iload_n X (q := 1) dX9_judge_76 rfl ?_
            refine j_imul X dX9_judge_77 ?_
            refine j_iload_n X (q := 2) dX9_judge_78 rfl ?_
            refine j_iadd X dX9_judge_79 ?_
            refine j_iload_n X (q := 3) dX9_judge_80 rfl ?_
            refine j_iadd X dX9_judge_81 ?_
            obtain ⟨gv13, hR⟩ := gd_some hR
            refine j_lald X 5 1 rfl dX9_judge_82 rfl rfl gv13 ?_
            refine j_aload_n X (q := 0) dX9_judge_83 rfl ?_
            refine j_get X 0 9 hiX9 k_674 dX9_judge_84 rfl rfl (by decide) rfl ?_
            refine j_iload_n X (q := 3) dX9_judge_87 rfl ?_
            obtain ⟨gv14, hR⟩ := gd_some hR
            refine j_iald X 3 0 rfl dX9_judge_88 rfl rfl gv14 ?_
            refine j_i2l X dX9_judge_89 ?_
            refine j_lcmp X dX9_judge_90 ?_
            refine j_if_eq X (tgt := 96) dX9_judge_91 (by decide) (fun cv15 => ?_) (fun cv15 => ?_)
            · replace hR := (if_pos cv15).symm.trans hR
              obtain ⟨x3v16, ex3v16, hR⟩ := lt_some hR
              refine j_iinc X (k := 3) (v := x3v16) (lv2 := [(3, .int x3v16), (0, .ref r_), (1, .int i1), (2, .int i2)]) dX9_judge_96 rfl (by rw [← ex3v16]; rfl) (by decide) rfl ?_
              refine j_goto X (tgt := 37) dX9_judge_99 (by decide) ?_
              refine j_sub (lv2 := [(0, .ref r_), (1, .int i1), (2, .int i2), (3, .int x3v16)]) [1, 2, 3, 0] rfl ?_
              exact ih _ _ _ _ _ _ _ _ hR
            · replace hR := (if_neg cv15).symm.trans hR
              refine j_iload_n X (q := 3) dX9_judge_94 rfl ?_
              have hR := Option.some.inj hR
              exact j_iret X hr dX9_judge_95 (by rw [← hR]) (by rw [← hR])
          · replace hR := (if_neg cv12).symm.trans hR
            refine j_bipush X (v := 100) dX9_judge_65 (by decide) ?_
            refine j_iload_n X (q := 3) dX9_judge_67 rfl ?_
            refine j_iadd X dX9_judge_68 ?_
            have hR := Option.some.inj hR
            exact j_iret X hr dX9_judge_69 (by rw [← hR]) (by rw [← hR])
  refine j_sub (lv2 := [(0, .ref r_), (1, .int i1), (2, .int i2)]) [0, 1, 2] rfl ?_
  have hR := h
  unfold fX9_judge at hR
  refine j_iload_n X (q := 1) dX9_judge_0 rfl ?_
  obtain ⟨ov1, hov1, hR⟩ := bd_some hR
  refine j_callS X (As := [.int i1]) (rest := []) (ws2 := [cMod r_ r_n r_o r_h r_A r_O r_H r_b r_x r_c r_m r_s r_z r_i r_v im be bg tx ta fa cl, cJar cJ r_A 4 f_A, cJar cJ r_H 4 f_H, cIar cI r_b 400 f_b, cIar cI r_h 69 f_h, cJar cJ r_i 360 f_i, cIar cI r_n 69 f_n, cIar cI r_s 6 f_s, cIar cI r_z 6 f_z]) (mX9_isTape l D cI cJ cB cT tt  hov1) [] [.inl 0, .inl 1, .inl 2, .inl 3, .inl 4, .inl 5, .inl 6, .inl 7, .inl 8] k_920 k_918 k_919 k_47 hdX9_isTape (by decide) (Nat.le_of_ble_eq_true rfl) dX9_judge_1 (by decide) rfl rfl (by decide) rfl rfl ?_
  refine j_if_ne X (tgt := 9) dX9_judge_4 (by decide) (fun cv2 => ?_) (fun cv2 => ?_)
  · replace hR := (if_neg cv2).symm.trans hR
    refine j_aload_n X (q := 0) dX9_judge_9 rfl ?_
    refine j_get X 0 17 hiX9 k_682 dX9_judge_10 rfl rfl (by decide) rfl ?_
    refine j_iload_n X (q := 1) dX9_judge_13 rfl ?_
    obtain ⟨gv3, hR⟩ := gd_some hR
    refine j_iald X 7 0 rfl dX9_judge_14 rfl rfl gv3 ?_
    refine j_if_eq X (tgt := 31) dX9_judge_15 (by decide) (fun cv4 => ?_) (fun cv4 => ?_)
    · replace hR := (if_pos cv4).symm.trans hR
      refine j_aload_n X (q := 0) dX9_judge_31 rfl ?_
      obtain ⟨ov5, hov5, hR⟩ := bd_some hR
      refine j_callV X (As := []) (rest := []) (ws2 := [cMod r_ r_n r_o r_h r_A r_O r_H r_b r_x r_c r_m r_s r_z r_i r_v im ov5.1 ov5.2.1 tx ta fa cl, cJar cJ r_A 4 ov5.2.2.1, cJar cJ r_H 4 ov5.2.2.2.1, cIar cI r_b 400 ov5.2.2.2.2.1, cIar cI r_h 69 ov5.2.2.2.2.2.1, cJar cJ r_i 360 f_i, cIar cI r_n 69 ov5.2.2.2.2.2.2, cIar cI r_s 6 f_s, cIar cI r_z 6 f_z]) (q0 := 0) (ci := 9) (mX9_hears_ l D cI cJ cB cT tt r_ r_n r_o r_h r_A r_O r_H r_b r_x r_c r_m r_s r_z r_i r_v hov5) [0, 1, 2, 3, 4, 6] [.inr 0, .inr 1, .inr 2, .inr 3, .inr 4, .inl 5, .inr 5, .inl 7, .inl 8] k_851 k_848 k_850 k_30 rfl rfl k_47 hdX9_hears_ (by decide) (Nat.le_of_ble_eq_true rfl) dX9_judge_32 (by decide) rfl rfl (by decide) rfl rfl ?_
      refine j_iconst X (v := 0) dX9_judge_35 (by decide) ?_
      refine j_istore_n X (lv2 := [(3, .int 0), (0, .ref r_), (1, .int i1), (2, .int i2)]) dX9_judge_36 (by decide) rfl ?_
      refine j_sub (lv2 := [(0, .ref r_), (1, .int i1), (2, .int i2), (3, .int 0)]) [1, 2, 3, 0] rfl ?_
      exact L_37 _ _ _ _ _ _ _ _ _ hR
    · replace hR := (if_neg cv4).symm.trans hR
      refine j_aload_n X (q := 0) dX9_judge_18 rfl ?_
      refine j_get X 0 17 hiX9 k_682 dX9_judge_19 rfl rfl (by decide) rfl ?_
      refine j_iload_n X (q := 1) dX9_judge_22 rfl ?_
      obtain ⟨gv6, hR⟩ := gd_some hR
      refine j_iald X 7 0 rfl dX9_judge_23 rfl rfl gv6 ?_
      refine j_iconst X (v := 2) dX9_judge_24 (by decide) ?_
      refine j_icmp_eq X (tgt := 31) dX9_judge_25 (by decide) (fun cv7 => ?_) (fun cv7 => ?_)
      · replace hR := (if_pos cv7).symm.trans hR
        refine j_aload_n X (q := 0) dX9_judge_31 rfl ?_
        obtain ⟨ov8, hov8, hR⟩ := bd_some hR
        refine j_callV X (As := []) (rest := []) (ws2 := [cMod r_ r_n r_o r_h r_A r_O r_H r_b r_x r_c r_m r_s r_z r_i r_v im ov8.1 ov8.2.1 tx ta fa cl, cJar cJ r_A 4 ov8.2.2.1, cJar cJ r_H 4 ov8.2.2.2.1, cIar cI r_b 400 ov8.2.2.2.2.1, cIar cI r_h 69 ov8.2.2.2.2.2.1, cJar cJ r_i 360 f_i, cIar cI r_n 69 ov8.2.2.2.2.2.2, cIar cI r_s 6 f_s, cIar cI r_z 6 f_z]) (q0 := 0) (ci := 9) (mX9_hears_ l D cI cJ cB cT tt r_ r_n r_o r_h r_A r_O r_H r_b r_x r_c r_m r_s r_z r_i r_v hov8) [0, 1, 2, 3, 4, 6] [.inr 0, .inr 1, .inr 2, .inr 3, .inr 4, .inl 5, .inr 5, .inl 7, .inl 8] k_851 k_848 k_850 k_30 rfl rfl k_47 hdX9_hears_ (by decide) (Nat.le_of_ble_eq_true rfl) dX9_judge_32 (by decide) rfl rfl (by decide) rfl rfl ?_
        refine j_iconst X (v := 0) dX9_judge_35 (by decide) ?_
        refine j_istore_n X (lv2 := [(3, .int 0), (0, .ref r_), (1, .int i1), (2, .int i2)]) dX9_judge_36 (by decide) rfl ?_
        refine j_sub (lv2 := [(0, .ref r_), (1, .int i1), (2, .int i2), (3, .int 0)]) [1, 2, 3, 0] rfl ?_
        exact L_37 _ _ _ _ _ _ _ _ _ hR
      · replace hR := (if_neg cv7).symm.trans hR
        refine j_bipush X (v := (-12)) dX9_judge_28 (by decide) ?_
        have hR := Option.some.inj hR
        exact j_iret X hr dX9_judge_30 (by rw [← hR]) (by rw [← hR])
  · replace hR := (if_pos cv2).symm.trans hR
    refine j_iconst X (v := (-1)) dX9_judge_7 (by decide) ?_
    have hR := Option.some.inj hR
    exact j_iret X hr dX9_judge_8 (by rw [← hR]) (by rw [← hR])

def rmX9_image : Room := { frames := 1, cells := 0, slots := 0, locals := 22 }
theorem hdX9_image : yX9_image.cls ≠ "java/lang/invoke/MethodHandle" ∧ yX9_image.cls ≠ "java/lang/invoke/VarHandle" ∧ (parseMethodDescriptor yX9_image.desc).map (fun d => d.parameters.length) = some 0 := by decide +kernel
def fX9_image (im : Int32) (be : Int32) (bg : Int32) (tx : Int32) (ta : Int32) (fa : Int32) (cl : Int32) (f_A : Nat → Int64) (f_O : Nat → Int64) (f_n : Nat → Int32) (f_o : Nat → Int32) : Option (Int32 × Int32 × (Nat → Int64) × (Nat → Int32)) :=
  (fX9_pours f_n f_o).bind fun ov1 =>
  (fX9_poursLongs f_A f_O).bind fun ov2 =>
  some (f_n 9, 1, ov2, ov1)
set_option maxHeartbeats 8000000 in
set_option maxRecDepth 100000 in
theorem mX9_image (l : Launch) (D : va_G) (cI cJ cB cT : ClassId) (tt : Nat → Nat) (r_ r_n r_o r_h r_A r_O r_H r_b r_x r_c r_m r_s r_z r_i r_v : Nat)  {im : Int32} {be : Int32} {bg : Int32} {tx : Int32} {ta : Int32} {fa : Int32} {cl : Int32} {f_A : Nat → Int64} {f_O : Nat → Int64} {f_n : Nat → Int32} {f_o : Nat → Int32} {out : Int32 × Int32 × (Nat → Int64) × (Nat → Int32)} (h : fX9_image im be bg tx ta fa cl f_A f_O f_n f_o = some out) :
    jM l yX9_image (.code yX9_image cX9_image 1 (some .int)) rmX9_image D (wTy cI cJ cB cT) tt [.ref r_] [cMod r_ r_n r_o r_h r_A r_O r_H r_b r_x r_c r_m r_s r_z r_i r_v im be bg tx ta fa cl, cJar cJ r_A 4 f_A, cJar cJ r_O 4 f_O, cIar cI r_n 69 f_n, cIar cI r_o 69 f_o] (some (.int out.1)) [cMod r_ r_n r_o r_h r_A r_O r_H r_b r_x r_c r_m r_s r_z r_i r_v out.2.1 be bg tx ta fa cl, cJar cJ r_A 4 f_A, cJar cJ r_O 4 out.2.2.1, cIar cI r_n 69 f_n, cIar cI r_o 69 out.2.2.2] := by
  refine jM.of (by decide) (Nat.le_of_ble_eq_true rfl) ?_
  intro p e s m below meth c A X hr
  refine j_sub (lv2 := [(0, .ref r_)]) [0] rfl ?_
  have hR := h
  unfold fX9_image at hR
  refine j_aload_n X (q := 0) dX9_image_0 rfl ?_
  refine j_iconst X (v := 1) dX9_image_1 (by decide) ?_
  refine j_put X (ws2 := [cMod r_ r_n r_o r_h r_A r_O r_H r_b r_x r_c r_m r_s r_z r_i r_v 1 be bg tx ta fa cl, cJar cJ r_A 4 f_A, cJar cJ r_O 4 f_O, cIar cI r_n 69 f_n, cIar cI r_o 69 f_o]) 0 3 hiX9 tyX9_ok nmX9 k_668 dX9_image_2 rfl rfl (by decide) (by decide) rfl rfl (Nat.le_of_ble_eq_true rfl) rfl ?_
  refine j_aload_n X (q := 0) dX9_image_5 rfl ?_
  refine j_get X 0 0 hiX9 k_665 dX9_image_6 rfl rfl (by decide) rfl ?_
  refine j_aload_n X (q := 0) dX9_image_9 rfl ?_
  refine j_get X 0 1 hiX9 k_666 dX9_image_10 rfl rfl (by decide) rfl ?_
  obtain ⟨ov1, hov1, hR⟩ := bd_some hR
  refine j_callS X (As := [.ref r_n, .ref r_o]) (rest := []) (ws2 := [cMod r_ r_n r_o r_h r_A r_O r_H r_b r_x r_c r_m r_s r_z r_i r_v 1 be bg tx ta fa cl, cJar cJ r_A 4 f_A, cJar cJ r_O 4 f_O, cIar cI r_n 69 f_n, cIar cI r_o 69 ov1]) (mX9_pours l D cI cJ cB cT tt r_n r_o hov1) [3, 4] [.inl 0, .inl 1, .inl 2, .inr 0, .inr 1] k_832 k_830 k_831 k_47 hdX9_pours (by decide) (Nat.le_of_ble_eq_true rfl) dX9_image_13 (by decide) rfl rfl (by decide) rfl rfl ?_
  refine j_aload_n X (q := 0) dX9_image_16 rfl ?_
  refine j_get X 0 4 hiX9 k_669 dX9_image_17 rfl rfl (by decide) rfl ?_
  refine j_aload_n X (q := 0) dX9_image_20 rfl ?_
  refine j_get X 0 5 hiX9 k_670 dX9_image_21 rfl rfl (by decide) rfl ?_
  obtain ⟨ov2, hov2, hR⟩ := bd_some hR
  refine j_callS X (As := [.ref r_A, .ref r_O]) (rest := []) (ws2 := [cMod r_ r_n r_o r_h r_A r_O r_H r_b r_x r_c r_m r_s r_z r_i r_v 1 be bg tx ta fa cl, cJar cJ r_A 4 f_A, cJar cJ r_O 4 ov2, cIar cI r_n 69 f_n, cIar cI r_o 69 ov1]) (mX9_poursLongs l D cI cJ cB cT tt r_A r_O hov2) [1, 2] [.inl 0, .inr 0, .inr 1, .inl 3, .inl 4] k_835 k_833 k_834 k_47 hdX9_poursLongs (by decide) (Nat.le_of_ble_eq_true rfl) dX9_image_24 (by decide) rfl rfl (by decide) rfl rfl ?_
  refine j_aload_n X (q := 0) dX9_image_27 rfl ?_
  refine j_get X 0 0 hiX9 k_665 dX9_image_28 rfl rfl (by decide) rfl ?_
  refine j_bipush X (v := 9) dX9_image_31 (by decide) ?_
  refine j_iald X (k := 9) 3 0 rfl dX9_image_33 rfl rfl (by decide) ?_
  have hR := Option.some.inj hR
  exact j_iret X hr dX9_image_34 (by rw [← hR]) (by rw [← hR])

def rmX9_undo : Room := { frames := 1, cells := 0, slots := 0, locals := 22 }
theorem hdX9_undo : yX9_undo.cls ≠ "java/lang/invoke/MethodHandle" ∧ yX9_undo.cls ≠ "java/lang/invoke/VarHandle" ∧ (parseMethodDescriptor yX9_undo.desc).map (fun d => d.parameters.length) = some 0 := by decide +kernel
def fX9_undo (im : Int32) (be : Int32) (bg : Int32) (tx : Int32) (ta : Int32) (fa : Int32) (cl : Int32) (f_A : Nat → Int64) (f_O : Nat → Int64) (f_n : Nat → Int32) (f_o : Nat → Int32) : Option (Int32 × (Nat → Int64) × (Nat → Int32)) :=
  if im = 0 then (some ((-3), f_A, f_n)) else ((fX9_pours f_o f_n).bind fun ov2 =>
  (fX9_poursLongs f_O f_A).bind fun ov3 =>
  some (ov2 9, ov3, ov2))
set_option maxHeartbeats 8000000 in
set_option maxRecDepth 100000 in
theorem mX9_undo (l : Launch) (D : va_G) (cI cJ cB cT : ClassId) (tt : Nat → Nat) (r_ r_n r_o r_h r_A r_O r_H r_b r_x r_c r_m r_s r_z r_i r_v : Nat)  {im : Int32} {be : Int32} {bg : Int32} {tx : Int32} {ta : Int32} {fa : Int32} {cl : Int32} {f_A : Nat → Int64} {f_O : Nat → Int64} {f_n : Nat → Int32} {f_o : Nat → Int32} {out : Int32 × (Nat → Int64) × (Nat → Int32)} (h : fX9_undo im be bg tx ta fa cl f_A f_O f_n f_o = some out) :
    jM l yX9_undo (.code yX9_undo cX9_undo 1 (some .int)) rmX9_undo D (wTy cI cJ cB cT) tt [.ref r_] [cMod r_ r_n r_o r_h r_A r_O r_H r_b r_x r_c r_m r_s r_z r_i r_v im be bg tx ta fa cl, cJar cJ r_A 4 f_A, cJar cJ r_O 4 f_O, cIar cI r_n 69 f_n, cIar cI r_o 69 f_o] (some (.int out.1)) [cMod r_ r_n r_o r_h r_A r_O r_H r_b r_x r_c r_m r_s r_z r_i r_v im be bg tx ta fa cl, cJar cJ r_A 4 out.2.1, cJar cJ r_O 4 f_O, cIar cI r_n 69 out.2.2, cIar cI r_o 69 f_o] := by
  refine jM.of (by decide) (Nat.le_of_ble_eq_true rfl) ?_
  intro p e s m below meth c A X hr
  refine j_sub (lv2 := [(0, .ref r_)]) [0] rfl ?_
  have hR := h
  unfold fX9_undo at hR
  refine j_aload_n X (q := 0) dX9_undo_0 rfl ?_
  refine j_get X 0 3 hiX9 k_668 dX9_undo_1 rfl rfl (by decide) rfl ?_
  refine j_if_ne X (tgt := 10) dX9_undo_4 (by decide) (fun cv1 => ?_) (fun cv1 => ?_)
  · replace hR := (if_neg cv1).symm.trans hR
    refine j_aload_n X (q := 0) dX9_undo_10 rfl ?_
    refine j_get X 0 1 hiX9 k_666 dX9_undo_11 rfl rfl (by decide) rfl ?_
    refine j_aload_n X (q := 0) dX9_undo_14 rfl ?_
    refine j_get X 0 0 hiX9 k_665 dX9_undo_15 rfl rfl (by decide) rfl ?_
    obtain ⟨ov2, hov2, hR⟩ := bd_some hR
    refine j_callS X (As := [.ref r_o, .ref r_n]) (rest := []) (ws2 := [cMod r_ r_n r_o r_h r_A r_O r_H r_b r_x r_c r_m r_s r_z r_i r_v im be bg tx ta fa cl, cJar cJ r_A 4 f_A, cJar cJ r_O 4 f_O, cIar cI r_n 69 ov2, cIar cI r_o 69 f_o]) (mX9_pours l D cI cJ cB cT tt r_o r_n hov2) [4, 3] [.inl 0, .inl 1, .inl 2, .inr 1, .inr 0] k_832 k_830 k_831 k_47 hdX9_pours (by decide) (Nat.le_of_ble_eq_true rfl) dX9_undo_18 (by decide) rfl rfl (by decide) rfl rfl ?_
    refine j_aload_n X (q := 0) dX9_undo_21 rfl ?_
    refine j_get X 0 5 hiX9 k_670 dX9_undo_22 rfl rfl (by decide) rfl ?_
    refine j_aload_n X (q := 0) dX9_undo_25 rfl ?_
    refine j_get X 0 4 hiX9 k_669 dX9_undo_26 rfl rfl (by decide) rfl ?_
    obtain ⟨ov3, hov3, hR⟩ := bd_some hR
    refine j_callS X (As := [.ref r_O, .ref r_A]) (rest := []) (ws2 := [cMod r_ r_n r_o r_h r_A r_O r_H r_b r_x r_c r_m r_s r_z r_i r_v im be bg tx ta fa cl, cJar cJ r_A 4 ov3, cJar cJ r_O 4 f_O, cIar cI r_n 69 ov2, cIar cI r_o 69 f_o]) (mX9_poursLongs l D cI cJ cB cT tt r_O r_A hov3) [2, 1] [.inl 0, .inr 1, .inr 0, .inl 3, .inl 4] k_835 k_833 k_834 k_47 hdX9_poursLongs (by decide) (Nat.le_of_ble_eq_true rfl) dX9_undo_29 (by decide) rfl rfl (by decide) rfl rfl ?_
    refine j_aload_n X (q := 0) dX9_undo_32 rfl ?_
    refine j_get X 0 0 hiX9 k_665 dX9_undo_33 rfl rfl (by decide) rfl ?_
    refine j_bipush X (v := 9) dX9_undo_36 (by decide) ?_
    refine j_iald X (k := 9) 3 0 rfl dX9_undo_38 rfl rfl (by decide) ?_
    have hR := Option.some.inj hR
    exact j_iret X hr dX9_undo_39 (by rw [← hR]) (by rw [← hR])
  · replace hR := (if_pos cv1).symm.trans hR
    refine j_bipush X (v := (-3)) dX9_undo_7 (by decide) ?_
    have hR := Option.some.inj hR
    exact j_iret X hr dX9_undo_9 (by rw [← hR]) (by rw [← hR])

def rmX9_count : Room := { frames := 0, cells := 0, slots := 0, locals := 0 }
theorem hdX9_count : yX9_count.cls ≠ "java/lang/invoke/MethodHandle" ∧ yX9_count.cls ≠ "java/lang/invoke/VarHandle" ∧ (parseMethodDescriptor yX9_count.desc).map (fun d => d.parameters.length) = some 1 := by decide +kernel
def fX9_count (i1 : Int32) (im : Int32) (be : Int32) (bg : Int32) (tx : Int32) (ta : Int32) (fa : Int32) (cl : Int32) (f_n : Nat → Int32) : Option (Int32) :=
  if i1 = 0 then (some (f_n 13)) else (if i1 = 1 then (some (f_n 14)) else (if i1 = 2 then (some tx) else (some (-2))))
set_option maxHeartbeats 8000000 in
set_option maxRecDepth 100000 in
theorem mX9_count (l : Launch) (D : va_G) (cI cJ cB cT : ClassId) (tt : Nat → Nat) (r_ r_n r_o r_h r_A r_O r_H r_b r_x r_c r_m r_s r_z r_i r_v : Nat) {i1 : Int32} {im : Int32} {be : Int32} {bg : Int32} {tx : Int32} {ta : Int32} {fa : Int32} {cl : Int32} {f_n : Nat → Int32} {out : Int32} (h : fX9_count i1 im be bg tx ta fa cl f_n = some out) :
    jM l yX9_count (.code yX9_count cX9_count 2 (some .int)) rmX9_count D (wTy cI cJ cB cT) tt [.ref r_, .int i1] [cMod r_ r_n r_o r_h r_A r_O r_H r_b r_x r_c r_m r_s r_z r_i r_v im be bg tx ta fa cl, cIar cI r_n 69 f_n] (some (.int out)) [cMod r_ r_n r_o r_h r_A r_O r_H r_b r_x r_c r_m r_s r_z r_i r_v im be bg tx ta fa cl, cIar cI r_n 69 f_n] := by
  refine jM.of (by decide) (Nat.le_of_ble_eq_true rfl) ?_
  intro p e s m below meth c A X hr
  refine j_sub (lv2 := [(0, .ref r_), (1, .int i1)]) [0, 1] rfl ?_
  have hR := h
  unfold fX9_count at hR
  refine j_iload_n X (q := 1) dX9_count_0 rfl ?_
  refine j_if_ne X (tgt := 14) dX9_count_1 (by decide) (fun cv1 => ?_) (fun cv1 => ?_)
  · replace hR := (if_neg cv1).symm.trans hR
    refine j_iload_n X (q := 1) dX9_count_14 rfl ?_
    refine j_iconst X (v := 1) dX9_count_15 (by decide) ?_
    refine j_icmp_ne X (tgt := 29) dX9_count_16 (by decide) (fun cv2 => ?_) (fun cv2 => ?_)
    · replace hR := (if_neg cv2).symm.trans hR
      refine j_iload_n X (q := 1) dX9_count_29 rfl ?_
      refine j_iconst X (v := 2) dX9_count_30 (by decide) ?_
      refine j_icmp_ne X (tgt := 41) dX9_count_31 (by decide) (fun cv3 => ?_) (fun cv3 => ?_)
      · replace hR := (if_neg cv3).symm.trans hR
        refine j_bipush X (v := (-2)) dX9_count_41 (by decide) ?_
        have hR := Option.some.inj hR
        exact j_iret X hr dX9_count_43 (by rw [← hR]) rfl
      · replace hR := (if_pos cv3).symm.trans hR
        refine j_aload_n X (q := 0) dX9_count_34 rfl ?_
        refine j_get X 0 10 hiX9 k_675 dX9_count_35 rfl rfl (by decide) rfl ?_
        refine j_goto X (tgt := 43) dX9_count_38 (by decide) ?_
        have hR := Option.some.inj hR
        exact j_iret X hr dX9_count_43 (by rw [← hR]) rfl
    · replace hR := (if_pos cv2).symm.trans hR
      refine j_aload_n X (q := 0) dX9_count_19 rfl ?_
      refine j_get X 0 0 hiX9 k_665 dX9_count_20 rfl rfl (by decide) rfl ?_
      refine j_bipush X (v := 14) dX9_count_23 (by decide) ?_
      refine j_iald X (k := 14) 1 0 rfl dX9_count_25 rfl rfl (by decide) ?_
      refine j_goto X (tgt := 43) dX9_count_26 (by decide) ?_
      have hR := Option.some.inj hR
      exact j_iret X hr dX9_count_43 (by rw [← hR]) rfl
  · replace hR := (if_pos cv1).symm.trans hR
    refine j_aload_n X (q := 0) dX9_count_4 rfl ?_
    refine j_get X 0 0 hiX9 k_665 dX9_count_5 rfl rfl (by decide) rfl ?_
    refine j_bipush X (v := 13) dX9_count_8 (by decide) ?_
    refine j_iald X (k := 13) 1 0 rfl dX9_count_10 rfl rfl (by decide) ?_
    refine j_goto X (tgt := 43) dX9_count_11 (by decide) ?_
    have hR := Option.some.inj hR
    exact j_iret X hr dX9_count_43 (by rw [← hR]) rfl

def rmX9_tape : Room := { frames := 2, cells := 0, slots := 0, locals := 42 }
theorem hdX9_tape : yX9_tape.cls ≠ "java/lang/invoke/MethodHandle" ∧ yX9_tape.cls ≠ "java/lang/invoke/VarHandle" ∧ (parseMethodDescriptor yX9_tape.desc).map (fun d => d.parameters.length) = some 3 := by decide +kernel
def fX9_tape_69 (i1 : Int32) (i2 : Int32) (i3 : Int32) (im : Int32) (be : Int32) (bg : Int32) (tx : Int32) (ta : Int32) (fa : Int32) (cl : Int32) : Nat → Int32 → (Nat → Int64) → (Nat → Int32) → (Nat → Int32) → Option (Int32 × (Nat → Int64) × (Nat → Int32) × (Nat → Int32))
  | 0, _, _, _, _ => none
  | fu + 1, x4, f_i, f_s, f_z =>
    if (60 : Int32) ≤ x4 then (some (1, f_i, f_s, f_z)) else (gd (inb (((60 : Int32) * i1) + x4) 360) (lt' (vp_updL f_i ((((60 : Int32) * i1) + x4).toNatClampNeg) 0) fun f_iv20 =>
  lt' (x4 + 1) fun x4v21 =>
  fX9_tape_69 i1 i2 i3 im be bg tx ta fa cl fu x4v21 f_iv20 f_s f_z))
def fX9_tape_42 (i1 : Int32) (i2 : Int32) (i3 : Int32) (im : Int32) (be : Int32) (bg : Int32) (tx : Int32) (ta : Int32) (fa : Int32) (cl : Int32) : (Nat → Int64) → (Nat → Int32) → (Nat → Int32) → Option (Int32 × (Nat → Int64) × (Nat → Int32) × (Nat → Int32)) := fun f_i f_s f_z =>
    gd (inb i1 6) (lt' (upd f_s i1.toNatClampNeg (i2 + 1)) fun f_sv12 =>
  if (0 : Int32) ≤ i2 then (gd (inb i1 6) (lt' (upd f_z i1.toNatClampNeg i3) fun f_zv15 =>
  fX9_tape_69 i1 i2 i3 im be bg tx ta fa cl 500 0 f_i f_sv12 f_zv15)) else (gd (inb i1 6) (lt' (upd f_z i1.toNatClampNeg 0) fun f_zv17 =>
  fX9_tape_69 i1 i2 i3 im be bg tx ta fa cl 500 0 f_i f_sv12 f_zv17)))
def fX9_tape (i1 : Int32) (i2 : Int32) (i3 : Int32) (im : Int32) (be : Int32) (bg : Int32) (tx : Int32) (ta : Int32) (fa : Int32) (cl : Int32) (f_i : Nat → Int64) (f_s : Nat → Int32) (f_z : Nat → Int32) : Option (Int32 × (Nat → Int64) × (Nat → Int32) × (Nat → Int32)) :=
  (fX9_isTape i1).bind fun ov1 =>
  if ov1 = 0 then (some ((-1), f_i, f_s, f_z)) else ((fX9_within i2 (-1) 4).bind fun ov3 =>
  if ov3 = 0 then (some ((-2), f_i, f_s, f_z)) else (if i2 < 0 then (if i2 < 0 then (fX9_tape_42 i1 i2 i3 im be bg tx ta fa cl f_i f_s f_z) else (if (0 : Int32) ≤ i3 then (fX9_tape_42 i1 i2 i3 im be bg tx ta fa cl f_i f_s f_z) else (some ((-14), f_i, f_s, f_z)))) else (if i3 ≤ 60 then (if i2 < 0 then (fX9_tape_42 i1 i2 i3 im be bg tx ta fa cl f_i f_s f_z) else (if (0 : Int32) ≤ i3 then (fX9_tape_42 i1 i2 i3 im be bg tx ta fa cl f_i f_s f_z) else (some ((-14), f_i, f_s, f_z)))) else (some ((-2), f_i, f_s, f_z)))))
set_option maxHeartbeats 8000000 in
set_option maxRecDepth 100000 in
theorem mX9_tape (l : Launch) (D : va_G) (cI cJ cB cT : ClassId) (tt : Nat → Nat) (r_ r_n r_o r_h r_A r_O r_H r_b r_x r_c r_m r_s r_z r_i r_v : Nat) {i1 : Int32} {i2 : Int32} {i3 : Int32} {im : Int32} {be : Int32} {bg : Int32} {tx : Int32} {ta : Int32} {fa : Int32} {cl : Int32} {f_i : Nat → Int64} {f_s : Nat → Int32} {f_z : Nat → Int32} {out : Int32 × (Nat → Int64) × (Nat → Int32) × (Nat → Int32)} (h : fX9_tape i1 i2 i3 im be bg tx ta fa cl f_i f_s f_z = some out) :
    jM l yX9_tape (.code yX9_tape cX9_tape 5 (some .int)) rmX9_tape D (wTy cI cJ cB cT) tt [.ref r_, .int i1, .int i2, .int i3] [cMod r_ r_n r_o r_h r_A r_O r_H r_b r_x r_c r_m r_s r_z r_i r_v im be bg tx ta fa cl, cJar cJ r_i 360 f_i, cIar cI r_s 6 f_s, cIar cI r_z 6 f_z] (some (.int out.1)) [cMod r_ r_n r_o r_h r_A r_O r_H r_b r_x r_c r_m r_s r_z r_i r_v im be bg tx ta fa cl, cJar cJ r_i 360 out.2.1, cIar cI r_s 6 out.2.2.1, cIar cI r_z 6 out.2.2.2] := by
  refine jM.of (by decide) (Nat.le_of_ble_eq_true rfl) ?_
  intro p e s m below meth c A X hr
  have L_69 : ∀ (fuel : Nat) (x4 : Int32) (f_i : Nat → Int64) (f_s : Nat → Int32) (f_z : Nat → Int32), fX9_tape_69 i1 i2 i3 im be bg tx ta fa cl  fuel x4 f_i f_s f_z = some out → jW p l e rmX9_tape s m ([.ref r_, .int i1, .int i2, .int i3] : List Value).toArray below meth c D A 5 (MQ below (jQ D (some (.int out.1)) [cMod r_ r_n r_o r_h r_A r_O r_H r_b r_x r_c r_m r_s r_z r_i r_v im be bg tx ta fa cl, cJar cJ r_i 360 out.2.1, cIar cI r_s 6 out.2.2.1, cIar cI r_z 6 out.2.2.2] A) ([.ref r_, .int i1, .int i2, .int i3] : List Value).toArray s 0 0 A) 0 0 69 [(0, .ref r_), (1, .int i1), (4, .int x4)] [] [cMod r_ r_n r_o r_h r_A r_O r_H r_b r_x r_c r_m r_s r_z r_i r_v im be bg tx ta fa cl, cJar cJ r_i 360 f_i, cIar cI r_s 6 f_s, cIar cI r_z 6 f_z] := by
    intro  fuel
    induction fuel with
    | zero =>
      intro x4 f_i f_s f_z hR
      rw [fX9_tape_69] at hR
      cases hR
    | succ fu ih =>
      intro x4 f_i f_s f_z hR
      rw [fX9_tape_69] at hR
      refine j_iload X (q := 2) dX9_tape_69 rfl ?_
      refine j_bipush X (v := 60) dX9_tape_71 (by decide) ?_
      refine j_icmp_ge X (tgt := 95) dX9_tape_73 (by decide) (fun cv18 => ?_) (fun cv18 => ?_)
      · replace hR := (if_pos cv18).symm.trans hR
        refine j_iconst X (v := 1) dX9_tape_95 (by decide) ?_
        have hR := Option.some.inj hR
        exact j_iret X hr dX9_tape_96 (by rw [← hR]) (by rw [← hR])
      · replace hR := (if_neg cv18).symm.trans hR
        refine j_aload_n X (q := 0) dX9_tape_76 rfl ?_
        refine j_get X 0 19 hiX9 k_684 dX9_tape_77 rfl rfl (by decide) rfl ?_
        refine j_bipush X (v := 60) dX9_tape_80 (by decide) ?_
        refine j_iload_n X (q := 1) dX9_tape_82 rfl ?_
        refine j_imul X dX9_tape_83 ?_
        refine j_iload X (q := 2) dX9_tape_84 rfl ?_
        refine j_iadd X dX9_tape_86 ?_
        refine j_lconst X (v := 0) dX9_tape_87 (by decide) ?_
        obtain ⟨gv19, hR⟩ := gd_some hR
        obtain ⟨f_iv20, ef_iv20, hR⟩ := lt_some hR
        refine j_last X (ws2 := [cMod r_ r_n r_o r_h r_A r_O r_H r_b r_x r_c r_m r_s r_z r_i r_v im be bg tx ta fa cl, cJar cJ r_i 360 f_iv20, cIar cI r_s 6 f_s, cIar cI r_z 6 f_z]) 1 1 rfl dX9_tape_88 rfl rfl gv19 ef_iv20 rfl ?_
        obtain ⟨x4v21, ex4v21, hR⟩ := lt_some hR
        refine j_iinc X (k := 2) (v := x4v21) (lv2 := [(4, .int x4v21), (0, .ref r_), (1, .int i1)]) dX9_tape_89 rfl (by rw [← ex4v21]; rfl) (by decide) rfl ?_
        refine j_goto X (tgt := 69) dX9_tape_92 (by decide) ?_
        refine j_sub (lv2 := [(0, .ref r_), (1, .int i1), (4, .int x4v21)]) [1, 2, 0] rfl ?_
        exact ih _ _ _ _ hR
  have L_42 : ∀ (f_i : Nat → Int64) (f_s : Nat → Int32) (f_z : Nat → Int32), fX9_tape_42 i1 i2 i3 im be bg tx ta fa cl  f_i f_s f_z = some out → jW p l e rmX9_tape s m ([.ref r_, .int i1, .int i2, .int i3] : List Value).toArray below meth c D A 5 (MQ below (jQ D (some (.int out.1)) [cMod r_ r_n r_o r_h r_A r_O r_H r_b r_x r_c r_m r_s r_z r_i r_v im be bg tx ta fa cl, cJar cJ r_i 360 out.2.1, cIar cI r_s 6 out.2.2.1, cIar cI r_z 6 out.2.2.2] A) ([.ref r_, .int i1, .int i2, .int i3] : List Value).toArray s 0 0 A) 0 0 42 [(0, .ref r_), (1, .int i1), (2, .int i2), (3, .int i3)] [] [cMod r_ r_n r_o r_h r_A r_O r_H r_b r_x r_c r_m r_s r_z r_i r_v im be bg tx ta fa cl, cJar cJ r_i 360 f_i, cIar cI r_s 6 f_s, cIar cI r_z 6 f_z] := by
    intro  f_i f_s f_z hR
    unfold fX9_tape_42 at hR
    refine j_aload_n X (q := 0) dX9_tape_42 rfl ?_
    refine j_get X 0 17 hiX9 k_682 dX9_tape_43 rfl rfl (by decide) rfl ?_
    refine j_iload_n X (q := 1) dX9_tape_46 rfl ?_
    refine j_iload_n X (q := 2) dX9_tape_47 rfl ?_
    refine j_iconst X (v := 1) dX9_tape_48 (by decide) ?_
    refine j_iadd X dX9_tape_49 ?_
    obtain ⟨gv11, hR⟩ := gd_some hR
    obtain ⟨f_sv12, ef_sv12, hR⟩ := lt_some hR
    refine j_iast X (ws2 := [cMod r_ r_n r_o r_h r_A r_O r_H r_b r_x r_c r_m r_s r_z r_i r_v im be bg tx ta fa cl, cJar cJ r_i 360 f_i, cIar cI r_s 6 f_sv12, cIar cI r_z 6 f_z]) 2 0 rfl dX9_tape_50 rfl rfl gv11 ef_sv12 rfl ?_
    refine j_aload_n X (q := 0) dX9_tape_51 rfl ?_
    refine j_get X 0 18 hiX9 k_683 dX9_tape_52 rfl rfl (by decide) rfl ?_
    refine j_iload_n X (q := 1) dX9_tape_55 rfl ?_
    refine j_iload_n X (q := 2) dX9_tape_56 rfl ?_
    refine j_if_ge X (tgt := 64) dX9_tape_57 (by decide) (fun cv13 => ?_) (fun cv13 => ?_)
    · replace hR := (if_pos cv13).symm.trans hR
      refine j_iload_n X (q := 3) dX9_tape_64 rfl ?_
      obtain ⟨gv14, hR⟩ := gd_some hR
      obtain ⟨f_zv15, ef_zv15, hR⟩ := lt_some hR
      refine j_iast X (ws2 := [cMod r_ r_n r_o r_h r_A r_O r_H r_b r_x r_c r_m r_s r_z r_i r_v im be bg tx ta fa cl, cJar cJ r_i 360 f_i, cIar cI r_s 6 f_sv12, cIar cI r_z 6 f_zv15]) 3 0 rfl dX9_tape_65 rfl rfl gv14 ef_zv15 rfl ?_
      refine j_iconst X (v := 0) dX9_tape_66 (by decide) ?_
      refine j_istore X (lv2 := [(4, .int 0), (0, .ref r_), (1, .int i1), (2, .int i2), (3, .int i3)]) dX9_tape_67 (by decide) rfl ?_
      refine j_sub (lv2 := [(0, .ref r_), (1, .int i1), (4, .int 0)]) [1, 2, 0] rfl ?_
      exact L_69 _ _ _ _ _ hR
    · replace hR := (if_neg cv13).symm.trans hR
      refine j_iconst X (v := 0) dX9_tape_60 (by decide) ?_
      refine j_goto X (tgt := 65) dX9_tape_61 (by decide) ?_
      obtain ⟨gv16, hR⟩ := gd_some hR
      obtain ⟨f_zv17, ef_zv17, hR⟩ := lt_some hR
      refine j_iast X (ws2 := [cMod r_ r_n r_o r_h r_A r_O r_H r_b r_x r_c r_m r_s r_z r_i r_v im be bg tx ta fa cl, cJar cJ r_i 360 f_i, cIar cI r_s 6 f_sv12, cIar cI r_z 6 f_zv17]) 3 0 rfl dX9_tape_65 rfl rfl gv16 ef_zv17 rfl ?_
      refine j_iconst X (v := 0) dX9_tape_66 (by decide) ?_
      refine j_istore X (lv2 := [(4, .int 0), (0, .ref r_), (1, .int i1), (2, .int i2), (3, .int i3)]) dX9_tape_67 (by decide) rfl ?_
      refine j_sub (lv2 := [(0, .ref r_), (1, .int i1), (4, .int 0)]) [1, 2, 0] rfl ?_
      exact L_69 _ _ _ _ _ hR
  refine j_sub (lv2 := [(0, .ref r_), (1, .int i1), (2, .int i2), (3, .int i3)]) [0, 1, 2, 3] rfl ?_
  have hR := h
  unfold fX9_tape at hR
  refine j_iload_n X (q := 1) dX9_tape_0 rfl ?_
  obtain ⟨ov1, hov1, hR⟩ := bd_some hR
  refine j_callS X (As := [.int i1]) (rest := []) (ws2 := [cMod r_ r_n r_o r_h r_A r_O r_H r_b r_x r_c r_m r_s r_z r_i r_v im be bg tx ta fa cl, cJar cJ r_i 360 f_i, cIar cI r_s 6 f_s, cIar cI r_z 6 f_z]) (mX9_isTape l D cI cJ cB cT tt  hov1) [] [.inl 0, .inl 1, .inl 2, .inl 3] k_920 k_918 k_919 k_47 hdX9_isTape (by decide) (Nat.le_of_ble_eq_true rfl) dX9_tape_1 (by decide) rfl rfl (by decide) rfl rfl ?_
  refine j_if_ne X (tgt := 9) dX9_tape_4 (by decide) (fun cv2 => ?_) (fun cv2 => ?_)
  · replace hR := (if_neg cv2).symm.trans hR
    refine j_iload_n X (q := 2) dX9_tape_9 rfl ?_
    refine j_iconst X (v := (-1)) dX9_tape_10 (by decide) ?_
    refine j_iconst X (v := 4) dX9_tape_11 (by decide) ?_
    obtain ⟨ov3, hov3, hR⟩ := bd_some hR
    refine j_callS X (As := [.int i2, .int (-1), .int 4]) (rest := []) (ws2 := [cMod r_ r_n r_o r_h r_A r_O r_H r_b r_x r_c r_m r_s r_z r_i r_v im be bg tx ta fa cl, cJar cJ r_i 360 f_i, cIar cI r_s 6 f_s, cIar cI r_z 6 f_z]) (mX9_within l D cI cJ cB cT tt  hov3) [] [.inl 0, .inl 1, .inl 2, .inl 3] k_735 k_733 k_734 k_47 hdX9_within (by decide) (Nat.le_of_ble_eq_true rfl) dX9_tape_12 (by decide) rfl rfl (by decide) rfl rfl ?_
    refine j_if_eq X (tgt := 28) dX9_tape_15 (by decide) (fun cv4 => ?_) (fun cv4 => ?_)
    · replace hR := (if_pos cv4).symm.trans hR
      refine j_bipush X (v := (-2)) dX9_tape_28 (by decide) ?_
      have hR := Option.some.inj hR
      exact j_iret X hr dX9_tape_30 (by rw [← hR]) (by rw [← hR])
    · replace hR := (if_neg cv4).symm.trans hR
      refine j_iload_n X (q := 2) dX9_tape_18 rfl ?_
      refine j_if_lt X (tgt := 31) dX9_tape_19 (by decide) (fun cv5 => ?_) (fun cv5 => ?_)
      · replace hR := (if_pos cv5).symm.trans hR
        refine j_iload_n X (q := 2) dX9_tape_31 rfl ?_
        refine j_if_lt X (tgt := 42) dX9_tape_32 (by decide) (fun cv6 => ?_) (fun cv6 => ?_)
        · replace hR := (if_pos cv6).symm.trans hR
          exact L_42 _ _ _ hR
        · replace hR := (if_neg cv6).symm.trans hR
          refine j_iload_n X (q := 3) dX9_tape_35 rfl ?_
          refine j_if_ge X (tgt := 42) dX9_tape_36 (by decide) (fun cv7 => ?_) (fun cv7 => ?_)
          · replace hR := (if_pos cv7).symm.trans hR
            exact L_42 _ _ _ hR
          · replace hR := (if_neg cv7).symm.trans hR
            refine j_bipush X (v := (-14)) dX9_tape_39 (by decide) ?_
            have hR := Option.some.inj hR
            exact j_iret X hr dX9_tape_41 (by rw [← hR]) (by rw [← hR])
      · replace hR := (if_neg cv5).symm.trans hR
        refine j_iload_n X (q := 3) dX9_tape_22 rfl ?_
        refine j_bipush X (v := 60) dX9_tape_23 (by decide) ?_
        refine j_icmp_le X (tgt := 31) dX9_tape_25 (by decide) (fun cv8 => ?_) (fun cv8 => ?_)
        · replace hR := (if_pos cv8).symm.trans hR
          refine j_iload_n X (q := 2) dX9_tape_31 rfl ?_
          refine j_if_lt X (tgt := 42) dX9_tape_32 (by decide) (fun cv9 => ?_) (fun cv9 => ?_)
          · replace hR := (if_pos cv9).symm.trans hR
            exact L_42 _ _ _ hR
          · replace hR := (if_neg cv9).symm.trans hR
            refine j_iload_n X (q := 3) dX9_tape_35 rfl ?_
            refine j_if_ge X (tgt := 42) dX9_tape_36 (by decide) (fun cv10 => ?_) (fun cv10 => ?_)
            · replace hR := (if_pos cv10).symm.trans hR
              exact L_42 _ _ _ hR
            · replace hR := (if_neg cv10).symm.trans hR
              refine j_bipush X (v := (-14)) dX9_tape_39 (by decide) ?_
              have hR := Option.some.inj hR
              exact j_iret X hr dX9_tape_41 (by rw [← hR]) (by rw [← hR])
        · replace hR := (if_neg cv8).symm.trans hR
          refine j_bipush X (v := (-2)) dX9_tape_28 (by decide) ?_
          have hR := Option.some.inj hR
          exact j_iret X hr dX9_tape_30 (by rw [← hR]) (by rw [← hR])
  · replace hR := (if_pos cv2).symm.trans hR
    refine j_iconst X (v := (-1)) dX9_tape_7 (by decide) ?_
    have hR := Option.some.inj hR
    exact j_iret X hr dX9_tape_8 (by rw [← hR]) (by rw [← hR])

def rmX9_item : Room := { frames := 2, cells := 0, slots := 0, locals := 42 }
theorem hdX9_item : yX9_item.cls ≠ "java/lang/invoke/MethodHandle" ∧ yX9_item.cls ≠ "java/lang/invoke/VarHandle" ∧ (parseMethodDescriptor yX9_item.desc).map (fun d => d.parameters.length) = some 3 := by decide +kernel
def fX9_item (i1 : Int32) (i2 : Int32) (i3 : Int64) (im : Int32) (be : Int32) (bg : Int32) (tx : Int32) (ta : Int32) (fa : Int32) (cl : Int32) (f_i : Nat → Int64) (f_s : Nat → Int32) (f_z : Nat → Int32) : Option (Int32 × (Nat → Int64)) :=
  (fX9_isTape i1).bind fun ov1 =>
  if ov1 = 0 then (some ((-1), f_i)) else (gd (inb i1 6) (if (f_s i1.toNatClampNeg) = 0 then (some ((-11), f_i)) else (gd (inb i1 6) ((fX9_within i2 0 ((f_z i1.toNatClampNeg) - 1)).bind fun ov6 =>
  if ov6 = 0 then (some ((-13), f_i)) else (gd (inb i1 6) (lt' (f_s i1.toNatClampNeg) fun x5v9 =>
  if x5v9 = 1 then (gd (inb (((60 : Int32) * i1) + i2) 360) (lt' (vp_updL f_i ((((60 : Int32) * i1) + i2).toNatClampNeg) i3.toInt32.toInt8.toInt32.toInt64) fun f_iv26 =>
  some (1, f_iv26))) else (if x5v9 = 2 then (gd (inb (((60 : Int32) * i1) + i2) 360) (lt' (vp_updL f_i ((((60 : Int32) * i1) + i2).toNatClampNeg) i3.toInt32.toInt16.toInt32.toInt64) fun f_iv24 =>
  some (1, f_iv24))) else (if x5v9 = 3 then (gd (inb (((60 : Int32) * i1) + i2) 360) (lt' (vp_updL f_i ((((60 : Int32) * i1) + i2).toNatClampNeg) i3.toInt32.toInt64) fun f_iv22 =>
  some (1, f_iv22))) else (if x5v9 = 4 then (gd (inb (((60 : Int32) * i1) + i2) 360) (lt' (vp_updL f_i ((((60 : Int32) * i1) + i2).toNatClampNeg) i3) fun f_iv20 =>
  some (1, f_iv20))) else (if (lg_cmp i3 0) = 0 then (gd (inb (((60 : Int32) * i1) + i2) 360) (lt' (vp_updL f_i ((((60 : Int32) * i1) + i2).toNatClampNeg) 0) fun f_iv16 =>
  some (1, f_iv16))) else (gd (inb (((60 : Int32) * i1) + i2) 360) (lt' (vp_updL f_i ((((60 : Int32) * i1) + i2).toNatClampNeg) 1) fun f_iv18 =>
  some (1, f_iv18)))))))))))))
set_option maxHeartbeats 8000000 in
set_option maxRecDepth 100000 in
theorem mX9_item (l : Launch) (D : va_G) (cI cJ cB cT : ClassId) (tt : Nat → Nat) (r_ r_n r_o r_h r_A r_O r_H r_b r_x r_c r_m r_s r_z r_i r_v : Nat) {i1 : Int32} {i2 : Int32} {i3 : Int64} {im : Int32} {be : Int32} {bg : Int32} {tx : Int32} {ta : Int32} {fa : Int32} {cl : Int32} {f_i : Nat → Int64} {f_s : Nat → Int32} {f_z : Nat → Int32} {out : Int32 × (Nat → Int64)} (h : fX9_item i1 i2 i3 im be bg tx ta fa cl f_i f_s f_z = some out) :
    jM l yX9_item (.code yX9_item cX9_item 6 (some .int)) rmX9_item D (wTy cI cJ cB cT) tt [.ref r_, .int i1, .int i2, .long i3] [cMod r_ r_n r_o r_h r_A r_O r_H r_b r_x r_c r_m r_s r_z r_i r_v im be bg tx ta fa cl, cJar cJ r_i 360 f_i, cIar cI r_s 6 f_s, cIar cI r_z 6 f_z] (some (.int out.1)) [cMod r_ r_n r_o r_h r_A r_O r_H r_b r_x r_c r_m r_s r_z r_i r_v im be bg tx ta fa cl, cJar cJ r_i 360 out.2, cIar cI r_s 6 f_s, cIar cI r_z 6 f_z] := by
  refine jM.of (by decide) (Nat.le_of_ble_eq_true rfl) ?_
  intro p e s m below meth c A X hr
  refine j_sub (lv2 := [(0, .ref r_), (1, .int i1), (2, .int i2), (3, .long i3)]) [0, 1, 2, 3] rfl ?_
  have hR := h
  unfold fX9_item at hR
  refine j_iload_n X (q := 1) dX9_item_0 rfl ?_
  obtain ⟨ov1, hov1, hR⟩ := bd_some hR
  refine j_callS X (As := [.int i1]) (rest := []) (ws2 := [cMod r_ r_n r_o r_h r_A r_O r_H r_b r_x r_c r_m r_s r_z r_i r_v im be bg tx ta fa cl, cJar cJ r_i 360 f_i, cIar cI r_s 6 f_s, cIar cI r_z 6 f_z]) (mX9_isTape l D cI cJ cB cT tt  hov1) [] [.inl 0, .inl 1, .inl 2, .inl 3] k_920 k_918 k_919 k_47 hdX9_isTape (by decide) (Nat.le_of_ble_eq_true rfl) dX9_item_1 (by decide) rfl rfl (by decide) rfl rfl ?_
  refine j_if_ne X (tgt := 9) dX9_item_4 (by decide) (fun cv2 => ?_) (fun cv2 => ?_)
  · replace hR := (if_neg cv2).symm.trans hR
    refine j_aload_n X (q := 0) dX9_item_9 rfl ?_
    refine j_get X 0 17 hiX9 k_682 dX9_item_10 rfl rfl (by decide) rfl ?_
    refine j_iload_n X (q := 1) dX9_item_13 rfl ?_
    obtain ⟨gv3, hR⟩ := gd_some hR
    refine j_iald X 2 0 rfl dX9_item_14 rfl rfl gv3 ?_
    refine j_if_ne X (tgt := 21) dX9_item_15 (by decide) (fun cv4 => ?_) (fun cv4 => ?_)
    · replace hR := (if_neg cv4).symm.trans hR
      refine j_iload_n X (q := 2) dX9_item_21 rfl ?_
      refine j_iconst X (v := 0) dX9_item_22 (by decide) ?_
      refine j_aload_n X (q := 0) dX9_item_23 rfl ?_
      refine j_get X 0 18 hiX9 k_683 dX9_item_24 rfl rfl (by decide) rfl ?_
      refine j_iload_n X (q := 1) dX9_item_27 rfl ?_
      obtain ⟨gv5, hR⟩ := gd_some hR
      refine j_iald X 3 0 rfl dX9_item_28 rfl rfl gv5 ?_
      refine j_iconst X (v := 1) dX9_item_29 (by decide) ?_
      refine j_isub X dX9_item_30 ?_
      obtain ⟨ov6, hov6, hR⟩ := bd_some hR
      refine j_callS X (As := [.int i2, .int 0, .int ((f_z i1.toNatClampNeg) - 1)]) (rest := []) (ws2 := [cMod r_ r_n r_o r_h r_A r_O r_H r_b r_x r_c r_m r_s r_z r_i r_v im be bg tx ta fa cl, cJar cJ r_i 360 f_i, cIar cI r_s 6 f_s, cIar cI r_z 6 f_z]) (mX9_within l D cI cJ cB cT tt  hov6) [] [.inl 0, .inl 1, .inl 2, .inl 3] k_735 k_733 k_734 k_47 hdX9_within (by decide) (Nat.le_of_ble_eq_true rfl) dX9_item_31 (by decide) rfl rfl (by decide) rfl rfl ?_
      refine j_if_ne X (tgt := 40) dX9_item_34 (by decide) (fun cv7 => ?_) (fun cv7 => ?_)
      · replace hR := (if_neg cv7).symm.trans hR
        refine j_aload_n X (q := 0) dX9_item_40 rfl ?_
        refine j_get X 0 17 hiX9 k_682 dX9_item_41 rfl rfl (by decide) rfl ?_
        refine j_iload_n X (q := 1) dX9_item_44 rfl ?_
        obtain ⟨gv8, hR⟩ := gd_some hR
        refine j_iald X 2 0 rfl dX9_item_45 rfl rfl gv8 ?_
        obtain ⟨x5v9, ex5v9, hR⟩ := lt_some hR
        refine j_eq (congrArg (fun z => Value.int z :: _) ex5v9) rfl ?_
        refine j_istore X (lv2 := [(5, .int x5v9), (0, .ref r_), (1, .int i1), (2, .int i2), (3, .long i3)]) dX9_item_46 (by decide) rfl ?_
        refine j_aload_n X (q := 1) dX9_item_48 rfl ?_
        refine j_get X 0 19 hiX9 k_684 dX9_item_49 rfl rfl (by decide) rfl ?_
        refine j_bipush X (v := 60) dX9_item_52 (by decide) ?_
        refine j_iload_n X (q := 2) dX9_item_54 rfl ?_
        refine j_imul X dX9_item_55 ?_
        refine j_iload_n X (q := 3) dX9_item_56 rfl ?_
        refine j_iadd X dX9_item_57 ?_
        refine j_iload X (q := 0) dX9_item_58 rfl ?_
        refine j_iconst X (v := 1) dX9_item_60 (by decide) ?_
        refine j_icmp_ne X (tgt := 71) dX9_item_61 (by decide) (fun cv10 => ?_) (fun cv10 => ?_)
        · replace hR := (if_neg cv10).symm.trans hR
          refine j_iload X (q := 0) dX9_item_71 rfl ?_
          refine j_iconst X (v := 2) dX9_item_73 (by decide) ?_
          refine j_icmp_ne X (tgt := 84) dX9_item_74 (by decide) (fun cv11 => ?_) (fun cv11 => ?_)
          · replace hR := (if_neg cv11).symm.trans hR
            refine j_iload X (q := 0) dX9_item_84 rfl ?_
            refine j_iconst X (v := 3) dX9_item_86 (by decide) ?_
            refine j_icmp_ne X (tgt := 96) dX9_item_87 (by decide) (fun cv12 => ?_) (fun cv12 => ?_)
            · replace hR := (if_neg cv12).symm.trans hR
              refine j_iload X (q := 0) dX9_item_96 rfl ?_
              refine j_iconst X (v := 4) dX9_item_98 (by decide) ?_
              refine j_icmp_ne X (tgt := 106) dX9_item_99 (by decide) (fun cv13 => ?_) (fun cv13 => ?_)
              · replace hR := (if_neg cv13).symm.trans hR
                refine j_lload_n X (q := 4) dX9_item_106 rfl ?_
                refine j_lconst X (v := 0) dX9_item_107 (by decide) ?_
                refine j_lcmp X dX9_item_108 ?_
                refine j_if_eq X (tgt := 116) dX9_item_109 (by decide) (fun cv14 => ?_) (fun cv14 => ?_)
                · replace hR := (if_pos cv14).symm.trans hR
                  refine j_lconst X (v := 0) dX9_item_116 (by decide) ?_
                  obtain ⟨gv15, hR⟩ := gd_some hR
                  obtain ⟨f_iv16, ef_iv16, hR⟩ := lt_some hR
                  refine j_last X (ws2 := [cMod r_ r_n r_o r_h r_A r_O r_H r_b r_x r_c r_m r_s r_z r_i r_v im be bg tx ta fa cl, cJar cJ r_i 360 f_iv16, cIar cI r_s 6 f_s, cIar cI r_z 6 f_z]) 1 1 rfl dX9_item_117 rfl rfl gv15 ef_iv16 rfl ?_
                  refine j_iconst X (v := 1) dX9_item_118 (by decide) ?_
                  have hR := Option.some.inj hR
                  exact j_iret X hr dX9_item_119 (by rw [← hR]) (by rw [← hR])
                · replace hR := (if_neg cv14).symm.trans hR
                  refine j_lconst X (v := 1) dX9_item_112 (by decide) ?_
                  refine j_goto X (tgt := 117) dX9_item_113 (by decide) ?_
                  obtain ⟨gv17, hR⟩ := gd_some hR
                  obtain ⟨f_iv18, ef_iv18, hR⟩ := lt_some hR
                  refine j_last X (ws2 := [cMod r_ r_n r_o r_h r_A r_O r_H r_b r_x r_c r_m r_s r_z r_i r_v im be bg tx ta fa cl, cJar cJ r_i 360 f_iv18, cIar cI r_s 6 f_s, cIar cI r_z 6 f_z]) 1 1 rfl dX9_item_117 rfl rfl gv17 ef_iv18 rfl ?_
                  refine j_iconst X (v := 1) dX9_item_118 (by decide) ?_
                  have hR := Option.some.inj hR
                  exact j_iret X hr dX9_item_119 (by rw [← hR]) (by rw [← hR])
              · replace hR := (if_pos cv13).symm.trans hR
                refine j_lload_n X (q := 4) dX9_item_102 rfl ?_
                refine j_goto X (tgt := 117) dX9_item_103 (by decide) ?_
                obtain ⟨gv19, hR⟩ := gd_some hR
                obtain ⟨f_iv20, ef_iv20, hR⟩ := lt_some hR
                refine j_last X (ws2 := [cMod r_ r_n r_o r_h r_A r_O r_H r_b r_x r_c r_m r_s r_z r_i r_v im be bg tx ta fa cl, cJar cJ r_i 360 f_iv20, cIar cI r_s 6 f_s, cIar cI r_z 6 f_z]) 1 1 rfl dX9_item_117 rfl rfl gv19 ef_iv20 rfl ?_
                refine j_iconst X (v := 1) dX9_item_118 (by decide) ?_
                have hR := Option.some.inj hR
                exact j_iret X hr dX9_item_119 (by rw [← hR]) (by rw [← hR])
            · replace hR := (if_pos cv12).symm.trans hR
              refine j_lload_n X (q := 4) dX9_item_90 rfl ?_
              refine j_l2i X dX9_item_91 ?_
              refine j_i2l X dX9_item_92 ?_
              refine j_goto X (tgt := 117) dX9_item_93 (by decide) ?_
              obtain ⟨gv21, hR⟩ := gd_some hR
              obtain ⟨f_iv22, ef_iv22, hR⟩ := lt_some hR
              refine j_last X (ws2 := [cMod r_ r_n r_o r_h r_A r_O r_H r_b r_x r_c r_m r_s r_z r_i r_v im be bg tx ta fa cl, cJar cJ r_i 360 f_iv22, cIar cI r_s 6 f_s, cIar cI r_z 6 f_z]) 1 1 rfl dX9_item_117 rfl rfl gv21 ef_iv22 rfl ?_
              refine j_iconst X (v := 1) dX9_item_118 (by decide) ?_
              have hR := Option.some.inj hR
              exact j_iret X hr dX9_item_119 (by rw [← hR]) (by rw [← hR])
          · replace hR := (if_pos cv11).symm.trans hR
            refine j_lload_n X (q := 4) dX9_item_77 rfl ?_
            refine j_l2i X dX9_item_78 ?_
            refine j_i2s X dX9_item_79 ?_
            refine j_i2l X dX9_item_80 ?_
            refine j_goto X (tgt := 117) dX9_item_81 (by decide) ?_
            obtain ⟨gv23, hR⟩ := gd_some hR
            obtain ⟨f_iv24, ef_iv24, hR⟩ := lt_some hR
            refine j_last X (ws2 := [cMod r_ r_n r_o r_h r_A r_O r_H r_b r_x r_c r_m r_s r_z r_i r_v im be bg tx ta fa cl, cJar cJ r_i 360 f_iv24, cIar cI r_s 6 f_s, cIar cI r_z 6 f_z]) 1 1 rfl dX9_item_117 rfl rfl gv23 ef_iv24 rfl ?_
            refine j_iconst X (v := 1) dX9_item_118 (by decide) ?_
            have hR := Option.some.inj hR
            exact j_iret X hr dX9_item_119 (by rw [← hR]) (by rw [← hR])
        · replace hR := (if_pos cv10).symm.trans hR
          refine j_lload_n X (q := 4) dX9_item_64 rfl ?_
          refine j_l2i X dX9_item_65 ?_
          refine j_i2b X dX9_item_66 ?_
          refine j_i2l X dX9_item_67 ?_
          refine j_goto X (tgt := 117) dX9_item_68 (by decide) ?_
          obtain ⟨gv25, hR⟩ := gd_some hR
          obtain ⟨f_iv26, ef_iv26, hR⟩ := lt_some hR
          refine j_last X (ws2 := [cMod r_ r_n r_o r_h r_A r_O r_H r_b r_x r_c r_m r_s r_z r_i r_v im be bg tx ta fa cl, cJar cJ r_i 360 f_iv26, cIar cI r_s 6 f_s, cIar cI r_z 6 f_z]) 1 1 rfl dX9_item_117 rfl rfl gv25 ef_iv26 rfl ?_
          refine j_iconst X (v := 1) dX9_item_118 (by decide) ?_
          have hR := Option.some.inj hR
          exact j_iret X hr dX9_item_119 (by rw [← hR]) (by rw [← hR])
      · replace hR := (if_pos cv7).symm.trans hR
        refine j_bipush X (v := (-13)) dX9_item_37 (by decide) ?_
        have hR := Option.some.inj hR
        exact j_iret X hr dX9_item_39 (by rw [← hR]) (by rw [← hR])
    · replace hR := (if_pos cv4).symm.trans hR
      refine j_bipush X (v := (-11)) dX9_item_18 (by decide) ?_
      have hR := Option.some.inj hR
      exact j_iret X hr dX9_item_20 (by rw [← hR]) (by rw [← hR])
  · replace hR := (if_pos cv2).symm.trans hR
    refine j_iconst X (v := (-1)) dX9_item_7 (by decide) ?_
    have hR := Option.some.inj hR
    exact j_iret X hr dX9_item_8 (by rw [← hR]) (by rw [← hR])

def rmX9_peek : Room := { frames := 2, cells := 0, slots := 0, locals := 42 }
theorem hdX9_peek : yX9_peek.cls ≠ "java/lang/invoke/MethodHandle" ∧ yX9_peek.cls ≠ "java/lang/invoke/VarHandle" ∧ (parseMethodDescriptor yX9_peek.desc).map (fun d => d.parameters.length) = some 2 := by decide +kernel
def fX9_peek (i1 : Int32) (i2 : Int32) (im : Int32) (be : Int32) (bg : Int32) (tx : Int32) (ta : Int32) (fa : Int32) (cl : Int32) (f_i : Nat → Int64) (f_z : Nat → Int32) : Option (Int64) :=
  (fX9_isTape i1).bind fun ov1 =>
  if ov1 = 0 then (some (-9223372036854775808)) else (gd (inb i1 6) ((fX9_within i2 0 ((f_z i1.toNatClampNeg) - 1)).bind fun ov4 =>
  if ov4 = 0 then (some (-9223372036854775808)) else (gd (inb (((60 : Int32) * i1) + i2) 360) (some (f_i (((60 : Int32) * i1) + i2).toNatClampNeg)))))
set_option maxHeartbeats 8000000 in
set_option maxRecDepth 100000 in
theorem mX9_peek (l : Launch) (D : va_G) (cI cJ cB cT : ClassId) (tt : Nat → Nat) (r_ r_n r_o r_h r_A r_O r_H r_b r_x r_c r_m r_s r_z r_i r_v : Nat) {i1 : Int32} {i2 : Int32} {im : Int32} {be : Int32} {bg : Int32} {tx : Int32} {ta : Int32} {fa : Int32} {cl : Int32} {f_i : Nat → Int64} {f_z : Nat → Int32} {out : Int64} (h : fX9_peek i1 i2 im be bg tx ta fa cl f_i f_z = some out) :
    jM l yX9_peek (.code yX9_peek cX9_peek 3 (some .long)) rmX9_peek D (wTy cI cJ cB cT) tt [.ref r_, .int i1, .int i2] [cMod r_ r_n r_o r_h r_A r_O r_H r_b r_x r_c r_m r_s r_z r_i r_v im be bg tx ta fa cl, cJar cJ r_i 360 f_i, cIar cI r_z 6 f_z] (some (.long out)) [cMod r_ r_n r_o r_h r_A r_O r_H r_b r_x r_c r_m r_s r_z r_i r_v im be bg tx ta fa cl, cJar cJ r_i 360 f_i, cIar cI r_z 6 f_z] := by
  refine jM.of (by decide) (Nat.le_of_ble_eq_true rfl) ?_
  intro p e s m below meth c A X hr
  refine j_sub (lv2 := [(0, .ref r_), (1, .int i1), (2, .int i2)]) [0, 1, 2] rfl ?_
  have hR := h
  unfold fX9_peek at hR
  refine j_iload_n X (q := 1) dX9_peek_0 rfl ?_
  obtain ⟨ov1, hov1, hR⟩ := bd_some hR
  refine j_callS X (As := [.int i1]) (rest := []) (ws2 := [cMod r_ r_n r_o r_h r_A r_O r_H r_b r_x r_c r_m r_s r_z r_i r_v im be bg tx ta fa cl, cJar cJ r_i 360 f_i, cIar cI r_z 6 f_z]) (mX9_isTape l D cI cJ cB cT tt  hov1) [] [.inl 0, .inl 1, .inl 2] k_920 k_918 k_919 k_47 hdX9_isTape (by decide) (Nat.le_of_ble_eq_true rfl) dX9_peek_1 (by decide) rfl rfl (by decide) rfl rfl ?_
  refine j_if_eq X (tgt := 37) dX9_peek_4 (by decide) (fun cv2 => ?_) (fun cv2 => ?_)
  · replace hR := (if_pos cv2).symm.trans hR
    refine j_ldc2 X k_787 dX9_peek_37 ?_
    have hR := Option.some.inj hR
    exact j_lret X hr dX9_peek_40 (by rw [← hR]) rfl
  · replace hR := (if_neg cv2).symm.trans hR
    refine j_iload_n X (q := 2) dX9_peek_7 rfl ?_
    refine j_iconst X (v := 0) dX9_peek_8 (by decide) ?_
    refine j_aload_n X (q := 0) dX9_peek_9 rfl ?_
    refine j_get X 0 18 hiX9 k_683 dX9_peek_10 rfl rfl (by decide) rfl ?_
    refine j_iload_n X (q := 1) dX9_peek_13 rfl ?_
    obtain ⟨gv3, hR⟩ := gd_some hR
    refine j_iald X 2 0 rfl dX9_peek_14 rfl rfl gv3 ?_
    refine j_iconst X (v := 1) dX9_peek_15 (by decide) ?_
    refine j_isub X dX9_peek_16 ?_
    obtain ⟨ov4, hov4, hR⟩ := bd_some hR
    refine j_callS X (As := [.int i2, .int 0, .int ((f_z i1.toNatClampNeg) - 1)]) (rest := []) (ws2 := [cMod r_ r_n r_o r_h r_A r_O r_H r_b r_x r_c r_m r_s r_z r_i r_v im be bg tx ta fa cl, cJar cJ r_i 360 f_i, cIar cI r_z 6 f_z]) (mX9_within l D cI cJ cB cT tt  hov4) [] [.inl 0, .inl 1, .inl 2] k_735 k_733 k_734 k_47 hdX9_within (by decide) (Nat.le_of_ble_eq_true rfl) dX9_peek_17 (by decide) rfl rfl (by decide) rfl rfl ?_
    refine j_if_eq X (tgt := 37) dX9_peek_20 (by decide) (fun cv5 => ?_) (fun cv5 => ?_)
    · replace hR := (if_pos cv5).symm.trans hR
      refine j_ldc2 X k_787 dX9_peek_37 ?_
      have hR := Option.some.inj hR
      exact j_lret X hr dX9_peek_40 (by rw [← hR]) rfl
    · replace hR := (if_neg cv5).symm.trans hR
      refine j_aload_n X (q := 0) dX9_peek_23 rfl ?_
      refine j_get X 0 19 hiX9 k_684 dX9_peek_24 rfl rfl (by decide) rfl ?_
      refine j_bipush X (v := 60) dX9_peek_27 (by decide) ?_
      refine j_iload_n X (q := 1) dX9_peek_29 rfl ?_
      refine j_imul X dX9_peek_30 ?_
      refine j_iload_n X (q := 2) dX9_peek_31 rfl ?_
      refine j_iadd X dX9_peek_32 ?_
      obtain ⟨gv6, hR⟩ := gd_some hR
      refine j_lald X 1 1 rfl dX9_peek_33 rfl rfl gv6 ?_
      refine j_goto X (tgt := 40) dX9_peek_34 (by decide) ?_
      have hR := Option.some.inj hR
      exact j_lret X hr dX9_peek_40 (by rw [← hR]) rfl

def rmX9_shift : Room := { frames := 2, cells := 0, slots := 0, locals := 42 }
theorem hdX9_shift : yX9_shift.cls ≠ "java/lang/invoke/MethodHandle" ∧ yX9_shift.cls ≠ "java/lang/invoke/VarHandle" ∧ (parseMethodDescriptor yX9_shift.desc).map (fun d => d.parameters.length) = some 5 := by decide +kernel
def fX9_shift_147 (i1 : Int32) (i2 : Int32) (i3 : Int32) (i4 : Int32) (i5 : Int32) (im : Int32) (be : Int32) (bg : Int32) (tx : Int32) (ta : Int32) (fa : Int32) (cl : Int32) (f_s : Nat → Int32) (f_z : Nat → Int32) : Nat → Int32 → (Nat → Int64) → (Nat → Int64) → Option (Int32 × (Nat → Int64) × (Nat → Int64))
  | 0, _, _, _ => none
  | fu + 1, x6, f_i, f_v =>
    if i5 ≤ x6 then (some (i5, f_i, f_v)) else (gd (inb x6 60) (gd (inb ((((60 : Int32) * i3) + i4) + x6) 360) (lt' (vp_updL f_i (((((60 : Int32) * i3) + i4) + x6).toNatClampNeg) (f_v x6.toNatClampNeg)) fun f_iv27 =>
  lt' (x6 + 1) fun x6v28 =>
  fX9_shift_147 i1 i2 i3 i4 i5 im be bg tx ta fa cl f_s f_z fu x6v28 f_iv27 f_v)))
def fX9_shift_110 (i1 : Int32) (i2 : Int32) (i3 : Int32) (i4 : Int32) (i5 : Int32) (im : Int32) (be : Int32) (bg : Int32) (tx : Int32) (ta : Int32) (fa : Int32) (cl : Int32) (f_s : Nat → Int32) (f_z : Nat → Int32) : Nat → Int32 → (Nat → Int64) → (Nat → Int64) → Option (Int32 × (Nat → Int64) × (Nat → Int64))
  | 0, _, _, _ => none
  | fu + 1, x6, f_i, f_v =>
    if i5 ≤ x6 then (fX9_shift_147 i1 i2 i3 i4 i5 im be bg tx ta fa cl f_s f_z 500 0 f_i f_v) else (gd (inb ((((60 : Int32) * i1) + i2) + x6) 360) (gd (inb x6 60) (lt' (vp_updL f_v x6.toNatClampNeg (f_i ((((60 : Int32) * i1) + i2) + x6).toNatClampNeg)) fun f_vv22 =>
  lt' (x6 + 1) fun x6v23 =>
  fX9_shift_110 i1 i2 i3 i4 i5 im be bg tx ta fa cl f_s f_z fu x6v23 f_i f_vv22)))
def fX9_shift (i1 : Int32) (i2 : Int32) (i3 : Int32) (i4 : Int32) (i5 : Int32) (im : Int32) (be : Int32) (bg : Int32) (tx : Int32) (ta : Int32) (fa : Int32) (cl : Int32) (f_i : Nat → Int64) (f_s : Nat → Int32) (f_v : Nat → Int64) (f_z : Nat → Int32) : Option (Int32 × (Nat → Int64) × (Nat → Int64)) :=
  (fX9_isTape i1).bind fun ov1 =>
  if ov1 = 0 then (some ((-1), f_i, f_v)) else ((fX9_isTape i3).bind fun ov3 =>
  if ov3 = 0 then (some ((-1), f_i, f_v)) else (gd (inb i1 6) (if (f_s i1.toNatClampNeg) = 0 then (some ((-11), f_i, f_v)) else (gd (inb i3 6) (if (f_s i3.toNatClampNeg) = 0 then (some ((-11), f_i, f_v)) else (gd (inb i1 6) (gd (inb i3 6) (if (f_s i1.toNatClampNeg) = (f_s i3.toNatClampNeg) then (if i5 < 0 then (some ((-13), f_i, f_v)) else (if i2 < 0 then (some ((-13), f_i, f_v)) else (if i4 < 0 then (some ((-13), f_i, f_v)) else (gd (inb i1 6) (if (0 : Int32) < (lg_cmp (i2.toInt64 + i5.toInt64) ((f_z i1.toNatClampNeg).toInt64)) then (some ((-13), f_i, f_v)) else (gd (inb i3 6) (if (lg_cmp (i4.toInt64 + i5.toInt64) ((f_z i3.toNatClampNeg).toInt64)) ≤ 0 then (fX9_shift_110 i1 i2 i3 i4 i5 im be bg tx ta fa cl f_s f_z 500 0 f_i f_v) else (some ((-13), f_i, f_v))))))))) else (some ((-12), f_i, f_v))))))))))
set_option maxHeartbeats 8000000 in
set_option maxRecDepth 100000 in
theorem mX9_shift (l : Launch) (D : va_G) (cI cJ cB cT : ClassId) (tt : Nat → Nat) (r_ r_n r_o r_h r_A r_O r_H r_b r_x r_c r_m r_s r_z r_i r_v : Nat) {i1 : Int32} {i2 : Int32} {i3 : Int32} {i4 : Int32} {i5 : Int32} {im : Int32} {be : Int32} {bg : Int32} {tx : Int32} {ta : Int32} {fa : Int32} {cl : Int32} {f_i : Nat → Int64} {f_s : Nat → Int32} {f_v : Nat → Int64} {f_z : Nat → Int32} {out : Int32 × (Nat → Int64) × (Nat → Int64)} (h : fX9_shift i1 i2 i3 i4 i5 im be bg tx ta fa cl f_i f_s f_v f_z = some out) :
    jM l yX9_shift (.code yX9_shift cX9_shift 7 (some .int)) rmX9_shift D (wTy cI cJ cB cT) tt [.ref r_, .int i1, .int i2, .int i3, .int i4, .int i5] [cMod r_ r_n r_o r_h r_A r_O r_H r_b r_x r_c r_m r_s r_z r_i r_v im be bg tx ta fa cl, cJar cJ r_i 360 f_i, cIar cI r_s 6 f_s, cJar cJ r_v 60 f_v, cIar cI r_z 6 f_z] (some (.int out.1)) [cMod r_ r_n r_o r_h r_A r_O r_H r_b r_x r_c r_m r_s r_z r_i r_v im be bg tx ta fa cl, cJar cJ r_i 360 out.2.1, cIar cI r_s 6 f_s, cJar cJ r_v 60 out.2.2, cIar cI r_z 6 f_z] := by
  refine jM.of (by decide) (Nat.le_of_ble_eq_true rfl) ?_
  intro p e s m below meth c A X hr
  have L_147 : ∀ (fuel : Nat) (x6 : Int32) (f_i : Nat → Int64) (f_v : Nat → Int64), fX9_shift_147 i1 i2 i3 i4 i5 im be bg tx ta fa cl f_s f_z  fuel x6 f_i f_v = some out → jW p l e rmX9_shift s m ([.ref r_, .int i1, .int i2, .int i3, .int i4, .int i5] : List Value).toArray below meth c D A 7 (MQ below (jQ D (some (.int out.1)) [cMod r_ r_n r_o r_h r_A r_O r_H r_b r_x r_c r_m r_s r_z r_i r_v im be bg tx ta fa cl, cJar cJ r_i 360 out.2.1, cIar cI r_s 6 f_s, cJar cJ r_v 60 out.2.2, cIar cI r_z 6 f_z] A) ([.ref r_, .int i1, .int i2, .int i3, .int i4, .int i5] : List Value).toArray s 0 0 A) 0 0 147 [(0, .ref r_), (3, .int i3), (4, .int i4), (5, .int i5), (6, .int x6)] [] [cMod r_ r_n r_o r_h r_A r_O r_H r_b r_x r_c r_m r_s r_z r_i r_v im be bg tx ta fa cl, cJar cJ r_i 360 f_i, cIar cI r_s 6 f_s, cJar cJ r_v 60 f_v, cIar cI r_z 6 f_z] := by
    intro  fuel
    induction fuel with
    | zero =>
      intro x6 f_i f_v hR
      rw [fX9_shift_147] at hR
      cases hR
    | succ fu ih =>
      intro x6 f_i f_v hR
      rw [fX9_shift_147] at hR
      refine j_iload X (q := 4) dX9_shift_147 rfl ?_
      refine j_iload X (q := 3) dX9_shift_149 rfl ?_
      refine j_icmp_ge X (tgt := 182) dX9_shift_151 (by decide) (fun cv24 => ?_) (fun cv24 => ?_)
      · replace hR := (if_pos cv24).symm.trans hR
        refine j_iload X (q := 3) dX9_shift_182 rfl ?_
        have hR := Option.some.inj hR
        exact j_iret X hr dX9_shift_184 (by rw [← hR]) (by rw [← hR])
      · replace hR := (if_neg cv24).symm.trans hR
        refine j_aload_n X (q := 0) dX9_shift_154 rfl ?_
        refine j_get X 0 19 hiX9 k_684 dX9_shift_155 rfl rfl (by decide) rfl ?_
        refine j_bipush X (v := 60) dX9_shift_158 (by decide) ?_
        refine j_iload_n X (q := 1) dX9_shift_160 rfl ?_
        refine j_imul X dX9_shift_161 ?_
        refine j_iload X (q := 2) dX9_shift_162 rfl ?_
        refine j_iadd X dX9_shift_164 ?_
        refine j_iload X (q := 4) dX9_shift_165 rfl ?_
        refine j_iadd X dX9_shift_167 ?_
        refine j_aload_n X (q := 0) dX9_shift_168 rfl ?_
        refine j_get X 0 20 hiX9 k_685 dX9_shift_169 rfl rfl (by decide) rfl ?_
        refine j_iload X (q := 4) dX9_shift_172 rfl ?_
        obtain ⟨gv25, hR⟩ := gd_some hR
        refine j_lald X 3 1 rfl dX9_shift_174 rfl rfl gv25 ?_
        obtain ⟨gv26, hR⟩ := gd_some hR
        obtain ⟨f_iv27, ef_iv27, hR⟩ := lt_some hR
        refine j_last X (ws2 := [cMod r_ r_n r_o r_h r_A r_O r_H r_b r_x r_c r_m r_s r_z r_i r_v im be bg tx ta fa cl, cJar cJ r_i 360 f_iv27, cIar cI r_s 6 f_s, cJar cJ r_v 60 f_v, cIar cI r_z 6 f_z]) 1 1 rfl dX9_shift_175 rfl rfl gv26 ef_iv27 rfl ?_
        obtain ⟨x6v28, ex6v28, hR⟩ := lt_some hR
        refine j_iinc X (k := 4) (v := x6v28) (lv2 := [(6, .int x6v28), (0, .ref r_), (3, .int i3), (4, .int i4), (5, .int i5)]) dX9_shift_176 rfl (by rw [← ex6v28]; rfl) (by decide) rfl ?_
        refine j_goto X (tgt := 147) dX9_shift_179 (by decide) ?_
        refine j_sub (lv2 := [(0, .ref r_), (3, .int i3), (4, .int i4), (5, .int i5), (6, .int x6v28)]) [1, 2, 3, 4, 0] rfl ?_
        exact ih _ _ _ hR
  have L_110 : ∀ (fuel : Nat) (x6 : Int32) (f_i : Nat → Int64) (f_v : Nat → Int64), fX9_shift_110 i1 i2 i3 i4 i5 im be bg tx ta fa cl f_s f_z  fuel x6 f_i f_v = some out → jW p l e rmX9_shift s m ([.ref r_, .int i1, .int i2, .int i3, .int i4, .int i5] : List Value).toArray below meth c D A 7 (MQ below (jQ D (some (.int out.1)) [cMod r_ r_n r_o r_h r_A r_O r_H r_b r_x r_c r_m r_s r_z r_i r_v im be bg tx ta fa cl, cJar cJ r_i 360 out.2.1, cIar cI r_s 6 f_s, cJar cJ r_v 60 out.2.2, cIar cI r_z 6 f_z] A) ([.ref r_, .int i1, .int i2, .int i3, .int i4, .int i5] : List Value).toArray s 0 0 A) 0 0 110 [(0, .ref r_), (1, .int i1), (2, .int i2), (3, .int i3), (4, .int i4), (5, .int i5), (6, .int x6)] [] [cMod r_ r_n r_o r_h r_A r_O r_H r_b r_x r_c r_m r_s r_z r_i r_v im be bg tx ta fa cl, cJar cJ r_i 360 f_i, cIar cI r_s 6 f_s, cJar cJ r_v 60 f_v, cIar cI r_z 6 f_z] := by
    intro  fuel
    induction fuel with
    | zero =>
      intro x6 f_i f_v hR
      rw [fX9_shift_110] at hR
      cases hR
    | succ fu ih =>
      intro x6 f_i f_v hR
      rw [fX9_shift_110] at hR
      refine j_iload X (q := 6) dX9_shift_110 rfl ?_
      refine j_iload X (q := 5) dX9_shift_112 rfl ?_
      refine j_icmp_ge X (tgt := 144) dX9_shift_114 (by decide) (fun cv19 => ?_) (fun cv19 => ?_)
      · replace hR := (if_pos cv19).symm.trans hR
        refine j_iconst X (v := 0) dX9_shift_144 (by decide) ?_
        refine j_istore X (lv2 := [(6, .int 0), (0, .ref r_), (1, .int i1), (2, .int i2), (3, .int i3), (4, .int i4), (5, .int i5)]) dX9_shift_145 (by decide) rfl ?_
        refine j_sub (lv2 := [(0, .ref r_), (3, .int i3), (4, .int i4), (5, .int i5), (6, .int 0)]) [1, 4, 5, 6, 0] rfl ?_
        exact L_147 _ _ _ _ hR
      · replace hR := (if_neg cv19).symm.trans hR
        refine j_aload_n X (q := 0) dX9_shift_117 rfl ?_
        refine j_get X 0 20 hiX9 k_685 dX9_shift_118 rfl rfl (by decide) rfl ?_
        refine j_iload X (q := 6) dX9_shift_121 rfl ?_
        refine j_aload_n X (q := 0) dX9_shift_123 rfl ?_
        refine j_get X 0 19 hiX9 k_684 dX9_shift_124 rfl rfl (by decide) rfl ?_
        refine j_bipush X (v := 60) dX9_shift_127 (by decide) ?_
        refine j_iload_n X (q := 1) dX9_shift_129 rfl ?_
        refine j_imul X dX9_shift_130 ?_
        refine j_iload_n X (q := 2) dX9_shift_131 rfl ?_
        refine j_iadd X dX9_shift_132 ?_
        refine j_iload X (q := 6) dX9_shift_133 rfl ?_
        refine j_iadd X dX9_shift_135 ?_
        obtain ⟨gv20, hR⟩ := gd_some hR
        refine j_lald X 1 1 rfl dX9_shift_136 rfl rfl gv20 ?_
        obtain ⟨gv21, hR⟩ := gd_some hR
        obtain ⟨f_vv22, ef_vv22, hR⟩ := lt_some hR
        refine j_last X (ws2 := [cMod r_ r_n r_o r_h r_A r_O r_H r_b r_x r_c r_m r_s r_z r_i r_v im be bg tx ta fa cl, cJar cJ r_i 360 f_i, cIar cI r_s 6 f_s, cJar cJ r_v 60 f_vv22, cIar cI r_z 6 f_z]) 3 1 rfl dX9_shift_137 rfl rfl gv21 ef_vv22 rfl ?_
        obtain ⟨x6v23, ex6v23, hR⟩ := lt_some hR
        refine j_iinc X (k := 6) (v := x6v23) (lv2 := [(6, .int x6v23), (0, .ref r_), (1, .int i1), (2, .int i2), (3, .int i3), (4, .int i4), (5, .int i5)]) dX9_shift_138 rfl (by rw [← ex6v23]; rfl) (by decide) rfl ?_
        refine j_goto X (tgt := 110) dX9_shift_141 (by decide) ?_
        refine j_sub (lv2 := [(0, .ref r_), (1, .int i1), (2, .int i2), (3, .int i3), (4, .int i4), (5, .int i5), (6, .int x6v23)]) [1, 2, 3, 4, 5, 6, 0] rfl ?_
        exact ih _ _ _ hR
  refine j_sub (lv2 := [(0, .ref r_), (1, .int i1), (2, .int i2), (3, .int i3), (4, .int i4), (5, .int i5)]) [0, 1, 2, 3, 4, 5] rfl ?_
  have hR := h
  unfold fX9_shift at hR
  refine j_iload_n X (q := 1) dX9_shift_0 rfl ?_
  obtain ⟨ov1, hov1, hR⟩ := bd_some hR
  refine j_callS X (As := [.int i1]) (rest := []) (ws2 := [cMod r_ r_n r_o r_h r_A r_O r_H r_b r_x r_c r_m r_s r_z r_i r_v im be bg tx ta fa cl, cJar cJ r_i 360 f_i, cIar cI r_s 6 f_s, cJar cJ r_v 60 f_v, cIar cI r_z 6 f_z]) (mX9_isTape l D cI cJ cB cT tt  hov1) [] [.inl 0, .inl 1, .inl 2, .inl 3, .inl 4] k_920 k_918 k_919 k_47 hdX9_isTape (by decide) (Nat.le_of_ble_eq_true rfl) dX9_shift_1 (by decide) rfl rfl (by decide) rfl rfl ?_
  refine j_if_eq X (tgt := 14) dX9_shift_4 (by decide) (fun cv2 => ?_) (fun cv2 => ?_)
  · replace hR := (if_pos cv2).symm.trans hR
    refine j_iconst X (v := (-1)) dX9_shift_14 (by decide) ?_
    have hR := Option.some.inj hR
    exact j_iret X hr dX9_shift_15 (by rw [← hR]) (by rw [← hR])
  · replace hR := (if_neg cv2).symm.trans hR
    refine j_iload_n X (q := 3) dX9_shift_7 rfl ?_
    obtain ⟨ov3, hov3, hR⟩ := bd_some hR
    refine j_callS X (As := [.int i3]) (rest := []) (ws2 := [cMod r_ r_n r_o r_h r_A r_O r_H r_b r_x r_c r_m r_s r_z r_i r_v im be bg tx ta fa cl, cJar cJ r_i 360 f_i, cIar cI r_s 6 f_s, cJar cJ r_v 60 f_v, cIar cI r_z 6 f_z]) (mX9_isTape l D cI cJ cB cT tt  hov3) [] [.inl 0, .inl 1, .inl 2, .inl 3, .inl 4] k_920 k_918 k_919 k_47 hdX9_isTape (by decide) (Nat.le_of_ble_eq_true rfl) dX9_shift_8 (by decide) rfl rfl (by decide) rfl rfl ?_
    refine j_if_ne X (tgt := 16) dX9_shift_11 (by decide) (fun cv4 => ?_) (fun cv4 => ?_)
    · replace hR := (if_neg cv4).symm.trans hR
      refine j_aload_n X (q := 0) dX9_shift_16 rfl ?_
      refine j_get X 0 17 hiX9 k_682 dX9_shift_17 rfl rfl (by decide) rfl ?_
      refine j_iload_n X (q := 1) dX9_shift_20 rfl ?_
      obtain ⟨gv5, hR⟩ := gd_some hR
      refine j_iald X 2 0 rfl dX9_shift_21 rfl rfl gv5 ?_
      refine j_if_eq X (tgt := 34) dX9_shift_22 (by decide) (fun cv6 => ?_) (fun cv6 => ?_)
      · replace hR := (if_pos cv6).symm.trans hR
        refine j_bipush X (v := (-11)) dX9_shift_34 (by decide) ?_
        have hR := Option.some.inj hR
        exact j_iret X hr dX9_shift_36 (by rw [← hR]) (by rw [← hR])
      · replace hR := (if_neg cv6).symm.trans hR
        refine j_aload_n X (q := 0) dX9_shift_25 rfl ?_
        refine j_get X 0 17 hiX9 k_682 dX9_shift_26 rfl rfl (by decide) rfl ?_
        refine j_iload_n X (q := 3) dX9_shift_29 rfl ?_
        obtain ⟨gv7, hR⟩ := gd_some hR
        refine j_iald X 2 0 rfl dX9_shift_30 rfl rfl gv7 ?_
        refine j_if_ne X (tgt := 37) dX9_shift_31 (by decide) (fun cv8 => ?_) (fun cv8 => ?_)
        · replace hR := (if_neg cv8).symm.trans hR
          refine j_aload_n X (q := 0) dX9_shift_37 rfl ?_
          refine j_get X 0 17 hiX9 k_682 dX9_shift_38 rfl rfl (by decide) rfl ?_
          refine j_iload_n X (q := 1) dX9_shift_41 rfl ?_
          obtain ⟨gv9, hR⟩ := gd_some hR
          refine j_iald X 2 0 rfl dX9_shift_42 rfl rfl gv9 ?_
          refine j_aload_n X (q := 0) dX9_shift_43 rfl ?_
          refine j_get X 0 17 hiX9 k_682 dX9_shift_44 rfl rfl (by decide) rfl ?_
          refine j_iload_n X (q := 3) dX9_shift_47 rfl ?_
          obtain ⟨gv10, hR⟩ := gd_some hR
          refine j_iald X 2 0 rfl dX9_shift_48 rfl rfl gv10 ?_
          refine j_icmp_eq X (tgt := 55) dX9_shift_49 (by decide) (fun cv11 => ?_) (fun cv11 => ?_)
          · replace hR := (if_pos cv11).symm.trans hR
            refine j_iload X (q := 5) dX9_shift_55 rfl ?_
            refine j_if_lt X (tgt := 104) dX9_shift_57 (by decide) (fun cv12 => ?_) (fun cv12 => ?_)
            · replace hR := (if_pos cv12).symm.trans hR
              refine j_bipush X (v := (-13)) dX9_shift_104 (by decide) ?_
              have hR := Option.some.inj hR
              exact j_iret X hr dX9_shift_106 (by rw [← hR]) (by rw [← hR])
            · replace hR := (if_neg cv12).symm.trans hR
              refine j_iload_n X (q := 2) dX9_shift_60 rfl ?_
              refine j_if_lt X (tgt := 104) dX9_shift_61 (by decide) (fun cv13 => ?_) (fun cv13 => ?_)
              · replace hR := (if_pos cv13).symm.trans hR
                refine j_bipush X (v := (-13)) dX9_shift_104 (by decide) ?_
                have hR := Option.some.inj hR
                exact j_iret X hr dX9_shift_106 (by rw [← hR]) (by rw [← hR])
              · replace hR := (if_neg cv13).symm.trans hR
                refine j_iload X (q := 4) dX9_shift_64 rfl ?_
                refine j_if_lt X (tgt := 104) dX9_shift_66 (by decide) (fun cv14 => ?_) (fun cv14 => ?_)
                · replace hR := (if_pos cv14).symm.trans hR
                  refine j_bipush X (v := (-13)) dX9_shift_104 (by decide) ?_
                  have hR := Option.some.inj hR
                  exact j_iret X hr dX9_shift_106 (by rw [← hR]) (by rw [← hR])
                · replace hR := (if_neg cv14).symm.trans hR
                  refine j_iload_n X (q := 2) dX9_shift_69 rfl ?_
                  refine j_i2l X dX9_shift_70 ?_
                  refine j_iload X (q := 5) dX9_shift_71 rfl ?_
                  refine j_i2l X dX9_shift_73 ?_
                  refine j_ladd X dX9_shift_74 ?_
                  refine j_aload_n X (q := 0) dX9_shift_75 rfl ?_
                  refine j_get X 0 18 hiX9 k_683 dX9_shift_76 rfl rfl (by decide) rfl ?_
                  refine j_iload_n X (q := 1) dX9_shift_79 rfl ?_
                  obtain ⟨gv15, hR⟩ := gd_some hR
                  refine j_iald X 4 0 rfl dX9_shift_80 rfl rfl gv15 ?_
                  refine j_i2l X dX9_shift_81 ?_
                  refine j_lcmp X dX9_shift_82 ?_
                  refine j_if_gt X (tgt := 104) dX9_shift_83 (by decide) (fun cv16 => ?_) (fun cv16 => ?_)
                  · replace hR := (if_pos cv16).symm.trans hR
                    refine j_bipush X (v := (-13)) dX9_shift_104 (by decide) ?_
                    have hR := Option.some.inj hR
                    exact j_iret X hr dX9_shift_106 (by rw [← hR]) (by rw [← hR])
                  · replace hR := (if_neg cv16).symm.trans hR
                    refine j_iload X (q := 4) dX9_shift_86 rfl ?_
                    refine j_i2l X dX9_shift_88 ?_
                    refine j_iload X (q := 5) dX9_shift_89 rfl ?_
                    refine j_i2l X dX9_shift_91 ?_
                    refine j_ladd X dX9_shift_92 ?_
                    refine j_aload_n X (q := 0) dX9_shift_93 rfl ?_
                    refine j_get X 0 18 hiX9 k_683 dX9_shift_94 rfl rfl (by decide) rfl ?_
                    refine j_iload_n X (q := 3) dX9_shift_97 rfl ?_
                    obtain ⟨gv17, hR⟩ := gd_some hR
                    refine j_iald X 4 0 rfl dX9_shift_98 rfl rfl gv17 ?_
                    refine j_i2l X dX9_shift_99 ?_
                    refine j_lcmp X dX9_shift_100 ?_
                    refine j_if_le X (tgt := 107) dX9_shift_101 (by decide) (fun cv18 => ?_) (fun cv18 => ?_)
                    · replace hR := (if_pos cv18).symm.trans hR
                      refine j_iconst X (v := 0) dX9_shift_107 (by decide) ?_
                      refine j_istore X (lv2 := [(6, .int 0), (0, .ref r_), (1, .int i1), (2, .int i2), (3, .int i3), (4, .int i4), (5, .int i5)]) dX9_shift_108 (by decide) rfl ?_
                      refine j_sub (lv2 := [(0, .ref r_), (1, .int i1), (2, .int i2), (3, .int i3), (4, .int i4), (5, .int i5), (6, .int 0)]) [1, 2, 3, 4, 5, 6, 0] rfl ?_
                      exact L_110 _ _ _ _ hR
                    · replace hR := (if_neg cv18).symm.trans hR
                      refine j_bipush X (v := (-13)) dX9_shift_104 (by decide) ?_
                      have hR := Option.some.inj hR
                      exact j_iret X hr dX9_shift_106 (by rw [← hR]) (by rw [← hR])
          · replace hR := (if_neg cv11).symm.trans hR
            refine j_bipush X (v := (-12)) dX9_shift_52 (by decide) ?_
            have hR := Option.some.inj hR
            exact j_iret X hr dX9_shift_54 (by rw [← hR]) (by rw [← hR])
        · replace hR := (if_pos cv8).symm.trans hR
          refine j_bipush X (v := (-11)) dX9_shift_34 (by decide) ?_
          have hR := Option.some.inj hR
          exact j_iret X hr dX9_shift_36 (by rw [← hR]) (by rw [← hR])
    · replace hR := (if_pos cv4).symm.trans hR
      refine j_iconst X (v := (-1)) dX9_shift_14 (by decide) ?_
      have hR := Option.some.inj hR
      exact j_iret X hr dX9_shift_15 (by rw [← hR]) (by rw [← hR])
