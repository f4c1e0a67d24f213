def rmX8_isSettable : Room := { frames := 1, cells := 0, slots := 0, locals := 22 }
theorem hdX8_isSettable : yX8_isSettable.cls ≠ "java/lang/invoke/MethodHandle" ∧ yX8_isSettable.cls ≠ "java/lang/invoke/VarHandle" ∧ (parseMethodDescriptor yX8_isSettable.desc).map (fun d => d.parameters.length) = some 2 := by decide +kernel
def fX8_isSettable (i0 : Int32) (i1 : Int32) : Option (Int32) :=
  if i0 < 0 then (some 0) else (if (7 : Int32) ≤ i0 then (some 0) else (if (7 : Int32) ≤ i0 then (some 0) else (gd (inb i0 7) (gd (inb i0 7) ((fX8_isBetween i1 (tbLeast i0.toNatClampNeg) (tbMost i0.toNatClampNeg)).bind fun ov6 =>
  if ov6 = 0 then (some 0) else (some 1))))))
set_option maxHeartbeats 8000000 in
set_option maxRecDepth 100000 in
theorem mX8_isSettable (l : Launch) (D : va_G) (cI cJ cB cT : ClassId) (tt : Nat → Nat) {i0 : Int32} {i1 : Int32}  {out : Int32} (h : fX8_isSettable i0 i1 = some out) :
    jM l yX8_isSettable (.code yX8_isSettable cX8_isSettable 2 (some .boolean)) rmX8_isSettable D (wTy cI cJ cB cT) tt [.int i0, .int i1] [] (some (.int out)) [] := by
  refine jM.of (by decide) (Nat.le_of_ble_eq_true rfl) ?_
  intro p e s m below meth c A X hr
  refine j_sub (lv2 := [(0, .int i0), (1, .int i1)]) [0, 1] rfl ?_
  have hR := h
  unfold fX8_isSettable at hR
  refine j_iload_n X (q := 0) dX8_isSettable_0 rfl ?_
  refine j_if_lt X (tgt := 41) dX8_isSettable_1 (by decide) (fun cv1 => ?_) (fun cv1 => ?_)
  · replace hR := (if_pos cv1).symm.trans hR
    refine j_iconst X (v := 0) dX8_isSettable_41 (by decide) ?_
    have hR := Option.some.inj hR
    exact j_zret X hr rfl dX8_isSettable_42 (by rw [← hR]) rfl
  · replace hR := (if_neg cv1).symm.trans hR
    refine j_iload_n X (q := 0) dX8_isSettable_4 rfl ?_
    refine j_gets X X.Z.1 k_293 dX8_isSettable_5 ?_
    refine j_tlen X X.Z.1 rfl dX8_isSettable_8 ?_
    refine j_icmp_ge X (tgt := 41) dX8_isSettable_9 (by decide) (fun cv2 => ?_) (fun cv2 => ?_)
    · replace hR := (if_pos cv2).symm.trans hR
      refine j_iconst X (v := 0) dX8_isSettable_41 (by decide) ?_
      have hR := Option.some.inj hR
      exact j_zret X hr rfl dX8_isSettable_42 (by rw [← hR]) rfl
    · replace hR := (if_neg cv2).symm.trans hR
      refine j_iload_n X (q := 0) dX8_isSettable_12 rfl ?_
      refine j_gets X X.Z.2.1 k_295 dX8_isSettable_13 ?_
      refine j_tlen X X.Z.2.1 rfl dX8_isSettable_16 ?_
      refine j_icmp_ge X (tgt := 41) dX8_isSettable_17 (by decide) (fun cv3 => ?_) (fun cv3 => ?_)
      · replace hR := (if_pos cv3).symm.trans hR
        refine j_iconst X (v := 0) dX8_isSettable_41 (by decide) ?_
        have hR := Option.some.inj hR
        exact j_zret X hr rfl dX8_isSettable_42 (by rw [← hR]) rfl
      · replace hR := (if_neg cv3).symm.trans hR
        refine j_iload_n X (q := 1) dX8_isSettable_20 rfl ?_
        refine j_gets X X.Z.1 k_293 dX8_isSettable_21 ?_
        refine j_iload_n X (q := 0) dX8_isSettable_24 rfl ?_
        obtain ⟨gv4, hR⟩ := gd_some hR
        refine j_ti X rfl X.Z.1 dX8_isSettable_25 gv4 ?_
        refine j_gets X X.Z.2.1 k_295 dX8_isSettable_26 ?_
        refine j_iload_n X (q := 0) dX8_isSettable_29 rfl ?_
        obtain ⟨gv5, hR⟩ := gd_some hR
        refine j_ti X rfl X.Z.2.1 dX8_isSettable_30 gv5 ?_
        obtain ⟨ov6, hov6, hR⟩ := bd_some hR
        refine j_callS X (As := [.int i1, .int (tbLeast i0.toNatClampNeg), .int (tbMost i0.toNatClampNeg)]) (rest := []) (ws2 := []) (mX8_isBetween l D cI cJ cB cT tt  hov6) [] [] k_299 k_297 k_298 k_38 hdX8_isBetween (by decide) (Nat.le_of_ble_eq_true rfl) dX8_isSettable_31 (by decide) rfl rfl (by decide) rfl rfl ?_
        refine j_if_eq X (tgt := 41) dX8_isSettable_34 (by decide) (fun cv7 => ?_) (fun cv7 => ?_)
        · replace hR := (if_pos cv7).symm.trans hR
          refine j_iconst X (v := 0) dX8_isSettable_41 (by decide) ?_
          have hR := Option.some.inj hR
          exact j_zret X hr rfl dX8_isSettable_42 (by rw [← hR]) rfl
        · replace hR := (if_neg cv7).symm.trans hR
          refine j_iconst X (v := 1) dX8_isSettable_37 (by decide) ?_
          refine j_goto X (tgt := 42) dX8_isSettable_38 (by decide) ?_
          have hR := Option.some.inj hR
          exact j_zret X hr rfl dX8_isSettable_42 (by rw [← hR]) rfl

def rmX8_set : Room := { frames := 3, cells := 0, slots := 0, locals := 65 }
theorem hdX8_set : yX8_set.cls ≠ "java/lang/invoke/MethodHandle" ∧ yX8_set.cls ≠ "java/lang/invoke/VarHandle" ∧ (parseMethodDescriptor yX8_set.desc).map (fun d => d.parameters.length) = some 2 := by decide +kernel
def fX8_set (i1 : Int32) (i2 : Int32) (ik : Int32) (b_nB : Nat → Int32) (se_nB : Int64) (z_nB : Int32) (f_nBA : Nat → Int64) (k_nBP : Int32) : Option (Int32 × (Nat → Int32) × Int64 × (Nat → Int64)) :=
  if i1 < 0 then (some ((-1000), b_nB, se_nB, f_nBA)) else (if i1 ≤ 6 then ((fX8_isSettable i1 i2).bind fun ov3 =>
  if ov3 = 0 then (some ((-1001), b_nB, se_nB, f_nBA)) else ((fX0_valueOf i1 b_nB se_nB z_nB k_nBP).bind fun ov5 =>
  (fX0_putByHand i1 i2 b_nB se_nB z_nB f_nBA).bind fun ov6 =>
  some (ov5, ov6.1, ov6.2.1, ov6.2.2))) else (some ((-1000), b_nB, se_nB, f_nBA)))
set_option maxHeartbeats 8000000 in
set_option maxRecDepth 100000 in
theorem mX8_set (l : Launch) (D : va_G) (cI cJ cB cT : ClassId) (tt : Nat → Nat) (r_ r_n r_k r_h r_e r_x r_q r_nB r_nT r_nS r_nK r_nBP r_nBA r_nBPt r_nBPw r_nBPs : Nat) {i1 : Int32} {i2 : Int32} {ik : Int32} {b_nB : Nat → Int32} {se_nB : Int64} {z_nB : Int32} {f_nBA : Nat → Int64} {k_nBP : Int32} {out : Int32 × (Nat → Int32) × Int64 × (Nat → Int64)} (h : fX8_set i1 i2 ik b_nB se_nB z_nB f_nBA k_nBP = some out) :
    jM l yX8_set (.code yX8_set cX8_set 4 (some .int)) rmX8_set D (wTy cI cJ cB cT) tt [.ref r_, .int i1, .int i2] [cWB r_ r_n r_k r_h r_e r_x r_q ik, cWho r_n r_nB r_nT r_nS r_nK, cBal r_nB r_nBP r_nBA b_nB se_nB z_nB, cJar cJ r_nBA 4 f_nBA, cPus r_nBP r_nBPt r_nBPw r_nBPs k_nBP] (some (.int out.1)) [cWB r_ r_n r_k r_h r_e r_x r_q ik, cWho r_n r_nB r_nT r_nS r_nK, cBal r_nB r_nBP r_nBA out.2.1 out.2.2.1 z_nB, cJar cJ r_nBA 4 out.2.2.2, cPus r_nBP r_nBPt r_nBPw r_nBPs k_nBP] := by
  refine jM.of (by decide) (Nat.le_of_ble_eq_true rfl) ?_
  intro p e s m below meth c A X hr
  refine j_sub (lv2 := [(0, .ref r_), (1, .int i1), (2, .int i2)]) [0, 1, 2] rfl ?_
  have hR := h
  unfold fX8_set at hR
  refine j_iload_n X (q := 1) dX8_set_0 rfl ?_
  refine j_if_lt X (tgt := 10) dX8_set_1 (by decide) (fun cv1 => ?_) (fun cv1 => ?_)
  · replace hR := (if_pos cv1).symm.trans hR
    refine j_sipush X (v := (-1000)) dX8_set_10 (by decide) ?_
    have hR := Option.some.inj hR
    exact j_iret X hr dX8_set_13 (by rw [← hR]) (by rw [← hR])
  · replace hR := (if_neg cv1).symm.trans hR
    refine j_iload_n X (q := 1) dX8_set_4 rfl ?_
    refine j_bipush X (v := 6) dX8_set_5 (by decide) ?_
    refine j_icmp_le X (tgt := 14) dX8_set_7 (by decide) (fun cv2 => ?_) (fun cv2 => ?_)
    · replace hR := (if_pos cv2).symm.trans hR
      refine j_iload_n X (q := 1) dX8_set_14 rfl ?_
      refine j_iload_n X (q := 2) dX8_set_15 rfl ?_
      obtain ⟨ov3, hov3, hR⟩ := bd_some hR
      refine j_callS X (As := [.int i1, .int i2]) (rest := []) (ws2 := [cWB r_ r_n r_k r_h r_e r_x r_q ik, cWho r_n r_nB r_nT r_nS r_nK, cBal r_nB r_nBP r_nBA b_nB se_nB z_nB, cJar cJ r_nBA 4 f_nBA, cPus r_nBP r_nBPt r_nBPw r_nBPs k_nBP]) (mX8_isSettable l D cI cJ cB cT tt  hov3) [] [.inl 0, .inl 1, .inl 2, .inl 3, .inl 4] k_292 k_290 k_291 k_38 hdX8_isSettable (by decide) (Nat.le_of_ble_eq_true rfl) dX8_set_16 (by decide) rfl rfl (by decide) rfl rfl ?_
      refine j_if_ne X (tgt := 26) dX8_set_19 (by decide) (fun cv4 => ?_) (fun cv4 => ?_)
      · replace hR := (if_neg cv4).symm.trans hR
        refine j_aload_n X (q := 0) dX8_set_26 rfl ?_
        refine j_get X 0 0 hiX8 k_264 dX8_set_27 rfl rfl (by decide) rfl ?_
        refine j_get X 1 0 hiX7 k_185 dX8_set_30 rfl rfl (by decide) rfl ?_
        refine j_iload_n X (q := 1) dX8_set_33 rfl ?_
        obtain ⟨ov5, hov5, hR⟩ := bd_some hR
        refine j_callV X (As := [.int i1]) (rest := []) (ws2 := [cWB r_ r_n r_k r_h r_e r_x r_q ik, cWho r_n r_nB r_nT r_nS r_nK, cBal r_nB r_nBP r_nBA b_nB se_nB z_nB, cJar cJ r_nBA 4 f_nBA, cPus r_nBP r_nBPt r_nBPw r_nBPs k_nBP]) (q0 := 2) (ci := 0) (mX0_valueOf l D cI cJ cB cT tt r_nB r_nBP r_nBA r_nBPt r_nBPw r_nBPs hov5) [2, 4] [.inl 0, .inl 1, .inr 0, .inl 3, .inr 1] k_303 k_300 k_301 k_302 rfl rfl k_40 hdX0_valueOf (by decide) (Nat.le_of_ble_eq_true rfl) dX8_set_34 (by decide) rfl rfl (by decide) rfl rfl ?_
        refine j_istore_n X (lv2 := [(3, .int ov5), (0, .ref r_), (1, .int i1), (2, .int i2)]) dX8_set_37 (by decide) rfl ?_
        refine j_aload_n X (q := 1) dX8_set_38 rfl ?_
        refine j_get X 0 0 hiX8 k_264 dX8_set_39 rfl rfl (by decide) rfl ?_
        refine j_get X 1 0 hiX7 k_185 dX8_set_42 rfl rfl (by decide) rfl ?_
        refine j_iload_n X (q := 2) dX8_set_45 rfl ?_
        refine j_iload_n X (q := 3) dX8_set_46 rfl ?_
        obtain ⟨ov6, hov6, hR⟩ := bd_some hR
        refine j_callV X (As := [.int i1, .int i2]) (rest := []) (ws2 := [cWB r_ r_n r_k r_h r_e r_x r_q ik, cWho r_n r_nB r_nT r_nS r_nK, cBal r_nB r_nBP r_nBA ov6.1 ov6.2.1 z_nB, cJar cJ r_nBA 4 ov6.2.2, cPus r_nBP r_nBPt r_nBPw r_nBPs k_nBP]) (q0 := 2) (ci := 0) (mX0_putByHand l D cI cJ cB cT tt r_nB r_nBP r_nBA hov6) [2, 3] [.inl 0, .inl 1, .inr 0, .inr 1, .inl 4] k_307 k_304 k_305 k_306 rfl rfl k_40 hdX0_putByHand (by decide) (Nat.le_of_ble_eq_true rfl) dX8_set_47 (by decide) rfl rfl (by decide) rfl rfl ?_
        refine j_iload_n X (q := 0) dX8_set_50 rfl ?_
        have hR := Option.some.inj hR
        exact j_iret X hr dX8_set_51 (by rw [← hR]) (by rw [← hR])
      · replace hR := (if_pos cv4).symm.trans hR
        refine j_sipush X (v := (-1001)) dX8_set_22 (by decide) ?_
        have hR := Option.some.inj hR
        exact j_iret X hr dX8_set_25 (by rw [← hR]) (by rw [← hR])
    · replace hR := (if_neg cv2).symm.trans hR
      refine j_sipush X (v := (-1000)) dX8_set_10 (by decide) ?_
      have hR := Option.some.inj hR
      exact j_iret X hr dX8_set_13 (by rw [← hR]) (by rw [← hR])

def rmX8_told : Room := { frames := 1, cells := 0, slots := 0, locals := 21 }
theorem hdX8_told : yX8_told.cls ≠ "java/lang/invoke/MethodHandle" ∧ yX8_told.cls ≠ "java/lang/invoke/VarHandle" ∧ (parseMethodDescriptor yX8_told.desc).map (fun d => d.parameters.length) = some 1 := by decide +kernel
def fX8_told (i1 : Int32) (ik : Int32) (b_nB : Nat → Int32) (se_nB : Int64) (z_nB : Int32) (k_nT : Int32) (k_nBP : Int32) : Option (Int32) :=
  if i1 < 0 then (some (-1000)) else (if i1 ≤ 12 then (if i1 = 12 then (some k_nT) else ((fX0_valueOf i1 b_nB se_nB z_nB k_nBP).bind fun ov4 =>
  some ov4)) else (some (-1000)))
set_option maxHeartbeats 8000000 in
set_option maxRecDepth 100000 in
theorem mX8_told (l : Launch) (D : va_G) (cI cJ cB cT : ClassId) (tt : Nat → Nat) (r_ r_n r_k r_h r_e r_x r_q r_nB r_nT r_nS r_nK r_nBP r_nBA r_nTf r_nBPt r_nBPw r_nBPs : Nat) {i1 : Int32} {ik : Int32} {b_nB : Nat → Int32} {se_nB : Int64} {z_nB : Int32} {k_nT : Int32} {k_nBP : Int32} {out : Int32} (h : fX8_told i1 ik b_nB se_nB z_nB k_nT k_nBP = some out) :
    jM l yX8_told (.code yX8_told cX8_told 2 (some .int)) rmX8_told D (wTy cI cJ cB cT) tt [.ref r_, .int i1] [cWB r_ r_n r_k r_h r_e r_x r_q ik, cWho r_n r_nB r_nT r_nS r_nK, cBal r_nB r_nBP r_nBA b_nB se_nB z_nB, cTra r_nT r_nTf k_nT, cPus r_nBP r_nBPt r_nBPw r_nBPs k_nBP] (some (.int out)) [cWB r_ r_n r_k r_h r_e r_x r_q ik, cWho r_n r_nB r_nT r_nS r_nK, cBal r_nB r_nBP r_nBA b_nB se_nB z_nB, cTra r_nT r_nTf k_nT, cPus r_nBP r_nBPt r_nBPw r_nBPs k_nBP] := by
  refine jM.of (by decide) (Nat.le_of_ble_eq_true rfl) ?_
  intro p e s m below meth c A X hr
  refine j_sub (lv2 := [(0, .ref r_), (1, .int i1)]) [0, 1] rfl ?_
  have hR := h
  unfold fX8_told at hR
  refine j_iload_n X (q := 1) dX8_told_0 rfl ?_
  refine j_if_lt X (tgt := 10) dX8_told_1 (by decide) (fun cv1 => ?_) (fun cv1 => ?_)
  · replace hR := (if_pos cv1).symm.trans hR
    refine j_sipush X (v := (-1000)) dX8_told_10 (by decide) ?_
    have hR := Option.some.inj hR
    exact j_iret X hr dX8_told_13 (by rw [← hR]) rfl
  · replace hR := (if_neg cv1).symm.trans hR
    refine j_iload_n X (q := 1) dX8_told_4 rfl ?_
    refine j_bipush X (v := 12) dX8_told_5 (by decide) ?_
    refine j_icmp_le X (tgt := 14) dX8_told_7 (by decide) (fun cv2 => ?_) (fun cv2 => ?_)
    · replace hR := (if_pos cv2).symm.trans hR
      refine j_iload_n X (q := 1) dX8_told_14 rfl ?_
      refine j_bipush X (v := 12) dX8_told_15 (by decide) ?_
      refine j_icmp_ne X (tgt := 33) dX8_told_17 (by decide) (fun cv3 => ?_) (fun cv3 => ?_)
      · replace hR := (if_neg cv3).symm.trans hR
        refine j_aload_n X (q := 0) dX8_told_33 rfl ?_
        refine j_get X 0 0 hiX8 k_264 dX8_told_34 rfl rfl (by decide) rfl ?_
        refine j_get X 1 0 hiX7 k_185 dX8_told_37 rfl rfl (by decide) rfl ?_
        refine j_iload_n X (q := 1) dX8_told_40 rfl ?_
        obtain ⟨ov4, hov4, hR⟩ := bd_some hR
        refine j_callV X (As := [.int i1]) (rest := []) (ws2 := [cWB r_ r_n r_k r_h r_e r_x r_q ik, cWho r_n r_nB r_nT r_nS r_nK, cBal r_nB r_nBP r_nBA b_nB se_nB z_nB, cTra r_nT r_nTf k_nT, cPus r_nBP r_nBPt r_nBPw r_nBPs k_nBP]) (q0 := 2) (ci := 0) (mX0_valueOf l D cI cJ cB cT tt r_nB r_nBP r_nBA r_nBPt r_nBPw r_nBPs hov4) [2, 4] [.inl 0, .inl 1, .inr 0, .inl 3, .inr 1] k_303 k_300 k_301 k_302 rfl rfl k_40 hdX0_valueOf (by decide) (Nat.le_of_ble_eq_true rfl) dX8_told_41 (by decide) rfl rfl (by decide) rfl rfl ?_
        have hR := Option.some.inj hR
        exact j_iret X hr dX8_told_44 (by rw [← hR]) rfl
      · replace hR := (if_pos cv3).symm.trans hR
        refine j_aload_n X (q := 0) dX8_told_20 rfl ?_
        refine j_get X 0 0 hiX8 k_264 dX8_told_21 rfl rfl (by decide) rfl ?_
        refine j_get X 1 1 hiX7 k_187 dX8_told_24 rfl rfl (by decide) rfl ?_
        refine j_get X 3 1 hiX6 k_159 dX8_told_27 rfl rfl (by decide) rfl ?_
        refine j_goto X (tgt := 44) dX8_told_30 (by decide) ?_
        have hR := Option.some.inj hR
        exact j_iret X hr dX8_told_44 (by rw [← hR]) rfl
    · replace hR := (if_neg cv2).symm.trans hR
      refine j_sipush X (v := (-1000)) dX8_told_10 (by decide) ?_
      have hR := Option.some.inj hR
      exact j_iret X hr dX8_told_13 (by rw [← hR]) rfl

def rmX8_isPushable : Room := { frames := 1, cells := 0, slots := 0, locals := 22 }
theorem hdX8_isPushable : yX8_isPushable.cls ≠ "java/lang/invoke/MethodHandle" ∧ yX8_isPushable.cls ≠ "java/lang/invoke/VarHandle" ∧ (parseMethodDescriptor yX8_isPushable.desc).map (fun d => d.parameters.length) = some 2 := by decide +kernel
def fX8_isPushable (i0 : Int32) (i1 : Int32) : Option (Int32) :=
  if i0 < 0 then (some 0) else (if (4 : Int32) ≤ i0 then (some 0) else (if (4 : Int32) ≤ i0 then (some 0) else (gd (inb i0 4) (gd (inb i0 4) ((fX8_isBetween i1 (tbPLeast i0.toNatClampNeg) (tbPMost i0.toNatClampNeg)).bind fun ov6 =>
  if ov6 = 0 then (some 0) else (some 1))))))
set_option maxHeartbeats 8000000 in
set_option maxRecDepth 100000 in
theorem mX8_isPushable (l : Launch) (D : va_G) (cI cJ cB cT : ClassId) (tt : Nat → Nat) {i0 : Int32} {i1 : Int32}  {out : Int32} (h : fX8_isPushable i0 i1 = some out) :
    jM l yX8_isPushable (.code yX8_isPushable cX8_isPushable 2 (some .boolean)) rmX8_isPushable D (wTy cI cJ cB cT) tt [.int i0, .int i1] [] (some (.int out)) [] := by
  refine jM.of (by decide) (Nat.le_of_ble_eq_true rfl) ?_
  intro p e s m below meth c A X hr
  refine j_sub (lv2 := [(0, .int i0), (1, .int i1)]) [0, 1] rfl ?_
  have hR := h
  unfold fX8_isPushable at hR
  refine j_iload_n X (q := 0) dX8_isPushable_0 rfl ?_
  refine j_if_lt X (tgt := 41) dX8_isPushable_1 (by decide) (fun cv1 => ?_) (fun cv1 => ?_)
  · replace hR := (if_pos cv1).symm.trans hR
    refine j_iconst X (v := 0) dX8_isPushable_41 (by decide) ?_
    have hR := Option.some.inj hR
    exact j_zret X hr rfl dX8_isPushable_42 (by rw [← hR]) rfl
  · replace hR := (if_neg cv1).symm.trans hR
    refine j_iload_n X (q := 0) dX8_isPushable_4 rfl ?_
    refine j_gets X X.Z.2.2.2.1 k_333 dX8_isPushable_5 ?_
    refine j_tlen X X.Z.2.2.2.1 rfl dX8_isPushable_8 ?_
    refine j_icmp_ge X (tgt := 41) dX8_isPushable_9 (by decide) (fun cv2 => ?_) (fun cv2 => ?_)
    · replace hR := (if_pos cv2).symm.trans hR
      refine j_iconst X (v := 0) dX8_isPushable_41 (by decide) ?_
      have hR := Option.some.inj hR
      exact j_zret X hr rfl dX8_isPushable_42 (by rw [← hR]) rfl
    · replace hR := (if_neg cv2).symm.trans hR
      refine j_iload_n X (q := 0) dX8_isPushable_12 rfl ?_
      refine j_gets X X.Z.2.2.2.2.1 k_335 dX8_isPushable_13 ?_
      refine j_tlen X X.Z.2.2.2.2.1 rfl dX8_isPushable_16 ?_
      refine j_icmp_ge X (tgt := 41) dX8_isPushable_17 (by decide) (fun cv3 => ?_) (fun cv3 => ?_)
      · replace hR := (if_pos cv3).symm.trans hR
        refine j_iconst X (v := 0) dX8_isPushable_41 (by decide) ?_
        have hR := Option.some.inj hR
        exact j_zret X hr rfl dX8_isPushable_42 (by rw [← hR]) rfl
      · replace hR := (if_neg cv3).symm.trans hR
        refine j_iload_n X (q := 1) dX8_isPushable_20 rfl ?_
        refine j_gets X X.Z.2.2.2.1 k_333 dX8_isPushable_21 ?_
        refine j_iload_n X (q := 0) dX8_isPushable_24 rfl ?_
        obtain ⟨gv4, hR⟩ := gd_some hR
        refine j_ti X rfl X.Z.2.2.2.1 dX8_isPushable_25 gv4 ?_
        refine j_gets X X.Z.2.2.2.2.1 k_335 dX8_isPushable_26 ?_
        refine j_iload_n X (q := 0) dX8_isPushable_29 rfl ?_
        obtain ⟨gv5, hR⟩ := gd_some hR
        refine j_ti X rfl X.Z.2.2.2.2.1 dX8_isPushable_30 gv5 ?_
        obtain ⟨ov6, hov6, hR⟩ := bd_some hR
        refine j_callS X (As := [.int i1, .int (tbPLeast i0.toNatClampNeg), .int (tbPMost i0.toNatClampNeg)]) (rest := []) (ws2 := []) (mX8_isBetween l D cI cJ cB cT tt  hov6) [] [] k_299 k_297 k_298 k_38 hdX8_isBetween (by decide) (Nat.le_of_ble_eq_true rfl) dX8_isPushable_31 (by decide) rfl rfl (by decide) rfl rfl ?_
        refine j_if_eq X (tgt := 41) dX8_isPushable_34 (by decide) (fun cv7 => ?_) (fun cv7 => ?_)
        · replace hR := (if_pos cv7).symm.trans hR
          refine j_iconst X (v := 0) dX8_isPushable_41 (by decide) ?_
          have hR := Option.some.inj hR
          exact j_zret X hr rfl dX8_isPushable_42 (by rw [← hR]) rfl
        · replace hR := (if_neg cv7).symm.trans hR
          refine j_iconst X (v := 1) dX8_isPushable_37 (by decide) ?_
          refine j_goto X (tgt := 42) dX8_isPushable_38 (by decide) ?_
          have hR := Option.some.inj hR
          exact j_zret X hr rfl dX8_isPushable_42 (by rw [← hR]) rfl

def rmX8_push : Room := { frames := 2, cells := 0, slots := 0, locals := 43 }
theorem hdX8_push : yX8_push.cls ≠ "java/lang/invoke/MethodHandle" ∧ yX8_push.cls ≠ "java/lang/invoke/VarHandle" ∧ (parseMethodDescriptor yX8_push.desc).map (fun d => d.parameters.length) = some 3 := by decide +kernel
def fX8_push (i1 : Int32) (i2 : Int32) (i3 : Int32) (ik : Int32) (b_nB : Nat → Int32) (se_nB : Int64) (z_nB : Int32) (k_nBP : Int32) (f_nBPs : Nat → Int32) (f_nBPt : Nat → Int32) (f_nBPw : Nat → Int32) : Option (Int32 × Int32 × (Nat → Int32) × (Nat → Int32) × (Nat → Int32)) :=
  if i2 < 0 then (some ((-1), k_nBP, f_nBPs, f_nBPt, f_nBPw)) else (if i2 ≤ 3 then ((fX8_isBetween i1 (b_nB 8) 99999).bind fun ov3 =>
  if ov3 = 0 then (some ((-2), k_nBP, f_nBPs, f_nBPt, f_nBPw)) else ((fX8_isPushable i2 i3).bind fun ov5 =>
  if ov5 = 0 then (some ((-2), k_nBP, f_nBPs, f_nBPt, f_nBPw)) else (if k_nBP < 8 then ((fX2_add i1 i2 i3 k_nBP f_nBPs f_nBPt f_nBPw).bind fun ov8 =>
  some (ov8.1, ov8.1, ov8.2.1, ov8.2.2.1, ov8.2.2.2)) else (some ((-4), k_nBP, f_nBPs, f_nBPt, f_nBPw))))) else (some ((-1), k_nBP, f_nBPs, f_nBPt, f_nBPw)))
set_option maxHeartbeats 8000000 in
set_option maxRecDepth 100000 in
theorem mX8_push (l : Launch) (D : va_G) (cI cJ cB cT : ClassId) (tt : Nat → Nat) (r_ r_n r_k r_h r_e r_x r_q r_nB r_nT r_nS r_nK r_nBP r_nBA r_nBPt r_nBPw r_nBPs : Nat) {i1 : Int32} {i2 : Int32} {i3 : Int32} {ik : Int32} {b_nB : Nat → Int32} {se_nB : Int64} {z_nB : Int32} {k_nBP : Int32} {f_nBPs : Nat → Int32} {f_nBPt : Nat → Int32} {f_nBPw : Nat → Int32} {out : Int32 × Int32 × (Nat → Int32) × (Nat → Int32) × (Nat → Int32)} (h : fX8_push i1 i2 i3 ik b_nB se_nB z_nB k_nBP f_nBPs f_nBPt f_nBPw = some out) :
    jM l yX8_push (.code yX8_push cX8_push 4 (some .int)) rmX8_push D (wTy cI cJ cB cT) tt [.ref r_, .int i1, .int i2, .int i3] [cWB r_ r_n r_k r_h r_e r_x r_q ik, cWho r_n r_nB r_nT r_nS r_nK, cBal r_nB r_nBP r_nBA b_nB se_nB z_nB, cPus r_nBP r_nBPt r_nBPw r_nBPs k_nBP, cIar cI r_nBPs 8 f_nBPs, cIar cI r_nBPt 8 f_nBPt, cIar cI r_nBPw 8 f_nBPw] (some (.int out.1)) [cWB r_ r_n r_k r_h r_e r_x r_q ik, cWho r_n r_nB r_nT r_nS r_nK, cBal r_nB r_nBP r_nBA b_nB se_nB z_nB, cPus r_nBP r_nBPt r_nBPw r_nBPs out.2.1, cIar cI r_nBPs 8 out.2.2.1, cIar cI r_nBPt 8 out.2.2.2.1, cIar cI r_nBPw 8 out.2.2.2.2] := by
  refine jM.of (by decide) (Nat.le_of_ble_eq_true rfl) ?_
  intro p e s m below meth c A X hr
  refine j_sub (lv2 := [(0, .ref r_), (1, .int i1), (2, .int i2), (3, .int i3)]) [0, 1, 2, 3] rfl ?_
  have hR := h
  unfold fX8_push at hR
  refine j_iload_n X (q := 2) dX8_push_0 rfl ?_
  refine j_if_lt X (tgt := 9) dX8_push_1 (by decide) (fun cv1 => ?_) (fun cv1 => ?_)
  · replace hR := (if_pos cv1).symm.trans hR
    refine j_iconst X (v := (-1)) dX8_push_9 (by decide) ?_
    have hR := Option.some.inj hR
    exact j_iret X hr dX8_push_10 (by rw [← hR]) (by rw [← hR])
  · replace hR := (if_neg cv1).symm.trans hR
    refine j_iload_n X (q := 2) dX8_push_4 rfl ?_
    refine j_iconst X (v := 3) dX8_push_5 (by decide) ?_
    refine j_icmp_le X (tgt := 11) dX8_push_6 (by decide) (fun cv2 => ?_) (fun cv2 => ?_)
    · replace hR := (if_pos cv2).symm.trans hR
      refine j_iload_n X (q := 1) dX8_push_11 rfl ?_
      refine j_aload_n X (q := 0) dX8_push_12 rfl ?_
      refine j_get X 0 0 hiX8 k_264 dX8_push_13 rfl rfl (by decide) rfl ?_
      refine j_get X 1 0 hiX7 k_185 dX8_push_16 rfl rfl (by decide) rfl ?_
      refine j_get X 2 5 hiX0 k_106 dX8_push_19 rfl rfl (by decide) rfl ?_
      refine j_ldc X k_329 dX8_push_22 ?_
      obtain ⟨ov3, hov3, hR⟩ := bd_some hR
      refine j_callS X (As := [.int i1, .int (b_nB 8), .int 99999]) (rest := []) (ws2 := [cWB r_ r_n r_k r_h r_e r_x r_q ik, cWho r_n r_nB r_nT r_nS r_nK, cBal r_nB r_nBP r_nBA b_nB se_nB z_nB, cPus r_nBP r_nBPt r_nBPw r_nBPs k_nBP, cIar cI r_nBPs 8 f_nBPs, cIar cI r_nBPt 8 f_nBPt, cIar cI r_nBPw 8 f_nBPw]) (mX8_isBetween l D cI cJ cB cT tt  hov3) [] [.inl 0, .inl 1, .inl 2, .inl 3, .inl 4, .inl 5, .inl 6] k_299 k_297 k_298 k_38 hdX8_isBetween (by decide) (Nat.le_of_ble_eq_true rfl) dX8_push_24 (by decide) rfl rfl (by decide) rfl rfl ?_
      refine j_if_eq X (tgt := 38) dX8_push_27 (by decide) (fun cv4 => ?_) (fun cv4 => ?_)
      · replace hR := (if_pos cv4).symm.trans hR
        refine j_bipush X (v := (-2)) dX8_push_38 (by decide) ?_
        have hR := Option.some.inj hR
        exact j_iret X hr dX8_push_40 (by rw [← hR]) (by rw [← hR])
      · replace hR := (if_neg cv4).symm.trans hR
        refine j_iload_n X (q := 2) dX8_push_30 rfl ?_
        refine j_iload_n X (q := 3) dX8_push_31 rfl ?_
        obtain ⟨ov5, hov5, hR⟩ := bd_some hR
        refine j_callS X (As := [.int i2, .int i3]) (rest := []) (ws2 := [cWB r_ r_n r_k r_h r_e r_x r_q ik, cWho r_n r_nB r_nT r_nS r_nK, cBal r_nB r_nBP r_nBA b_nB se_nB z_nB, cPus r_nBP r_nBPt r_nBPw r_nBPs k_nBP, cIar cI r_nBPs 8 f_nBPs, cIar cI r_nBPt 8 f_nBPt, cIar cI r_nBPw 8 f_nBPw]) (mX8_isPushable l D cI cJ cB cT tt  hov5) [] [.inl 0, .inl 1, .inl 2, .inl 3, .inl 4, .inl 5, .inl 6] k_332 k_330 k_331 k_38 hdX8_isPushable (by decide) (Nat.le_of_ble_eq_true rfl) dX8_push_32 (by decide) rfl rfl (by decide) rfl rfl ?_
        refine j_if_ne X (tgt := 41) dX8_push_35 (by decide) (fun cv6 => ?_) (fun cv6 => ?_)
        · replace hR := (if_neg cv6).symm.trans hR
          refine j_aload_n X (q := 0) dX8_push_41 rfl ?_
          refine j_get X 0 0 hiX8 k_264 dX8_push_42 rfl rfl (by decide) rfl ?_
          refine j_get X 1 0 hiX7 k_185 dX8_push_45 rfl rfl (by decide) rfl ?_
          refine j_get X 2 11 hiX0 k_114 dX8_push_48 rfl rfl (by decide) rfl ?_
          refine j_get X 3 3 hiX2 k_87 dX8_push_51 rfl rfl (by decide) rfl ?_
          refine j_bipush X (v := 8) dX8_push_54 (by decide) ?_
          refine j_icmp_lt X (tgt := 62) dX8_push_56 (by decide) (fun cv7 => ?_) (fun cv7 => ?_)
          · replace hR := (if_pos cv7).symm.trans hR
            refine j_aload_n X (q := 0) dX8_push_62 rfl ?_
            refine j_get X 0 0 hiX8 k_264 dX8_push_63 rfl rfl (by decide) rfl ?_
            refine j_get X 1 0 hiX7 k_185 dX8_push_66 rfl rfl (by decide) rfl ?_
            refine j_get X 2 11 hiX0 k_114 dX8_push_69 rfl rfl (by decide) rfl ?_
            refine j_iload_n X (q := 1) dX8_push_72 rfl ?_
            refine j_iload_n X (q := 2) dX8_push_73 rfl ?_
            refine j_iload_n X (q := 3) dX8_push_74 rfl ?_
            obtain ⟨ov8, hov8, hR⟩ := bd_some hR
            refine j_callV X (As := [.int i1, .int i2, .int i3]) (rest := []) (ws2 := [cWB r_ r_n r_k r_h r_e r_x r_q ik, cWho r_n r_nB r_nT r_nS r_nK, cBal r_nB r_nBP r_nBA b_nB se_nB z_nB, cPus r_nBP r_nBPt r_nBPw r_nBPs ov8.1, cIar cI r_nBPs 8 ov8.2.1, cIar cI r_nBPt 8 ov8.2.2.1, cIar cI r_nBPw 8 ov8.2.2.2]) (q0 := 3) (ci := 2) (mX2_add l D cI cJ cB cT tt r_nBP r_nBPt r_nBPw r_nBPs hov8) [3, 4, 5, 6] [.inl 0, .inl 1, .inl 2, .inr 0, .inr 1, .inr 2, .inr 3] k_340 k_337 k_338 k_339 rfl rfl k_41 hdX2_add (by decide) (Nat.le_of_ble_eq_true rfl) dX8_push_75 (by decide) rfl rfl (by decide) rfl rfl ?_
            refine j_aload_n X (q := 0) dX8_push_78 rfl ?_
            refine j_get X 0 0 hiX8 k_264 dX8_push_79 rfl rfl (by decide) rfl ?_
            refine j_get X 1 0 hiX7 k_185 dX8_push_82 rfl rfl (by decide) rfl ?_
            refine j_get X 2 11 hiX0 k_114 dX8_push_85 rfl rfl (by decide) rfl ?_
            refine j_get X 3 3 hiX2 k_87 dX8_push_88 rfl rfl (by decide) rfl ?_
            have hR := Option.some.inj hR
            exact j_iret X hr dX8_push_91 (by rw [← hR]) (by rw [← hR])
          · replace hR := (if_neg cv7).symm.trans hR
            refine j_bipush X (v := (-4)) dX8_push_59 (by decide) ?_
            have hR := Option.some.inj hR
            exact j_iret X hr dX8_push_61 (by rw [← hR]) (by rw [← hR])
        · replace hR := (if_pos cv6).symm.trans hR
          refine j_bipush X (v := (-2)) dX8_push_38 (by decide) ?_
          have hR := Option.some.inj hR
          exact j_iret X hr dX8_push_40 (by rw [← hR]) (by rw [← hR])
    · replace hR := (if_neg cv2).symm.trans hR
      refine j_iconst X (v := (-1)) dX8_push_9 (by decide) ?_
      have hR := Option.some.inj hR
      exact j_iret X hr dX8_push_10 (by rw [← hR]) (by rw [← hR])

def rmX8_pushOf : Room := { frames := 0, cells := 0, slots := 0, locals := 0 }
theorem hdX8_pushOf : yX8_pushOf.cls ≠ "java/lang/invoke/MethodHandle" ∧ yX8_pushOf.cls ≠ "java/lang/invoke/VarHandle" ∧ (parseMethodDescriptor yX8_pushOf.desc).map (fun d => d.parameters.length) = some 2 := by decide +kernel
def fX8_pushOf (i1 : Int32) (i2 : Int32) (ik : Int32) (b_nB : Nat → Int32) (se_nB : Int64) (z_nB : Int32) (k_nBP : Int32) (f_nBPs : Nat → Int32) (f_nBPt : Nat → Int32) (f_nBPw : Nat → Int32) : Option (Int32) :=
  if i1 < 0 then (some (-1000)) else (if k_nBP ≤ i1 then (some (-1000)) else (if i1 < 8 then (if i2 = 0 then (gd (inb i1 8) (some (f_nBPt i1.toNatClampNeg))) else (if i2 = 1 then (gd (inb i1 8) (some (f_nBPw i1.toNatClampNeg))) else (if i2 = 2 then (gd (inb i1 8) (some (f_nBPs i1.toNatClampNeg))) else (some (-1000))))) else (some (-1000))))
set_option maxHeartbeats 8000000 in
set_option maxRecDepth 100000 in
theorem mX8_pushOf (l : Launch) (D : va_G) (cI cJ cB cT : ClassId) (tt : Nat → Nat) (r_ r_n r_k r_h r_e r_x r_q r_nB r_nT r_nS r_nK r_nBP r_nBA r_nBPt r_nBPw r_nBPs : Nat) {i1 : Int32} {i2 : Int32} {ik : Int32} {b_nB : Nat → Int32} {se_nB : Int64} {z_nB : Int32} {k_nBP : Int32} {f_nBPs : Nat → Int32} {f_nBPt : Nat → Int32} {f_nBPw : Nat → Int32} {out : Int32} (h : fX8_pushOf i1 i2 ik b_nB se_nB z_nB k_nBP f_nBPs f_nBPt f_nBPw = some out) :
    jM l yX8_pushOf (.code yX8_pushOf cX8_pushOf 4 (some .int)) rmX8_pushOf D (wTy cI cJ cB cT) tt [.ref r_, .int i1, .int i2] [cWB r_ r_n r_k r_h r_e r_x r_q ik, cWho r_n r_nB r_nT r_nS r_nK, cBal r_nB r_nBP r_nBA b_nB se_nB z_nB, cPus r_nBP r_nBPt r_nBPw r_nBPs k_nBP, cIar cI r_nBPs 8 f_nBPs, cIar cI r_nBPt 8 f_nBPt, cIar cI r_nBPw 8 f_nBPw] (some (.int out)) [cWB r_ r_n r_k r_h r_e r_x r_q ik, cWho r_n r_nB r_nT r_nS r_nK, cBal r_nB r_nBP r_nBA b_nB se_nB z_nB, cPus r_nBP r_nBPt r_nBPw r_nBPs k_nBP, cIar cI r_nBPs 8 f_nBPs, cIar cI r_nBPt 8 f_nBPt, cIar cI r_nBPw 8 f_nBPw] := by
  refine jM.of (by decide) (Nat.le_of_ble_eq_true rfl) ?_
  intro p e s m below meth c A X hr
  refine j_sub (lv2 := [(0, .ref r_), (1, .int i1), (2, .int i2)]) [0, 1, 2] rfl ?_
  have hR := h
  unfold fX8_pushOf at hR
  refine j_aload_n X (q := 0) dX8_pushOf_0 rfl ?_
  refine j_get X 0 0 hiX8 k_264 dX8_pushOf_1 rfl rfl (by decide) rfl ?_
  refine j_get X 1 0 hiX7 k_185 dX8_pushOf_4 rfl rfl (by decide) rfl ?_
  refine j_get X 2 11 hiX0 k_114 dX8_pushOf_7 rfl rfl (by decide) rfl ?_
  refine j_astore_n X (lv2 := [(3, .ref r_nBP), (0, .ref r_), (1, .int i1), (2, .int i2)]) dX8_pushOf_10 (by decide) rfl ?_
  refine j_iload_n X (q := 2) dX8_pushOf_11 rfl ?_
  refine j_if_lt X (tgt := 29) dX8_pushOf_12 (by decide) (fun cv1 => ?_) (fun cv1 => ?_)
  · replace hR := (if_pos cv1).symm.trans hR
    refine j_sipush X (v := (-1000)) dX8_pushOf_29 (by decide) ?_
    have hR := Option.some.inj hR
    exact j_iret X hr dX8_pushOf_32 (by rw [← hR]) rfl
  · replace hR := (if_neg cv1).symm.trans hR
    refine j_iload_n X (q := 2) dX8_pushOf_15 rfl ?_
    refine j_aload_n X (q := 0) dX8_pushOf_16 rfl ?_
    refine j_get X 3 3 hiX2 k_87 dX8_pushOf_17 rfl rfl (by decide) rfl ?_
    refine j_icmp_ge X (tgt := 29) dX8_pushOf_20 (by decide) (fun cv2 => ?_) (fun cv2 => ?_)
    · replace hR := (if_pos cv2).symm.trans hR
      refine j_sipush X (v := (-1000)) dX8_pushOf_29 (by decide) ?_
      have hR := Option.some.inj hR
      exact j_iret X hr dX8_pushOf_32 (by rw [← hR]) rfl
    · replace hR := (if_neg cv2).symm.trans hR
      refine j_iload_n X (q := 2) dX8_pushOf_23 rfl ?_
      refine j_bipush X (v := 8) dX8_pushOf_24 (by decide) ?_
      refine j_icmp_lt X (tgt := 33) dX8_pushOf_26 (by decide) (fun cv3 => ?_) (fun cv3 => ?_)
      · replace hR := (if_pos cv3).symm.trans hR
        refine j_iload_n X (q := 3) dX8_pushOf_33 rfl ?_
        by_cases cv4 : i2 = 0
        · replace hR := (if_pos cv4).symm.trans hR
          refine j_tableIn X (tgt := 60) dX8_pushOf_34 (by rw [cv4]; decide) (by rw [cv4]; decide) (by rw [cv4]; rfl) (by decide) ?_
          refine j_aload_n X (q := 0) dX8_pushOf_60 rfl ?_
          refine j_get X 3 0 hiX2 k_77 dX8_pushOf_61 rfl rfl (by decide) rfl ?_
          refine j_iload_n X (q := 2) dX8_pushOf_64 rfl ?_
          obtain ⟨gv5, hR⟩ := gd_some hR
          refine j_iald X 5 0 rfl dX8_pushOf_65 rfl rfl gv5 ?_
          have hR := Option.some.inj hR
          exact j_iret X hr dX8_pushOf_66 (by rw [← hR]) rfl
        · replace hR := (if_neg cv4).symm.trans hR
          by_cases cv6 : i2 = 1
          · replace hR := (if_pos cv6).symm.trans hR
            refine j_tableIn X (tgt := 67) dX8_pushOf_34 (by rw [cv6]; decide) (by rw [cv6]; decide) (by rw [cv6]; rfl) (by decide) ?_
            refine j_aload_n X (q := 0) dX8_pushOf_67 rfl ?_
            refine j_get X 3 1 hiX2 k_80 dX8_pushOf_68 rfl rfl (by decide) rfl ?_
            refine j_iload_n X (q := 2) dX8_pushOf_71 rfl ?_
            obtain ⟨gv7, hR⟩ := gd_some hR
            refine j_iald X 6 0 rfl dX8_pushOf_72 rfl rfl gv7 ?_
            have hR := Option.some.inj hR
            exact j_iret X hr dX8_pushOf_73 (by rw [← hR]) rfl
          · replace hR := (if_neg cv6).symm.trans hR
            by_cases cv8 : i2 = 2
            · replace hR := (if_pos cv8).symm.trans hR
              refine j_tableIn X (tgt := 74) dX8_pushOf_34 (by rw [cv8]; decide) (by rw [cv8]; decide) (by rw [cv8]; rfl) (by decide) ?_
              refine j_aload_n X (q := 0) dX8_pushOf_74 rfl ?_
              refine j_get X 3 2 hiX2 k_83 dX8_pushOf_75 rfl rfl (by decide) rfl ?_
              refine j_iload_n X (q := 2) dX8_pushOf_78 rfl ?_
              obtain ⟨gv9, hR⟩ := gd_some hR
              refine j_iald X 4 0 rfl dX8_pushOf_79 rfl rfl gv9 ?_
              have hR := Option.some.inj hR
              exact j_iret X hr dX8_pushOf_80 (by rw [← hR]) rfl
            · replace hR := (if_neg cv8).symm.trans hR
              refine j_tableOut X (tgt := 81) dX8_pushOf_34 (by have hcv4 := lv_neT cv4 (a := 0) rfl; have hcv6 := lv_neT cv6 (a := 1) rfl; have hcv8 := lv_neT cv8 (a := 2) rfl; omega) (by decide) ?_
              refine j_sipush X (v := (-1000)) dX8_pushOf_81 (by decide) ?_
              have hR := Option.some.inj hR
              exact j_iret X hr dX8_pushOf_84 (by rw [← hR]) rfl
      · replace hR := (if_neg cv3).symm.trans hR
        refine j_sipush X (v := (-1000)) dX8_pushOf_29 (by decide) ?_
        have hR := Option.some.inj hR
        exact j_iret X hr dX8_pushOf_32 (by rw [← hR]) rfl

def rmX8_go : Room := { frames := 4, cells := 0, slots := 0, locals := 80 }
theorem hdX8_go : yX8_go.cls ≠ "java/lang/invoke/MethodHandle" ∧ yX8_go.cls ≠ "java/lang/invoke/VarHandle" ∧ (parseMethodDescriptor yX8_go.desc).map (fun d => d.parameters.length) = some 1 := by decide +kernel
def fX8_go_38 (i1 : Int32) (ik : Int32) (z_nB : Int32) : Nat → Int32 → Int32 → (Nat → Int32) → Int64 → (Nat → Int64) → Int32 → (Nat → Int32) → (Nat → Int32) → (Nat → Int32) → Option (Int32 × (Nat → Int32) × Int64 × (Nat → Int64) × Int32 × (Nat → Int32) × (Nat → Int32) × (Nat → Int32))
  | 0, _, _, _, _, _, _, _, _, _ => none
  | fu + 1, x2, x3, b_nB, se_nB, f_nBA, k_nBP, f_nBPs, f_nBPt, f_nBPw =>
    if i1 ≤ x3 then (some (x2, b_nB, se_nB, f_nBA, k_nBP, f_nBPs, f_nBPt, f_nBPw)) else ((fX0_tick b_nB se_nB z_nB f_nBA k_nBP f_nBPs f_nBPt f_nBPw).bind fun ov5 =>
  if ov5.1 = 0 then (lt' (x3 + 1) fun x3v7 =>
  fX8_go_38 i1 ik z_nB fu x2 x3v7 ov5.2.1 ov5.2.2.1 ov5.2.2.2.1 ov5.2.2.2.2.1 ov5.2.2.2.2.2.1 ov5.2.2.2.2.2.2.1 ov5.2.2.2.2.2.2.2) else (lt' (x2 + 1) fun x2v8 =>
  lt' (x3 + 1) fun x3v9 =>
  fX8_go_38 i1 ik z_nB fu x2v8 x3v9 ov5.2.1 ov5.2.2.1 ov5.2.2.2.1 ov5.2.2.2.2.1 ov5.2.2.2.2.2.1 ov5.2.2.2.2.2.2.1 ov5.2.2.2.2.2.2.2))
def fX8_go (i1 : Int32) (ik : Int32) (b_nB : Nat → Int32) (se_nB : Int64) (z_nB : Int32) (f_nBA : Nat → Int64) (k_nBP : Int32) (f_nBPs : Nat → Int32) (f_nBPt : Nat → Int32) (f_nBPw : Nat → Int32) : Option (Int32 × (Nat → Int32) × Int64 × (Nat → Int64) × Int32 × (Nat → Int32) × (Nat → Int32) × (Nat → Int32)) :=
  (fX8_isBetween i1 1 400).bind fun ov1 =>
  if ov1 = 0 then (some ((-2), b_nB, se_nB, f_nBA, k_nBP, f_nBPs, f_nBPt, f_nBPw)) else (if (b_nB 8) ≤ ((99999 : Int32) - i1) then (fX8_go_38 i1 ik z_nB 500 0 0 b_nB se_nB f_nBA k_nBP f_nBPs f_nBPt f_nBPw) else (some ((-4), b_nB, se_nB, f_nBA, k_nBP, f_nBPs, f_nBPt, f_nBPw)))
set_option maxHeartbeats 8000000 in
set_option maxRecDepth 100000 in
theorem mX8_go (l : Launch) (D : va_G) (cI cJ cB cT : ClassId) (tt : Nat → Nat) (r_ r_n r_k r_h r_e r_x r_q r_nB r_nT r_nS r_nK r_nBP r_nBA r_nBPt r_nBPw r_nBPs : Nat) {i1 : Int32} {ik : Int32} {b_nB : Nat → Int32} {se_nB : Int64} {z_nB : Int32} {f_nBA : Nat → Int64} {k_nBP : Int32} {f_nBPs : Nat → Int32} {f_nBPt : Nat → Int32} {f_nBPw : Nat → Int32} {out : Int32 × (Nat → Int32) × Int64 × (Nat → Int64) × Int32 × (Nat → Int32) × (Nat → Int32) × (Nat → Int32)} (h : fX8_go i1 ik b_nB se_nB z_nB f_nBA k_nBP f_nBPs f_nBPt f_nBPw = some out) :
    jM l yX8_go (.code yX8_go cX8_go 4 (some .int)) rmX8_go D (wTy cI cJ cB cT) tt [.ref r_, .int i1] [cWB r_ r_n r_k r_h r_e r_x r_q ik, cWho r_n r_nB r_nT r_nS r_nK, cBal r_nB r_nBP r_nBA b_nB se_nB z_nB, cJar cJ r_nBA 4 f_nBA, cPus r_nBP r_nBPt r_nBPw r_nBPs k_nBP, cIar cI r_nBPs 8 f_nBPs, cIar cI r_nBPt 8 f_nBPt, cIar cI r_nBPw 8 f_nBPw] (some (.int out.1)) [cWB r_ r_n r_k r_h r_e r_x r_q ik, cWho r_n r_nB r_nT r_nS r_nK, cBal r_nB r_nBP r_nBA out.2.1 out.2.2.1 z_nB, cJar cJ r_nBA 4 out.2.2.2.1, cPus r_nBP r_nBPt r_nBPw r_nBPs out.2.2.2.2.1, cIar cI r_nBPs 8 out.2.2.2.2.2.1, cIar cI r_nBPt 8 out.2.2.2.2.2.2.1, cIar cI r_nBPw 8 out.2.2.2.2.2.2.2] := by
  refine jM.of (by decide) (Nat.le_of_ble_eq_true rfl) ?_
  intro p e s m below meth c A X hr
  have L_38 : ∀ (fuel : Nat) (x2 : Int32) (x3 : Int32) (b_nB : Nat → Int32) (se_nB : Int64) (f_nBA : Nat → Int64) (k_nBP : Int32) (f_nBPs : Nat → Int32) (f_nBPt : Nat → Int32) (f_nBPw : Nat → Int32), fX8_go_38 i1 ik z_nB  fuel x2 x3 b_nB se_nB f_nBA k_nBP f_nBPs f_nBPt f_nBPw = some out → jW p l e rmX8_go s m ([.ref r_, .int i1] : List Value).toArray below meth c D A 4 (MQ below (jQ D (some (.int out.1)) [cWB r_ r_n r_k r_h r_e r_x r_q ik, cWho r_n r_nB r_nT r_nS r_nK, cBal r_nB r_nBP r_nBA out.2.1 out.2.2.1 z_nB, cJar cJ r_nBA 4 out.2.2.2.1, cPus r_nBP r_nBPt r_nBPw r_nBPs out.2.2.2.2.1, cIar cI r_nBPs 8 out.2.2.2.2.2.1, cIar cI r_nBPt 8 out.2.2.2.2.2.2.1, cIar cI r_nBPw 8 out.2.2.2.2.2.2.2] A) ([.ref r_, .int i1] : List Value).toArray s 0 0 A) 0 0 38 [(0, .ref r_), (1, .int i1), (2, .int x2), (3, .int x3)] [] [cWB r_ r_n r_k r_h r_e r_x r_q ik, cWho r_n r_nB r_nT r_nS r_nK, cBal r_nB r_nBP r_nBA b_nB se_nB z_nB, cJar cJ r_nBA 4 f_nBA, cPus r_nBP r_nBPt r_nBPw r_nBPs k_nBP, cIar cI r_nBPs 8 f_nBPs, cIar cI r_nBPt 8 f_nBPt, cIar cI r_nBPw 8 f_nBPw] := by
    intro  fuel
    induction fuel with
    | zero =>
      intro x2 x3 b_nB se_nB f_nBA k_nBP f_nBPs f_nBPt f_nBPw hR
      rw [fX8_go_38] at hR
      cases hR
    | succ fu ih =>
      intro x2 x3 b_nB se_nB f_nBA k_nBP f_nBPs f_nBPt f_nBPw hR
      rw [fX8_go_38] at hR
      refine j_iload_n X (q := 3) dX8_go_38 rfl ?_
      refine j_iload_n X (q := 1) dX8_go_39 rfl ?_
      refine j_icmp_ge X (tgt := 65) dX8_go_40 (by decide) (fun cv4 => ?_) (fun cv4 => ?_)
      · replace hR := (if_pos cv4).symm.trans hR
        refine j_iload_n X (q := 2) dX8_go_65 rfl ?_
        have hR := Option.some.inj hR
        exact j_iret X hr dX8_go_66 (by rw [← hR]) (by rw [← hR])
      · replace hR := (if_neg cv4).symm.trans hR
        refine j_aload_n X (q := 0) dX8_go_43 rfl ?_
        refine j_get X 0 0 hiX8 k_264 dX8_go_44 rfl rfl (by decide) rfl ?_
        refine j_get X 1 0 hiX7 k_185 dX8_go_47 rfl rfl (by decide) rfl ?_
        obtain ⟨ov5, hov5, hR⟩ := bd_some hR
        refine j_callV X (As := []) (rest := []) (ws2 := [cWB r_ r_n r_k r_h r_e r_x r_q ik, cWho r_n r_nB r_nT r_nS r_nK, cBal r_nB r_nBP r_nBA ov5.2.1 ov5.2.2.1 z_nB, cJar cJ r_nBA 4 ov5.2.2.2.1, cPus r_nBP r_nBPt r_nBPw r_nBPs ov5.2.2.2.2.1, cIar cI r_nBPs 8 ov5.2.2.2.2.2.1, cIar cI r_nBPt 8 ov5.2.2.2.2.2.2.1, cIar cI r_nBPw 8 ov5.2.2.2.2.2.2.2]) (q0 := 2) (ci := 0) (mX0_tick l D cI cJ cB cT tt r_nB r_nBP r_nBA r_nBPt r_nBPw r_nBPs hov5) [2, 3, 4, 5, 6, 7] [.inl 0, .inl 1, .inr 0, .inr 1, .inr 2, .inr 3, .inr 4, .inr 5] k_352 k_349 k_350 k_351 rfl rfl k_40 hdX0_tick (by decide) (Nat.le_of_ble_eq_true rfl) dX8_go_50 (by decide) rfl rfl (by decide) rfl rfl ?_
        refine j_if_eq X (tgt := 59) dX8_go_53 (by decide) (fun cv6 => ?_) (fun cv6 => ?_)
        · replace hR := (if_pos cv6).symm.trans hR
          obtain ⟨x3v7, ex3v7, hR⟩ := lt_some hR
          refine j_iinc X (k := 3) (v := x3v7) (lv2 := [(3, .int x3v7), (0, .ref r_), (1, .int i1), (2, .int x2)]) dX8_go_59 rfl (by rw [← ex3v7]; rfl) (by decide) rfl ?_
          refine j_goto X (tgt := 38) dX8_go_62 (by decide) ?_
          refine j_sub (lv2 := [(0, .ref r_), (1, .int i1), (2, .int x2), (3, .int x3v7)]) [1, 2, 3, 0] rfl ?_
          exact ih _ _ _ _ _ _ _ _ _ hR
        · replace hR := (if_neg cv6).symm.trans hR
          obtain ⟨x2v8, ex2v8, hR⟩ := lt_some hR
          refine j_iinc X (k := 2) (v := x2v8) (lv2 := [(2, .int x2v8), (0, .ref r_), (1, .int i1), (3, .int x3)]) dX8_go_56 rfl (by rw [← ex2v8]; rfl) (by decide) rfl ?_
          obtain ⟨x3v9, ex3v9, hR⟩ := lt_some hR
          refine j_iinc X (k := 3) (v := x3v9) (lv2 := [(3, .int x3v9), (2, .int x2v8), (0, .ref r_), (1, .int i1)]) dX8_go_59 rfl (by rw [← ex3v9]; rfl) (by decide) rfl ?_
          refine j_goto X (tgt := 38) dX8_go_62 (by decide) ?_
          refine j_sub (lv2 := [(0, .ref r_), (1, .int i1), (2, .int x2v8), (3, .int x3v9)]) [2, 3, 1, 0] rfl ?_
          exact ih _ _ _ _ _ _ _ _ _ hR
  refine j_sub (lv2 := [(0, .ref r_), (1, .int i1)]) [0, 1] rfl ?_
  have hR := h
  unfold fX8_go at hR
  refine j_iload_n X (q := 1) dX8_go_0 rfl ?_
  refine j_iconst X (v := 1) dX8_go_1 (by decide) ?_
  refine j_sipush X (v := 400) dX8_go_2 (by decide) ?_
  obtain ⟨ov1, hov1, hR⟩ := bd_some hR
  refine j_callS X (As := [.int i1, .int 1, .int 400]) (rest := []) (ws2 := [cWB r_ r_n r_k r_h r_e r_x r_q ik, cWho r_n r_nB r_nT r_nS r_nK, cBal r_nB r_nBP r_nBA b_nB se_nB z_nB, cJar cJ r_nBA 4 f_nBA, cPus r_nBP r_nBPt r_nBPw r_nBPs k_nBP, cIar cI r_nBPs 8 f_nBPs, cIar cI r_nBPt 8 f_nBPt, cIar cI r_nBPw 8 f_nBPw]) (mX8_isBetween l D cI cJ cB cT tt  hov1) [] [.inl 0, .inl 1, .inl 2, .inl 3, .inl 4, .inl 5, .inl 6, .inl 7] k_299 k_297 k_298 k_38 hdX8_isBetween (by decide) (Nat.le_of_ble_eq_true rfl) dX8_go_5 (by decide) rfl rfl (by decide) rfl rfl ?_
  refine j_if_ne X (tgt := 14) dX8_go_8 (by decide) (fun cv2 => ?_) (fun cv2 => ?_)
  · replace hR := (if_neg cv2).symm.trans hR
    refine j_aload_n X (q := 0) dX8_go_14 rfl ?_
    refine j_get X 0 0 hiX8 k_264 dX8_go_15 rfl rfl (by decide) rfl ?_
    refine j_get X 1 0 hiX7 k_185 dX8_go_18 rfl rfl (by decide) rfl ?_
    refine j_get X 2 5 hiX0 k_106 dX8_go_21 rfl rfl (by decide) rfl ?_
    refine j_ldc X k_329 dX8_go_24 ?_
    refine j_iload_n X (q := 1) dX8_go_26 rfl ?_
    refine j_isub X dX8_go_27 ?_
    refine j_icmp_le X (tgt := 34) dX8_go_28 (by decide) (fun cv3 => ?_) (fun cv3 => ?_)
    · replace hR := (if_pos cv3).symm.trans hR
      refine j_iconst X (v := 0) dX8_go_34 (by decide) ?_
      refine j_istore_n X (lv2 := [(2, .int 0), (0, .ref r_), (1, .int i1)]) dX8_go_35 (by decide) rfl ?_
      refine j_iconst X (v := 0) dX8_go_36 (by decide) ?_
      refine j_istore_n X (lv2 := [(3, .int 0), (2, .int 0), (0, .ref r_), (1, .int i1)]) dX8_go_37 (by decide) rfl ?_
      refine j_sub (lv2 := [(0, .ref r_), (1, .int i1), (2, .int 0), (3, .int 0)]) [2, 3, 1, 0] rfl ?_
      exact L_38 _ _ _ _ _ _ _ _ _ _ hR
    · replace hR := (if_neg cv3).symm.trans hR
      refine j_bipush X (v := (-4)) dX8_go_31 (by decide) ?_
      have hR := Option.some.inj hR
      exact j_iret X hr dX8_go_33 (by rw [← hR]) (by rw [← hR])
  · replace hR := (if_pos cv2).symm.trans hR
    refine j_bipush X (v := (-2)) dX8_go_11 (by decide) ?_
    have hR := Option.some.inj hR
    exact j_iret X hr dX8_go_13 (by rw [← hR]) (by rw [← hR])

def rmX8_wheel : Room := { frames := 1, cells := 0, slots := 0, locals := 22 }
theorem hdX8_wheel : yX8_wheel.cls ≠ "java/lang/invoke/MethodHandle" ∧ yX8_wheel.cls ≠ "java/lang/invoke/VarHandle" ∧ (parseMethodDescriptor yX8_wheel.desc).map (fun d => d.parameters.length) = some 1 := by decide +kernel
def fX8_wheel (i1 : Int32) (ik : Int32) (k_nT : Int32) (f_nTf : Nat → Int32) : Option (Int32 × Int32 × (Nat → Int32)) :=
  (fX8_isBetween i1 2 99).bind fun ov1 =>
  if ov1 = 0 then (some ((-2), k_nT, f_nTf)) else (if k_nT < 4 then ((fX6_add i1 k_nT f_nTf).bind fun ov4 =>
  some (ov4.1 - 1, ov4.1, ov4.2)) else (some ((-4), k_nT, f_nTf)))
set_option maxHeartbeats 8000000 in
set_option maxRecDepth 100000 in
theorem mX8_wheel (l : Launch) (D : va_G) (cI cJ cB cT : ClassId) (tt : Nat → Nat) (r_ r_n r_k r_h r_e r_x r_q r_nB r_nT r_nS r_nK r_nTf : Nat) {i1 : Int32} {ik : Int32} {k_nT : Int32} {f_nTf : Nat → Int32} {out : Int32 × Int32 × (Nat → Int32)} (h : fX8_wheel i1 ik k_nT f_nTf = some out) :
    jM l yX8_wheel (.code yX8_wheel cX8_wheel 2 (some .int)) rmX8_wheel D (wTy cI cJ cB cT) tt [.ref r_, .int i1] [cWB r_ r_n r_k r_h r_e r_x r_q ik, cWho r_n r_nB r_nT r_nS r_nK, cTra r_nT r_nTf k_nT, cIar cI r_nTf 4 f_nTf] (some (.int out.1)) [cWB r_ r_n r_k r_h r_e r_x r_q ik, cWho r_n r_nB r_nT r_nS r_nK, cTra r_nT r_nTf out.2.1, cIar cI r_nTf 4 out.2.2] := by
  refine jM.of (by decide) (Nat.le_of_ble_eq_true rfl) ?_
  intro p e s m below meth c A X hr
  refine j_sub (lv2 := [(0, .ref r_), (1, .int i1)]) [0, 1] rfl ?_
  have hR := h
  unfold fX8_wheel at hR
  refine j_iload_n X (q := 1) dX8_wheel_0 rfl ?_
  refine j_iconst X (v := 2) dX8_wheel_1 (by decide) ?_
  refine j_bipush X (v := 99) dX8_wheel_2 (by decide) ?_
  obtain ⟨ov1, hov1, hR⟩ := bd_some hR
  refine j_callS X (As := [.int i1, .int 2, .int 99]) (rest := []) (ws2 := [cWB r_ r_n r_k r_h r_e r_x r_q ik, cWho r_n r_nB r_nT r_nS r_nK, cTra r_nT r_nTf k_nT, cIar cI r_nTf 4 f_nTf]) (mX8_isBetween l D cI cJ cB cT tt  hov1) [] [.inl 0, .inl 1, .inl 2, .inl 3] k_299 k_297 k_298 k_38 hdX8_isBetween (by decide) (Nat.le_of_ble_eq_true rfl) dX8_wheel_4 (by decide) rfl rfl (by decide) rfl rfl ?_
  refine j_if_ne X (tgt := 13) dX8_wheel_7 (by decide) (fun cv2 => ?_) (fun cv2 => ?_)
  · replace hR := (if_neg cv2).symm.trans hR
    refine j_aload_n X (q := 0) dX8_wheel_13 rfl ?_
    refine j_get X 0 0 hiX8 k_264 dX8_wheel_14 rfl rfl (by decide) rfl ?_
    refine j_get X 1 1 hiX7 k_187 dX8_wheel_17 rfl rfl (by decide) rfl ?_
    refine j_get X 2 1 hiX6 k_159 dX8_wheel_20 rfl rfl (by decide) rfl ?_
    refine j_iconst X (v := 4) dX8_wheel_23 (by decide) ?_
    refine j_icmp_lt X (tgt := 30) dX8_wheel_24 (by decide) (fun cv3 => ?_) (fun cv3 => ?_)
    · replace hR := (if_pos cv3).symm.trans hR
      refine j_aload_n X (q := 0) dX8_wheel_30 rfl ?_
      refine j_get X 0 0 hiX8 k_264 dX8_wheel_31 rfl rfl (by decide) rfl ?_
      refine j_get X 1 1 hiX7 k_187 dX8_wheel_34 rfl rfl (by decide) rfl ?_
      refine j_iload_n X (q := 1) dX8_wheel_37 rfl ?_
      obtain ⟨ov4, hov4, hR⟩ := bd_some hR
      refine j_callV X (As := [.int i1]) (rest := []) (ws2 := [cWB r_ r_n r_k r_h r_e r_x r_q ik, cWho r_n r_nB r_nT r_nS r_nK, cTra r_nT r_nTf ov4.1, cIar cI r_nTf 4 ov4.2]) (q0 := 2) (ci := 6) (mX6_add l D cI cJ cB cT tt r_nT r_nTf hov4) [2, 3] [.inl 0, .inl 1, .inr 0, .inr 1] k_394 k_391 k_392 k_393 rfl rfl k_42 hdX6_add (by decide) (Nat.le_of_ble_eq_true rfl) dX8_wheel_38 (by decide) rfl rfl (by decide) rfl rfl ?_
      refine j_aload_n X (q := 0) dX8_wheel_41 rfl ?_
      refine j_get X 0 0 hiX8 k_264 dX8_wheel_42 rfl rfl (by decide) rfl ?_
      refine j_get X 1 1 hiX7 k_187 dX8_wheel_45 rfl rfl (by decide) rfl ?_
      refine j_get X 2 1 hiX6 k_159 dX8_wheel_48 rfl rfl (by decide) rfl ?_
      refine j_iconst X (v := 1) dX8_wheel_51 (by decide) ?_
      refine j_isub X dX8_wheel_52 ?_
      have hR := Option.some.inj hR
      exact j_iret X hr dX8_wheel_53 (by rw [← hR]) (by rw [← hR])
    · replace hR := (if_neg cv3).symm.trans hR
      refine j_bipush X (v := (-4)) dX8_wheel_27 (by decide) ?_
      have hR := Option.some.inj hR
      exact j_iret X hr dX8_wheel_29 (by rw [← hR]) (by rw [← hR])
  · replace hR := (if_pos cv2).symm.trans hR
    refine j_bipush X (v := (-2)) dX8_wheel_10 (by decide) ?_
    have hR := Option.some.inj hR
    exact j_iret X hr dX8_wheel_12 (by rw [← hR]) (by rw [← hR])

def rmX8_commonDivisor : Room := { frames := 0, cells := 0, slots := 0, locals := 0 }
theorem hdX8_commonDivisor : yX8_commonDivisor.cls ≠ "java/lang/invoke/MethodHandle" ∧ yX8_commonDivisor.cls ≠ "java/lang/invoke/VarHandle" ∧ (parseMethodDescriptor yX8_commonDivisor.desc).map (fun d => d.parameters.length) = some 2 := by decide +kernel
def fX8_commonDivisor_3  : Nat → Int64 → Int64 → Int32 → Option (Int64)
  | 0, _, _, _ => none
  | fu + 1, x0, x2, x4 =>
    if (200 : Int32) ≤ x4 then (some x0) else (if (lg_cmp x2 0) = 0 then (some x0) else (gd (!decide (x2 = 0)) (lt' (x0 - x0 / x2 * x2) fun x5v4 =>
  lt' (x4 + 1) fun x4v5 =>
  fX8_commonDivisor_3 fu x2 x5v4 x4v5)))
def fX8_commonDivisor (i0 : Int64) (i2 : Int64) : Option (Int64) :=
  fX8_commonDivisor_3 500 i0 i2 0
set_option maxHeartbeats 8000000 in
set_option maxRecDepth 100000 in
theorem mX8_commonDivisor (l : Launch) (D : va_G) (cI cJ cB cT : ClassId) (tt : Nat → Nat) {i0 : Int64} {i2 : Int64}  {out : Int64} (h : fX8_commonDivisor i0 i2 = some out) :
    jM l yX8_commonDivisor (.code yX8_commonDivisor cX8_commonDivisor 7 (some .long)) rmX8_commonDivisor D (wTy cI cJ cB cT) tt [.long i0, .long i2] [] (some (.long out)) [] := by
  refine jM.of (by decide) (Nat.le_of_ble_eq_true rfl) ?_
  intro p e s m below meth c A X hr
  have L_3 : ∀ (fuel : Nat) (x0 : Int64) (x2 : Int64) (x4 : Int32), fX8_commonDivisor_3   fuel x0 x2 x4 = some out → jW p l e rmX8_commonDivisor s m ([.long i0, .long i2] : List Value).toArray below meth c D A 7 (MQ below (jQ D (some (.long out)) [] A) ([.long i0, .long i2] : List Value).toArray s 0 0 A) 0 0 3 [(0, .long x0), (2, .long x2), (4, .int x4)] [] [] := by
    intro  fuel
    induction fuel with
    | zero =>
      intro x0 x2 x4 hR
      rw [fX8_commonDivisor_3] at hR
      cases hR
    | succ fu ih =>
      intro x0 x2 x4 hR
      rw [fX8_commonDivisor_3] at hR
      refine j_iload X (q := 2) dX8_commonDivisor_3 rfl ?_
      refine j_sipush X (v := 200) dX8_commonDivisor_5 (by decide) ?_
      refine j_icmp_ge X (tgt := 33) dX8_commonDivisor_8 (by decide) (fun cv1 => ?_) (fun cv1 => ?_)
      · replace hR := (if_pos cv1).symm.trans hR
        refine j_lload_n X (q := 0) dX8_commonDivisor_33 rfl ?_
        have hR := Option.some.inj hR
        exact j_lret X hr dX8_commonDivisor_34 (by rw [← hR]) rfl
      · replace hR := (if_neg cv1).symm.trans hR
        refine j_lload_n X (q := 1) dX8_commonDivisor_11 rfl ?_
        refine j_lconst X (v := 0) dX8_commonDivisor_12 (by decide) ?_
        refine j_lcmp X dX8_commonDivisor_13 ?_
        refine j_if_eq X (tgt := 33) dX8_commonDivisor_14 (by decide) (fun cv2 => ?_) (fun cv2 => ?_)
        · replace hR := (if_pos cv2).symm.trans hR
          refine j_lload_n X (q := 0) dX8_commonDivisor_33 rfl ?_
          have hR := Option.some.inj hR
          exact j_lret X hr dX8_commonDivisor_34 (by rw [← hR]) rfl
        · replace hR := (if_neg cv2).symm.trans hR
          refine j_lload_n X (q := 0) dX8_commonDivisor_17 rfl ?_
          refine j_lload_n X (q := 1) dX8_commonDivisor_18 rfl ?_
          obtain ⟨gv3, hR⟩ := gd_some hR
          refine j_lrem X dX8_commonDivisor_19 (by simpa using gv3) ?_
          obtain ⟨x5v4, ex5v4, hR⟩ := lt_some hR
          refine j_eq (congrArg (fun z => Value.long z :: _) ex5v4) rfl ?_
          refine j_lstore X (lv2 := [(5, .long x5v4), (0, .long x0), (2, .long x2), (4, .int x4)]) dX8_commonDivisor_20 (by decide) rfl ?_
          refine j_lload_n X (q := 2) dX8_commonDivisor_22 rfl ?_
          refine j_lstore_n X (lv2 := [(0, .long x2), (5, .long x5v4), (2, .long x2), (4, .int x4)]) dX8_commonDivisor_23 (by decide) rfl ?_
          refine j_lload X (q := 1) dX8_commonDivisor_24 rfl ?_
          refine j_lstore_n X (lv2 := [(2, .long x5v4), (0, .long x2), (5, .long x5v4), (4, .int x4)]) dX8_commonDivisor_26 (by decide) rfl ?_
          obtain ⟨x4v5, ex4v5, hR⟩ := lt_some hR
          refine j_iinc X (k := 3) (v := x4v5) (lv2 := [(4, .int x4v5), (2, .long x5v4), (0, .long x2), (5, .long x5v4)]) dX8_commonDivisor_27 rfl (by rw [← ex4v5]; rfl) (by decide) rfl ?_
          refine j_goto X (tgt := 3) dX8_commonDivisor_30 (by decide) ?_
          refine j_sub (lv2 := [(0, .long x2), (2, .long x5v4), (4, .int x4v5)]) [2, 1, 0] rfl ?_
          exact ih _ _ _ hR
  refine j_sub (lv2 := [(0, .long i0), (2, .long i2)]) [0, 1] rfl ?_
  have hR := h
  unfold fX8_commonDivisor at hR
  refine j_iconst X (v := 0) dX8_commonDivisor_0 (by decide) ?_
  refine j_istore X (lv2 := [(4, .int 0), (0, .long i0), (2, .long i2)]) dX8_commonDivisor_1 (by decide) rfl ?_
  refine j_sub (lv2 := [(0, .long i0), (2, .long i2), (4, .int 0)]) [1, 2, 0] rfl ?_
  exact L_3 _ _ _ _ hR

def rmX8_partOfFraction : Room := { frames := 1, cells := 0, slots := 0, locals := 26 }
theorem hdX8_partOfFraction : yX8_partOfFraction.cls ≠ "java/lang/invoke/MethodHandle" ∧ yX8_partOfFraction.cls ≠ "java/lang/invoke/VarHandle" ∧ (parseMethodDescriptor yX8_partOfFraction.desc).map (fun d => d.parameters.length) = some 3 := by decide +kernel
def fX8_partOfFraction (i0 : Int64) (i2 : Int64) (i4 : Int32) : Option (Int64) :=
  (fX8_commonDivisor i0 i2).bind fun ov1 =>
  (fX8_isBetween i4 0 1).bind fun ov2 =>
  if ov2 = 0 then (some (-9223372036854775808)) else (if (lg_cmp ov1 0) = 0 then (some (-9223372036854775808)) else (if i4 = 0 then (gd (!decide (ov1 = 0)) (some (i0 / ov1))) else (gd (!decide (ov1 = 0)) (some (i2 / ov1)))))
set_option maxHeartbeats 8000000 in
set_option maxRecDepth 100000 in
theorem mX8_partOfFraction (l : Launch) (D : va_G) (cI cJ cB cT : ClassId) (tt : Nat → Nat) {i0 : Int64} {i2 : Int64} {i4 : Int32}  {out : Int64} (h : fX8_partOfFraction i0 i2 i4 = some out) :
    jM l yX8_partOfFraction (.code yX8_partOfFraction cX8_partOfFraction 7 (some .long)) rmX8_partOfFraction D (wTy cI cJ cB cT) tt [.long i0, .long i2, .int i4] [] (some (.long out)) [] := by
  refine jM.of (by decide) (Nat.le_of_ble_eq_true rfl) ?_
  intro p e s m below meth c A X hr
  refine j_sub (lv2 := [(0, .long i0), (2, .long i2), (4, .int i4)]) [0, 1, 2] rfl ?_
  have hR := h
  unfold fX8_partOfFraction at hR
  refine j_lload_n X (q := 0) dX8_partOfFraction_0 rfl ?_
  refine j_lload_n X (q := 1) dX8_partOfFraction_1 rfl ?_
  obtain ⟨ov1, hov1, hR⟩ := bd_some hR
  refine j_callS X (As := [.long i0, .long i2]) (rest := []) (ws2 := []) (mX8_commonDivisor l D cI cJ cB cT tt  hov1) [] [] k_410 k_408 k_409 k_38 hdX8_commonDivisor (by decide) (Nat.le_of_ble_eq_true rfl) dX8_partOfFraction_2 (by decide) rfl rfl (by decide) rfl rfl ?_
  refine j_lstore X (lv2 := [(5, .long ov1), (0, .long i0), (2, .long i2), (4, .int i4)]) dX8_partOfFraction_5 (by decide) rfl ?_
  refine j_iload X (q := 3) dX8_partOfFraction_7 rfl ?_
  refine j_iconst X (v := 0) dX8_partOfFraction_9 (by decide) ?_
  refine j_iconst X (v := 1) dX8_partOfFraction_10 (by decide) ?_
  obtain ⟨ov2, hov2, hR⟩ := bd_some hR
  refine j_callS X (As := [.int i4, .int 0, .int 1]) (rest := []) (ws2 := []) (mX8_isBetween l D cI cJ cB cT tt  hov2) [] [] k_299 k_297 k_298 k_38 hdX8_isBetween (by decide) (Nat.le_of_ble_eq_true rfl) dX8_partOfFraction_11 (by decide) rfl rfl (by decide) rfl rfl ?_
  refine j_if_eq X (tgt := 24) dX8_partOfFraction_14 (by decide) (fun cv3 => ?_) (fun cv3 => ?_)
  · replace hR := (if_pos cv3).symm.trans hR
    refine j_ldc2 X k_399 dX8_partOfFraction_24 ?_
    have hR := Option.some.inj hR
    exact j_lret X hr dX8_partOfFraction_27 (by rw [← hR]) rfl
  · replace hR := (if_neg cv3).symm.trans hR
    refine j_lload X (q := 0) dX8_partOfFraction_17 rfl ?_
    refine j_lconst X (v := 0) dX8_partOfFraction_19 (by decide) ?_
    refine j_lcmp X dX8_partOfFraction_20 ?_
    refine j_if_ne X (tgt := 28) dX8_partOfFraction_21 (by decide) (fun cv4 => ?_) (fun cv4 => ?_)
    · replace hR := (if_neg cv4).symm.trans hR
      refine j_iload X (q := 3) dX8_partOfFraction_28 rfl ?_
      refine j_if_ne X (tgt := 40) dX8_partOfFraction_30 (by decide) (fun cv5 => ?_) (fun cv5 => ?_)
      · replace hR := (if_neg cv5).symm.trans hR
        refine j_lload_n X (q := 2) dX8_partOfFraction_40 rfl ?_
        refine j_lload X (q := 0) dX8_partOfFraction_41 rfl ?_
        obtain ⟨gv6, hR⟩ := gd_some hR
        refine j_ldiv X dX8_partOfFraction_43 (by simpa using gv6) ?_
        have hR := Option.some.inj hR
        exact j_lret X hr dX8_partOfFraction_44 (by rw [← hR]) rfl
      · replace hR := (if_pos cv5).symm.trans hR
        refine j_lload_n X (q := 1) dX8_partOfFraction_33 rfl ?_
        refine j_lload X (q := 0) dX8_partOfFraction_34 rfl ?_
        obtain ⟨gv7, hR⟩ := gd_some hR
        refine j_ldiv X dX8_partOfFraction_36 (by simpa using gv7) ?_
        refine j_goto X (tgt := 44) dX8_partOfFraction_37 (by decide) ?_
        have hR := Option.some.inj hR
        exact j_lret X hr dX8_partOfFraction_44 (by rw [← hR]) rfl
    · replace hR := (if_pos cv4).symm.trans hR
      refine j_ldc2 X k_399 dX8_partOfFraction_24 ?_
      have hR := Option.some.inj hR
      exact j_lret X hr dX8_partOfFraction_27 (by rw [← hR]) rfl

def rmX8_turns : Room := { frames := 2, cells := 0, slots := 0, locals := 52 }
theorem hdX8_turns : yX8_turns.cls ≠ "java/lang/invoke/MethodHandle" ∧ yX8_turns.cls ≠ "java/lang/invoke/VarHandle" ∧ (parseMethodDescriptor yX8_turns.desc).map (fun d => d.parameters.length) = some 2 := by decide +kernel
def fX8_turns (i1 : Int32) (i2 : Int32) (ik : Int32) (b_nB : Nat → Int32) (se_nB : Int64) (z_nB : Int32) (k_nT : Int32) (f_nTf : Nat → Int32) : Option (Int64) :=
  if i1 < 0 then (some (-9223372036854775808)) else (if i1 < k_nT then ((fX6_beatsOfOneTurn i1 k_nT f_nTf).bind fun ov3 =>
  (fX8_partOfFraction ((b_nB 9).toInt64) ov3 i2).bind fun ov4 =>
  some ov4) else (some (-9223372036854775808)))
set_option maxHeartbeats 8000000 in
set_option maxRecDepth 100000 in
theorem mX8_turns (l : Launch) (D : va_G) (cI cJ cB cT : ClassId) (tt : Nat → Nat) (r_ r_n r_k r_h r_e r_x r_q r_nB r_nT r_nS r_nK r_nBP r_nBA r_nTf : Nat) {i1 : Int32} {i2 : Int32} {ik : Int32} {b_nB : Nat → Int32} {se_nB : Int64} {z_nB : Int32} {k_nT : Int32} {f_nTf : Nat → Int32} {out : Int64} (h : fX8_turns i1 i2 ik b_nB se_nB z_nB k_nT f_nTf = some out) :
    jM l yX8_turns (.code yX8_turns cX8_turns 3 (some .long)) rmX8_turns D (wTy cI cJ cB cT) tt [.ref r_, .int i1, .int i2] [cWB r_ r_n r_k r_h r_e r_x r_q ik, cWho r_n r_nB r_nT r_nS r_nK, cBal r_nB r_nBP r_nBA b_nB se_nB z_nB, cTra r_nT r_nTf k_nT, cIar cI r_nTf 4 f_nTf] (some (.long out)) [cWB r_ r_n r_k r_h r_e r_x r_q ik, cWho r_n r_nB r_nT r_nS r_nK, cBal r_nB r_nBP r_nBA b_nB se_nB z_nB, cTra r_nT r_nTf k_nT, cIar cI r_nTf 4 f_nTf] := by
  refine jM.of (by decide) (Nat.le_of_ble_eq_true rfl) ?_
  intro p e s m below meth c A X hr
  refine j_sub (lv2 := [(0, .ref r_), (1, .int i1), (2, .int i2)]) [0, 1, 2] rfl ?_
  have hR := h
  unfold fX8_turns at hR
  refine j_iload_n X (q := 1) dX8_turns_0 rfl ?_
  refine j_if_lt X (tgt := 18) dX8_turns_1 (by decide) (fun cv1 => ?_) (fun cv1 => ?_)
  · replace hR := (if_pos cv1).symm.trans hR
    refine j_ldc2 X k_399 dX8_turns_18 ?_
    have hR := Option.some.inj hR
    exact j_lret X hr dX8_turns_21 (by rw [← hR]) rfl
  · replace hR := (if_neg cv1).symm.trans hR
    refine j_iload_n X (q := 1) dX8_turns_4 rfl ?_
    refine j_aload_n X (q := 0) dX8_turns_5 rfl ?_
    refine j_get X 0 0 hiX8 k_264 dX8_turns_6 rfl rfl (by decide) rfl ?_
    refine j_get X 1 1 hiX7 k_187 dX8_turns_9 rfl rfl (by decide) rfl ?_
    refine j_get X 3 1 hiX6 k_159 dX8_turns_12 rfl rfl (by decide) rfl ?_
    refine j_icmp_lt X (tgt := 22) dX8_turns_15 (by decide) (fun cv2 => ?_) (fun cv2 => ?_)
    · replace hR := (if_pos cv2).symm.trans hR
      refine j_aload_n X (q := 0) dX8_turns_22 rfl ?_
      refine j_get X 0 0 hiX8 k_264 dX8_turns_23 rfl rfl (by decide) rfl ?_
      refine j_get X 1 0 hiX7 k_185 dX8_turns_26 rfl rfl (by decide) rfl ?_
      refine j_get X 2 6 hiX0 k_108 dX8_turns_29 rfl rfl (by decide) rfl ?_
      refine j_i2l X dX8_turns_32 ?_
      refine j_aload_n X (q := 0) dX8_turns_33 rfl ?_
      refine j_get X 0 0 hiX8 k_264 dX8_turns_34 rfl rfl (by decide) rfl ?_
      refine j_get X 1 1 hiX7 k_187 dX8_turns_37 rfl rfl (by decide) rfl ?_
      refine j_iload_n X (q := 1) dX8_turns_40 rfl ?_
      obtain ⟨ov3, hov3, hR⟩ := bd_some hR
      refine j_callV X (As := [.int i1]) (rest := [.long ((b_nB 9).toInt64)]) (ws2 := [cWB r_ r_n r_k r_h r_e r_x r_q ik, cWho r_n r_nB r_nT r_nS r_nK, cBal r_nB r_nBP r_nBA b_nB se_nB z_nB, cTra r_nT r_nTf k_nT, cIar cI r_nTf 4 f_nTf]) (q0 := 3) (ci := 6) (mX6_beatsOfOneTurn l D cI cJ cB cT tt r_nT r_nTf hov3) [3, 4] [.inl 0, .inl 1, .inl 2, .inr 0, .inr 1] k_403 k_400 k_401 k_402 rfl rfl k_42 hdX6_beatsOfOneTurn (by decide) (Nat.le_of_ble_eq_true rfl) dX8_turns_41 (by decide) rfl rfl (by decide) rfl rfl ?_
      refine j_iload_n X (q := 2) dX8_turns_44 rfl ?_
      obtain ⟨ov4, hov4, hR⟩ := bd_some hR
      refine j_callS X (As := [.long ((b_nB 9).toInt64), .long ov3, .int i2]) (rest := []) (ws2 := [cWB r_ r_n r_k r_h r_e r_x r_q ik, cWho r_n r_nB r_nT r_nS r_nK, cBal r_nB r_nBP r_nBA b_nB se_nB z_nB, cTra r_nT r_nTf k_nT, cIar cI r_nTf 4 f_nTf]) (mX8_partOfFraction l D cI cJ cB cT tt  hov4) [] [.inl 0, .inl 1, .inl 2, .inl 3, .inl 4] k_407 k_405 k_406 k_38 hdX8_partOfFraction (by decide) (Nat.le_of_ble_eq_true rfl) dX8_turns_45 (by decide) rfl rfl (by decide) rfl rfl ?_
      have hR := Option.some.inj hR
      exact j_lret X hr dX8_turns_48 (by rw [← hR]) rfl
    · replace hR := (if_neg cv2).symm.trans hR
      refine j_ldc2 X k_399 dX8_turns_18 ?_
      have hR := Option.some.inj hR
      exact j_lret X hr dX8_turns_21 (by rw [← hR]) rfl

def rmX8_energy : Room := { frames := 1, cells := 0, slots := 0, locals := 20 }
theorem hdX8_energy : yX8_energy.cls ≠ "java/lang/invoke/MethodHandle" ∧ yX8_energy.cls ≠ "java/lang/invoke/VarHandle" ∧ (parseMethodDescriptor yX8_energy.desc).map (fun d => d.parameters.length) = some 1 := by decide +kernel
def fX8_energy (i1 : Int32) (ik : Int32) (b_nB : Nat → Int32) (se_nB : Int64) (z_nB : Int32) (f_nBA : Nat → Int64) : Option (Int64) :=
  if i1 = 4 then ((fX0_energyNow b_nB se_nB z_nB).bind fun ov5 =>
  some ov5) else (if i1 < 0 then (some (-9223372036854775808)) else (if (4 : Int32) ≤ i1 then (some (-9223372036854775808)) else (gd (inb i1 4) (some (f_nBA i1.toNatClampNeg)))))
set_option maxHeartbeats 8000000 in
set_option maxRecDepth 100000 in
theorem mX8_energy (l : Launch) (D : va_G) (cI cJ cB cT : ClassId) (tt : Nat → Nat) (r_ r_n r_k r_h r_e r_x r_q r_nB r_nT r_nS r_nK r_nBP r_nBA : Nat) {i1 : Int32} {ik : Int32} {b_nB : Nat → Int32} {se_nB : Int64} {z_nB : Int32} {f_nBA : Nat → Int64} {out : Int64} (h : fX8_energy i1 ik b_nB se_nB z_nB f_nBA = some out) :
    jM l yX8_energy (.code yX8_energy cX8_energy 2 (some .long)) rmX8_energy D (wTy cI cJ cB cT) tt [.ref r_, .int i1] [cWB r_ r_n r_k r_h r_e r_x r_q ik, cWho r_n r_nB r_nT r_nS r_nK, cBal r_nB r_nBP r_nBA b_nB se_nB z_nB, cJar cJ r_nBA 4 f_nBA] (some (.long out)) [cWB r_ r_n r_k r_h r_e r_x r_q ik, cWho r_n r_nB r_nT r_nS r_nK, cBal r_nB r_nBP r_nBA b_nB se_nB z_nB, cJar cJ r_nBA 4 f_nBA] := by
  refine jM.of (by decide) (Nat.le_of_ble_eq_true rfl) ?_
  intro p e s m below meth c A X hr
  refine j_sub (lv2 := [(0, .ref r_), (1, .int i1)]) [0, 1] rfl ?_
  have hR := h
  unfold fX8_energy at hR
  refine j_iload_n X (q := 1) dX8_energy_0 rfl ?_
  refine j_iconst X (v := 4) dX8_energy_1 (by decide) ?_
  refine j_icmp_ne X (tgt := 16) dX8_energy_2 (by decide) (fun cv1 => ?_) (fun cv1 => ?_)
  · replace hR := (if_neg cv1).symm.trans hR
    refine j_iload_n X (q := 1) dX8_energy_16 rfl ?_
    refine j_if_lt X (tgt := 50) dX8_energy_17 (by decide) (fun cv2 => ?_) (fun cv2 => ?_)
    · replace hR := (if_pos cv2).symm.trans hR
      refine j_ldc2 X k_399 dX8_energy_50 ?_
      have hR := Option.some.inj hR
      exact j_lret X hr dX8_energy_53 (by rw [← hR]) rfl
    · replace hR := (if_neg cv2).symm.trans hR
      refine j_iload_n X (q := 1) dX8_energy_20 rfl ?_
      refine j_aload_n X (q := 0) dX8_energy_21 rfl ?_
      refine j_get X 0 0 hiX8 k_264 dX8_energy_22 rfl rfl (by decide) rfl ?_
      refine j_get X 1 0 hiX7 k_185 dX8_energy_25 rfl rfl (by decide) rfl ?_
      refine j_get X 2 12 hiX0 k_116 dX8_energy_28 rfl rfl (by decide) rfl ?_
      refine j_alen X (v := 4) 3 1 dX8_energy_31 rfl rfl rfl ?_
      refine j_icmp_ge X (tgt := 50) dX8_energy_32 (by decide) (fun cv3 => ?_) (fun cv3 => ?_)
      · replace hR := (if_pos cv3).symm.trans hR
        refine j_ldc2 X k_399 dX8_energy_50 ?_
        have hR := Option.some.inj hR
        exact j_lret X hr dX8_energy_53 (by rw [← hR]) rfl
      · replace hR := (if_neg cv3).symm.trans hR
        refine j_aload_n X (q := 0) dX8_energy_35 rfl ?_
        refine j_get X 0 0 hiX8 k_264 dX8_energy_36 rfl rfl (by decide) rfl ?_
        refine j_get X 1 0 hiX7 k_185 dX8_energy_39 rfl rfl (by decide) rfl ?_
        refine j_get X 2 12 hiX0 k_116 dX8_energy_42 rfl rfl (by decide) rfl ?_
        refine j_iload_n X (q := 1) dX8_energy_45 rfl ?_
        obtain ⟨gv4, hR⟩ := gd_some hR
        refine j_lald X 3 1 rfl dX8_energy_46 rfl rfl gv4 ?_
        refine j_goto X (tgt := 53) dX8_energy_47 (by decide) ?_
        have hR := Option.some.inj hR
        exact j_lret X hr dX8_energy_53 (by rw [← hR]) rfl
  · replace hR := (if_pos cv1).symm.trans hR
    refine j_aload_n X (q := 0) dX8_energy_5 rfl ?_
    refine j_get X 0 0 hiX8 k_264 dX8_energy_6 rfl rfl (by decide) rfl ?_
    refine j_get X 1 0 hiX7 k_185 dX8_energy_9 rfl rfl (by decide) rfl ?_
    obtain ⟨ov5, hov5, hR⟩ := bd_some hR
    refine j_callV X (As := []) (rest := []) (ws2 := [cWB r_ r_n r_k r_h r_e r_x r_q ik, cWho r_n r_nB r_nT r_nS r_nK, cBal r_nB r_nBP r_nBA b_nB se_nB z_nB, cJar cJ r_nBA 4 f_nBA]) (q0 := 2) (ci := 0) (mX0_energyNow l D cI cJ cB cT tt r_nB r_nBP r_nBA hov5) [2] [.inl 0, .inl 1, .inr 0, .inl 3] k_319 k_415 k_317 k_318 rfl rfl k_40 hdX0_energyNow (by decide) (Nat.le_of_ble_eq_true rfl) dX8_energy_12 (by decide) rfl rfl (by decide) rfl rfl ?_
    have hR := Option.some.inj hR
    exact j_lret X hr dX8_energy_15 (by rw [← hR]) rfl

def rmX8_feed : Room := { frames := 1, cells := 0, slots := 0, locals := 22 }
theorem hdX8_feed : yX8_feed.cls ≠ "java/lang/invoke/MethodHandle" ∧ yX8_feed.cls ≠ "java/lang/invoke/VarHandle" ∧ (parseMethodDescriptor yX8_feed.desc).map (fun d => d.parameters.length) = some 1 := by decide +kernel
def fX8_feed (i1 : Int32) (ik : Int32) (le_x : Int32) (cl_x : Int32) (f_xs : Nat → Int32) : Option (Int32 × Int32 × (Nat → Int32)) :=
  (fX8_isBetween i1 0 127).bind fun ov1 =>
  if ov1 = 0 then (some ((-2), le_x, f_xs)) else (if le_x < 100 then ((fX5_add i1 le_x cl_x f_xs).bind fun ov4 =>
  some (ov4.1, ov4.1, ov4.2)) else (some ((-4), le_x, f_xs)))
set_option maxHeartbeats 8000000 in
set_option maxRecDepth 100000 in
theorem mX8_feed (l : Launch) (D : va_G) (cI cJ cB cT : ClassId) (tt : Nat → Nat) (r_ r_n r_k r_h r_e r_x r_q r_xs r_xw r_xm : Nat) {i1 : Int32} {ik : Int32} {le_x : Int32} {cl_x : Int32} {f_xs : Nat → Int32} {out : Int32 × Int32 × (Nat → Int32)} (h : fX8_feed i1 ik le_x cl_x f_xs = some out) :
    jM l yX8_feed (.code yX8_feed cX8_feed 2 (some .int)) rmX8_feed D (wTy cI cJ cB cT) tt [.ref r_, .int i1] [cWB r_ r_n r_k r_h r_e r_x r_q ik, cTex r_x r_xs r_xw r_xm le_x cl_x, cIar cB r_xs 100 f_xs] (some (.int out.1)) [cWB r_ r_n r_k r_h r_e r_x r_q ik, cTex r_x r_xs r_xw r_xm out.2.1 cl_x, cIar cB r_xs 100 out.2.2] := by
  refine jM.of (by decide) (Nat.le_of_ble_eq_true rfl) ?_
  intro p e s m below meth c A X hr
  refine j_sub (lv2 := [(0, .ref r_), (1, .int i1)]) [0, 1] rfl ?_
  have hR := h
  unfold fX8_feed at hR
  refine j_iload_n X (q := 1) dX8_feed_0 rfl ?_
  refine j_iconst X (v := 0) dX8_feed_1 (by decide) ?_
  refine j_bipush X (v := 127) dX8_feed_2 (by decide) ?_
  obtain ⟨ov1, hov1, hR⟩ := bd_some hR
  refine j_callS X (As := [.int i1, .int 0, .int 127]) (rest := []) (ws2 := [cWB r_ r_n r_k r_h r_e r_x r_q ik, cTex r_x r_xs r_xw r_xm le_x cl_x, cIar cB r_xs 100 f_xs]) (mX8_isBetween l D cI cJ cB cT tt  hov1) [] [.inl 0, .inl 1, .inl 2] k_299 k_297 k_298 k_38 hdX8_isBetween (by decide) (Nat.le_of_ble_eq_true rfl) dX8_feed_4 (by decide) rfl rfl (by decide) rfl rfl ?_
  refine j_if_ne X (tgt := 13) dX8_feed_7 (by decide) (fun cv2 => ?_) (fun cv2 => ?_)
  · replace hR := (if_neg cv2).symm.trans hR
    refine j_aload_n X (q := 0) dX8_feed_13 rfl ?_
    refine j_get X 0 5 hiX8 k_269 dX8_feed_14 rfl rfl (by decide) rfl ?_
    refine j_get X 1 1 hiX5 k_225 dX8_feed_17 rfl rfl (by decide) rfl ?_
    refine j_bipush X (v := 100) dX8_feed_20 (by decide) ?_
    refine j_icmp_lt X (tgt := 28) dX8_feed_22 (by decide) (fun cv3 => ?_) (fun cv3 => ?_)
    · replace hR := (if_pos cv3).symm.trans hR
      refine j_aload_n X (q := 0) dX8_feed_28 rfl ?_
      refine j_get X 0 5 hiX8 k_269 dX8_feed_29 rfl rfl (by decide) rfl ?_
      refine j_iload_n X (q := 1) dX8_feed_32 rfl ?_
      obtain ⟨ov4, hov4, hR⟩ := bd_some hR
      refine j_callV X (As := [.int i1]) (rest := []) (ws2 := [cWB r_ r_n r_k r_h r_e r_x r_q ik, cTex r_x r_xs r_xw r_xm ov4.1 cl_x, cIar cB r_xs 100 ov4.2]) (q0 := 1) (ci := 5) (mX5_add l D cI cJ cB cT tt r_x r_xs r_xw r_xm hov4) [1, 2] [.inl 0, .inr 0, .inr 1] k_423 k_420 k_421 k_422 rfl rfl k_45 hdX5_add (by decide) (Nat.le_of_ble_eq_true rfl) dX8_feed_33 (by decide) rfl rfl (by decide) rfl rfl ?_
      refine j_aload_n X (q := 0) dX8_feed_36 rfl ?_
      refine j_get X 0 5 hiX8 k_269 dX8_feed_37 rfl rfl (by decide) rfl ?_
      refine j_get X 1 1 hiX5 k_225 dX8_feed_40 rfl rfl (by decide) rfl ?_
      have hR := Option.some.inj hR
      exact j_iret X hr dX8_feed_43 (by rw [← hR]) (by rw [← hR])
    · replace hR := (if_neg cv3).symm.trans hR
      refine j_bipush X (v := (-4)) dX8_feed_25 (by decide) ?_
      have hR := Option.some.inj hR
      exact j_iret X hr dX8_feed_27 (by rw [← hR]) (by rw [← hR])
  · replace hR := (if_pos cv2).symm.trans hR
    refine j_bipush X (v := (-2)) dX8_feed_10 (by decide) ?_
    have hR := Option.some.inj hR
    exact j_iret X hr dX8_feed_12 (by rw [← hR]) (by rw [← hR])

def rmX8_isClauseDone : Room := { frames := 5, cells := 0, slots := 0, locals := 103 }
theorem hdX8_isClauseDone : yX8_isClauseDone.cls ≠ "java/lang/invoke/MethodHandle" ∧ yX8_isClauseDone.cls ≠ "java/lang/invoke/VarHandle" ∧ (parseMethodDescriptor yX8_isClauseDone.desc).map (fun d => d.parameters.length) = some 2 := by decide +kernel
def fX8_isClauseDone (i1 : Int32) (i2 : Int32) (ik : Int32) (b_nB : Nat → Int32) (se_nB : Int64) (z_nB : Int32) (k_nT : Int32) (f_nBA : Nat → Int64) (k_nBP : Int32) (f_nTf : Nat → Int32) (f_nBPs : Nat → Int32) (f_nBPt : Nat → Int32) (f_nBPw : Nat → Int32) : Option (Int32 × (Nat → Int32) × Int64 × Int32 × (Nat → Int64) × Int32 × (Nat → Int32) × (Nat → Int32) × (Nat → Int32) × (Nat → Int32)) :=
  if i1 = 7 then ((fX8_wheel i2 ik k_nT f_nTf).bind fun ov8 =>
  if ov8.1 < 0 then (some (0, b_nB, se_nB, ov8.2.1, f_nBA, k_nBP, ov8.2.2, f_nBPs, f_nBPt, f_nBPw)) else (some (1, b_nB, se_nB, ov8.2.1, f_nBA, k_nBP, ov8.2.2, f_nBPs, f_nBPt, f_nBPw))) else (if i1 = 8 then ((fX8_go i2 ik b_nB se_nB z_nB f_nBA k_nBP f_nBPs f_nBPt f_nBPw).bind fun ov6 =>
  if ov6.1 < 0 then (some (0, ov6.2.1, ov6.2.2.1, k_nT, ov6.2.2.2.1, ov6.2.2.2.2.1, f_nTf, ov6.2.2.2.2.2.1, ov6.2.2.2.2.2.2.1, ov6.2.2.2.2.2.2.2)) else (some (1, ov6.2.1, ov6.2.2.1, k_nT, ov6.2.2.2.1, ov6.2.2.2.2.1, f_nTf, ov6.2.2.2.2.2.1, ov6.2.2.2.2.2.2.1, ov6.2.2.2.2.2.2.2))) else ((fX8_isSettable i1 i2).bind fun ov3 =>
  if ov3 = 0 then (some (0, b_nB, se_nB, k_nT, f_nBA, k_nBP, f_nTf, f_nBPs, f_nBPt, f_nBPw)) else ((fX0_putByHand i1 i2 b_nB se_nB z_nB f_nBA).bind fun ov5 =>
  some (1, ov5.1, ov5.2.1, k_nT, ov5.2.2, k_nBP, f_nTf, f_nBPs, f_nBPt, f_nBPw))))
set_option maxHeartbeats 8000000 in
set_option maxRecDepth 100000 in
theorem mX8_isClauseDone (l : Launch) (D : va_G) (cI cJ cB cT : ClassId) (tt : Nat → Nat) (r_ r_n r_k r_h r_e r_x r_q r_nB r_nT r_nS r_nK r_nBP r_nBA r_nTf r_nBPt r_nBPw r_nBPs : Nat) {i1 : Int32} {i2 : Int32} {ik : Int32} {b_nB : Nat → Int32} {se_nB : Int64} {z_nB : Int32} {k_nT : Int32} {f_nBA : Nat → Int64} {k_nBP : Int32} {f_nTf : Nat → Int32} {f_nBPs : Nat → Int32} {f_nBPt : Nat → Int32} {f_nBPw : Nat → Int32} {out : Int32 × (Nat → Int32) × Int64 × Int32 × (Nat → Int64) × Int32 × (Nat → Int32) × (Nat → Int32) × (Nat → Int32) × (Nat → Int32)} (h : fX8_isClauseDone i1 i2 ik b_nB se_nB z_nB k_nT f_nBA k_nBP f_nTf f_nBPs f_nBPt f_nBPw = some out) :
    jM l yX8_isClauseDone (.code yX8_isClauseDone cX8_isClauseDone 3 (some .boolean)) rmX8_isClauseDone D (wTy cI cJ cB cT) tt [.ref r_, .int i1, .int i2] [cWB r_ r_n r_k r_h r_e r_x r_q ik, cWho r_n r_nB r_nT r_nS r_nK, cBal r_nB r_nBP r_nBA b_nB se_nB z_nB, cTra r_nT r_nTf k_nT, cJar cJ r_nBA 4 f_nBA, cPus r_nBP r_nBPt r_nBPw r_nBPs k_nBP, cIar cI r_nTf 4 f_nTf, cIar cI r_nBPs 8 f_nBPs, cIar cI r_nBPt 8 f_nBPt, cIar cI r_nBPw 8 f_nBPw] (some (.int out.1)) [cWB r_ r_n r_k r_h r_e r_x r_q ik, cWho r_n r_nB r_nT r_nS r_nK, cBal r_nB r_nBP r_nBA out.2.1 out.2.2.1 z_nB, cTra r_nT r_nTf out.2.2.2.1, cJar cJ r_nBA 4 out.2.2.2.2.1, cPus r_nBP r_nBPt r_nBPw r_nBPs out.2.2.2.2.2.1, cIar cI r_nTf 4 out.2.2.2.2.2.2.1, cIar cI r_nBPs 8 out.2.2.2.2.2.2.2.1, cIar cI r_nBPt 8 out.2.2.2.2.2.2.2.2.1, cIar cI r_nBPw 8 out.2.2.2.2.2.2.2.2.2] := by
  refine jM.of (by decide) (Nat.le_of_ble_eq_true rfl) ?_
  intro p e s m below meth c A X hr
  refine j_sub (lv2 := [(0, .ref r_), (1, .int i1), (2, .int i2)]) [0, 1, 2] rfl ?_
  have hR := h
  unfold fX8_isClauseDone at hR
  refine j_iload_n X (q := 1) dX8_isClauseDone_0 rfl ?_
  refine j_bipush X (v := 7) dX8_isClauseDone_1 (by decide) ?_
  refine j_icmp_ne X (tgt := 20) dX8_isClauseDone_3 (by decide) (fun cv1 => ?_) (fun cv1 => ?_)
  · replace hR := (if_neg cv1).symm.trans hR
    refine j_iload_n X (q := 1) dX8_isClauseDone_20 rfl ?_
    refine j_bipush X (v := 8) dX8_isClauseDone_21 (by decide) ?_
    refine j_icmp_ne X (tgt := 40) dX8_isClauseDone_23 (by decide) (fun cv2 => ?_) (fun cv2 => ?_)
    · replace hR := (if_neg cv2).symm.trans hR
      refine j_iload_n X (q := 1) dX8_isClauseDone_40 rfl ?_
      refine j_iload_n X (q := 2) dX8_isClauseDone_41 rfl ?_
      obtain ⟨ov3, hov3, hR⟩ := bd_some hR
      refine j_callS X (As := [.int i1, .int i2]) (rest := []) (ws2 := [cWB r_ r_n r_k r_h r_e r_x r_q ik, cWho r_n r_nB r_nT r_nS r_nK, cBal r_nB r_nBP r_nBA b_nB se_nB z_nB, cTra r_nT r_nTf k_nT, cJar cJ r_nBA 4 f_nBA, cPus r_nBP r_nBPt r_nBPw r_nBPs k_nBP, cIar cI r_nTf 4 f_nTf, cIar cI r_nBPs 8 f_nBPs, cIar cI r_nBPt 8 f_nBPt, cIar cI r_nBPw 8 f_nBPw]) (mX8_isSettable l D cI cJ cB cT tt  hov3) [] [.inl 0, .inl 1, .inl 2, .inl 3, .inl 4, .inl 5, .inl 6, .inl 7, .inl 8, .inl 9] k_292 k_290 k_291 k_38 hdX8_isSettable (by decide) (Nat.le_of_ble_eq_true rfl) dX8_isClauseDone_42 (by decide) rfl rfl (by decide) rfl rfl ?_
      refine j_if_ne X (tgt := 50) dX8_isClauseDone_45 (by decide) (fun cv4 => ?_) (fun cv4 => ?_)
      · replace hR := (if_neg cv4).symm.trans hR
        refine j_aload_n X (q := 0) dX8_isClauseDone_50 rfl ?_
        refine j_get X 0 0 hiX8 k_264 dX8_isClauseDone_51 rfl rfl (by decide) rfl ?_
        refine j_get X 1 0 hiX7 k_185 dX8_isClauseDone_54 rfl rfl (by decide) rfl ?_
        refine j_iload_n X (q := 1) dX8_isClauseDone_57 rfl ?_
        refine j_iload_n X (q := 2) dX8_isClauseDone_58 rfl ?_
        obtain ⟨ov5, hov5, hR⟩ := bd_some hR
        refine j_callV X (As := [.int i1, .int i2]) (rest := []) (ws2 := [cWB r_ r_n r_k r_h r_e r_x r_q ik, cWho r_n r_nB r_nT r_nS r_nK, cBal r_nB r_nBP r_nBA ov5.1 ov5.2.1 z_nB, cTra r_nT r_nTf k_nT, cJar cJ r_nBA 4 ov5.2.2, cPus r_nBP r_nBPt r_nBPw r_nBPs k_nBP, cIar cI r_nTf 4 f_nTf, cIar cI r_nBPs 8 f_nBPs, cIar cI r_nBPt 8 f_nBPt, cIar cI r_nBPw 8 f_nBPw]) (q0 := 2) (ci := 0) (mX0_putByHand l D cI cJ cB cT tt r_nB r_nBP r_nBA hov5) [2, 4] [.inl 0, .inl 1, .inr 0, .inl 3, .inr 1, .inl 5, .inl 6, .inl 7, .inl 8, .inl 9] k_307 k_304 k_305 k_306 rfl rfl k_40 hdX0_putByHand (by decide) (Nat.le_of_ble_eq_true rfl) dX8_isClauseDone_59 (by decide) rfl rfl (by decide) rfl rfl ?_
        refine j_iconst X (v := 1) dX8_isClauseDone_62 (by decide) ?_
        have hR := Option.some.inj hR
        exact j_zret X hr rfl dX8_isClauseDone_63 (by rw [← hR]) (by rw [← hR])
      · replace hR := (if_pos cv4).symm.trans hR
        refine j_iconst X (v := 0) dX8_isClauseDone_48 (by decide) ?_
        have hR := Option.some.inj hR
        exact j_zret X hr rfl dX8_isClauseDone_49 (by rw [← hR]) (by rw [← hR])
    · replace hR := (if_pos cv2).symm.trans hR
      refine j_aload_n X (q := 0) dX8_isClauseDone_26 rfl ?_
      refine j_iload_n X (q := 2) dX8_isClauseDone_27 rfl ?_
      obtain ⟨ov6, hov6, hR⟩ := bd_some hR
      refine j_callV X (As := [.int i2]) (rest := []) (ws2 := [cWB r_ r_n r_k r_h r_e r_x r_q ik, cWho r_n r_nB r_nT r_nS r_nK, cBal r_nB r_nBP r_nBA ov6.2.1 ov6.2.2.1 z_nB, cTra r_nT r_nTf k_nT, cJar cJ r_nBA 4 ov6.2.2.2.1, cPus r_nBP r_nBPt r_nBPw r_nBPs ov6.2.2.2.2.1, cIar cI r_nTf 4 f_nTf, cIar cI r_nBPs 8 ov6.2.2.2.2.2.1, cIar cI r_nBPt 8 ov6.2.2.2.2.2.2.1, cIar cI r_nBPw 8 ov6.2.2.2.2.2.2.2]) (q0 := 0) (ci := 8) (mX8_go l D cI cJ cB cT tt r_ r_n r_k r_h r_e r_x r_q r_nB r_nT r_nS r_nK r_nBP r_nBA r_nBPt r_nBPw r_nBPs hov6) [0, 1, 2, 4, 5, 7, 8, 9] [.inr 0, .inr 1, .inr 2, .inl 3, .inr 3, .inr 4, .inl 6, .inr 5, .inr 6, .inr 7] k_348 k_456 k_346 k_347 rfl rfl k_38 hdX8_go (by decide) (Nat.le_of_ble_eq_true rfl) dX8_isClauseDone_28 (by decide) rfl rfl (by decide) rfl rfl ?_
      refine j_if_lt X (tgt := 38) dX8_isClauseDone_31 (by decide) (fun cv7 => ?_) (fun cv7 => ?_)
      · replace hR := (if_pos cv7).symm.trans hR
        refine j_iconst X (v := 0) dX8_isClauseDone_38 (by decide) ?_
        have hR := Option.some.inj hR
        exact j_zret X hr rfl dX8_isClauseDone_39 (by rw [← hR]) (by rw [← hR])
      · replace hR := (if_neg cv7).symm.trans hR
        refine j_iconst X (v := 1) dX8_isClauseDone_34 (by decide) ?_
        refine j_goto X (tgt := 39) dX8_isClauseDone_35 (by decide) ?_
        have hR := Option.some.inj hR
        exact j_zret X hr rfl dX8_isClauseDone_39 (by rw [← hR]) (by rw [← hR])
  · replace hR := (if_pos cv1).symm.trans hR
    refine j_aload_n X (q := 0) dX8_isClauseDone_6 rfl ?_
    refine j_iload_n X (q := 2) dX8_isClauseDone_7 rfl ?_
    obtain ⟨ov8, hov8, hR⟩ := bd_some hR
    refine j_callV X (As := [.int i2]) (rest := []) (ws2 := [cWB r_ r_n r_k r_h r_e r_x r_q ik, cWho r_n r_nB r_nT r_nS r_nK, cBal r_nB r_nBP r_nBA b_nB se_nB z_nB, cTra r_nT r_nTf ov8.2.1, cJar cJ r_nBA 4 f_nBA, cPus r_nBP r_nBPt r_nBPw r_nBPs k_nBP, cIar cI r_nTf 4 ov8.2.2, cIar cI r_nBPs 8 f_nBPs, cIar cI r_nBPt 8 f_nBPt, cIar cI r_nBPw 8 f_nBPw]) (q0 := 0) (ci := 8) (mX8_wheel l D cI cJ cB cT tt r_ r_n r_k r_h r_e r_x r_q r_nB r_nT r_nS r_nK r_nTf hov8) [0, 1, 3, 6] [.inr 0, .inr 1, .inl 2, .inr 2, .inl 4, .inl 5, .inr 3, .inl 7, .inl 8, .inl 9] k_390 k_455 k_388 k_389 rfl rfl k_38 hdX8_wheel (by decide) (Nat.le_of_ble_eq_true rfl) dX8_isClauseDone_8 (by decide) rfl rfl (by decide) rfl rfl ?_
    refine j_if_lt X (tgt := 18) dX8_isClauseDone_11 (by decide) (fun cv9 => ?_) (fun cv9 => ?_)
    · replace hR := (if_pos cv9).symm.trans hR
      refine j_iconst X (v := 0) dX8_isClauseDone_18 (by decide) ?_
      have hR := Option.some.inj hR
      exact j_zret X hr rfl dX8_isClauseDone_19 (by rw [← hR]) (by rw [← hR])
    · replace hR := (if_neg cv9).symm.trans hR
      refine j_iconst X (v := 1) dX8_isClauseDone_14 (by decide) ?_
      refine j_goto X (tgt := 19) dX8_isClauseDone_15 (by decide) ?_
      have hR := Option.some.inj hR
      exact j_zret X hr rfl dX8_isClauseDone_19 (by rw [← hR]) (by rw [← hR])

def rmX8_read : Room := { frames := 6, cells := 0, slots := 0, locals := 125 }
theorem hdX8_read : yX8_read.cls ≠ "java/lang/invoke/MethodHandle" ∧ yX8_read.cls ≠ "java/lang/invoke/VarHandle" ∧ (parseMethodDescriptor yX8_read.desc).map (fun d => d.parameters.length) = some 0 := by decide +kernel
def fX8_read_30 (ik : Int32) (z_nB : Int32) (f_xs : Nat → Int32) : Nat → Int32 → Int32 → Int32 → Int32 → (Nat → Int32) → Int64 → Int32 → (Nat → Int32) → (Nat → Int32) → (Nat → Int64) → Int32 → (Nat → Int32) → (Nat → Int32) → (Nat → Int32) → (Nat → Int32) → Option (Int32 × Int32 × Int32 × (Nat → Int32) × Int64 × Int32 × (Nat → Int32) × (Nat → Int32) × (Nat → Int64) × Int32 × (Nat → Int32) × (Nat → Int32) × (Nat → Int32) × (Nat → Int32))
  | 0, _, _, _, _, _, _, _, _, _, _, _, _, _, _, _ => none
  | fu + 1, x2, x3, le_x, cl_x, b_nB, se_nB, k_nT, f_xm, f_xw, f_nBA, k_nBP, f_nTf, f_nBPs, f_nBPt, f_nBPw =>
    if cl_x ≤ x3 then (some (x2, le_x, cl_x, b_nB, se_nB, k_nT, f_xm, f_xw, f_nBA, k_nBP, f_nTf, f_nBPs, f_nBPt, f_nBPw)) else (if (12 : Int32) ≤ x3 then (some (x2, le_x, cl_x, b_nB, se_nB, k_nT, f_xm, f_xw, f_nBA, k_nBP, f_nTf, f_nBPs, f_nBPt, f_nBPw)) else (gd (inb x3 12) (gd (inb x3 12) ((fX8_isClauseDone (f_xw x3.toNatClampNeg) (f_xm x3.toNatClampNeg) ik b_nB se_nB z_nB k_nT f_nBA k_nBP f_nTf f_nBPs f_nBPt f_nBPw).bind fun ov7 =>
  if ov7.1 = 0 then (lt' (x3 + 1) fun x3v9 =>
  fX8_read_30 ik z_nB f_xs fu x2 x3v9 le_x cl_x ov7.2.1 ov7.2.2.1 ov7.2.2.2.1 f_xm f_xw ov7.2.2.2.2.1 ov7.2.2.2.2.2.1 ov7.2.2.2.2.2.2.1 ov7.2.2.2.2.2.2.2.1 ov7.2.2.2.2.2.2.2.2.1 ov7.2.2.2.2.2.2.2.2.2) else (lt' (x2 + 1) fun x2v10 =>
  lt' (x3 + 1) fun x3v11 =>
  fX8_read_30 ik z_nB f_xs fu x2v10 x3v11 le_x cl_x ov7.2.1 ov7.2.2.1 ov7.2.2.2.1 f_xm f_xw ov7.2.2.2.2.1 ov7.2.2.2.2.2.1 ov7.2.2.2.2.2.2.1 ov7.2.2.2.2.2.2.2.1 ov7.2.2.2.2.2.2.2.2.1 ov7.2.2.2.2.2.2.2.2.2)))))
def fX8_read (ik : Int32) (le_x : Int32) (cl_x : Int32) (b_nB : Nat → Int32) (se_nB : Int64) (z_nB : Int32) (k_nT : Int32) (f_xm : Nat → Int32) (f_xs : Nat → Int32) (f_xw : Nat → Int32) (f_nBA : Nat → Int64) (k_nBP : Int32) (f_nTf : Nat → Int32) (f_nBPs : Nat → Int32) (f_nBPt : Nat → Int32) (f_nBPw : Nat → Int32) : Option (Int32 × Int32 × Int32 × (Nat → Int32) × Int64 × Int32 × (Nat → Int32) × (Nat → Int32) × (Nat → Int64) × Int32 × (Nat → Int32) × (Nat → Int32) × (Nat → Int32) × (Nat → Int32)) :=
  (fX5_parse le_x cl_x f_xm f_xs f_xw).bind fun ov1 =>
  if ov1.1 = (-1) then (fX8_read_30 ik z_nB f_xs 500 0 0 0 ov1.2.1 b_nB se_nB k_nT ov1.2.2.1 ov1.2.2.2 f_nBA k_nBP f_nTf f_nBPs f_nBPt f_nBPw) else (some (((-10) : Int32) - ov1.1, 0, ov1.2.1, b_nB, se_nB, k_nT, ov1.2.2.1, ov1.2.2.2, f_nBA, k_nBP, f_nTf, f_nBPs, f_nBPt, f_nBPw))
set_option maxHeartbeats 8000000 in
set_option maxRecDepth 100000 in
theorem mX8_read (l : Launch) (D : va_G) (cI cJ cB cT : ClassId) (tt : Nat → Nat) (r_ r_n r_k r_h r_e r_x r_q r_nB r_nT r_nS r_nK r_xs r_xw r_xm r_nBP r_nBA r_nTf r_nBPt r_nBPw r_nBPs : Nat)  {ik : Int32} {le_x : Int32} {cl_x : Int32} {b_nB : Nat → Int32} {se_nB : Int64} {z_nB : Int32} {k_nT : Int32} {f_xm : Nat → Int32} {f_xs : Nat → Int32} {f_xw : Nat → Int32} {f_nBA : Nat → Int64} {k_nBP : Int32} {f_nTf : Nat → Int32} {f_nBPs : Nat → Int32} {f_nBPt : Nat → Int32} {f_nBPw : Nat → Int32} {out : Int32 × Int32 × Int32 × (Nat → Int32) × Int64 × Int32 × (Nat → Int32) × (Nat → Int32) × (Nat → Int64) × Int32 × (Nat → Int32) × (Nat → Int32) × (Nat → Int32) × (Nat → Int32)} (h : fX8_read ik le_x cl_x b_nB se_nB z_nB k_nT f_xm f_xs f_xw f_nBA k_nBP f_nTf f_nBPs f_nBPt f_nBPw = some out) :
    jM l yX8_read (.code yX8_read cX8_read 4 (some .int)) rmX8_read D (wTy cI cJ cB cT) tt [.ref r_] [cWB r_ r_n r_k r_h r_e r_x r_q ik, cWho r_n r_nB r_nT r_nS r_nK, cTex r_x r_xs r_xw r_xm le_x cl_x, cBal r_nB r_nBP r_nBA b_nB se_nB z_nB, cTra r_nT r_nTf k_nT, cIar cI r_xm 12 f_xm, cIar cB r_xs 100 f_xs, cIar cI r_xw 12 f_xw, cJar cJ r_nBA 4 f_nBA, cPus r_nBP r_nBPt r_nBPw r_nBPs k_nBP, cIar cI r_nTf 4 f_nTf, cIar cI r_nBPs 8 f_nBPs, cIar cI r_nBPt 8 f_nBPt, cIar cI r_nBPw 8 f_nBPw] (some (.int out.1)) [cWB r_ r_n r_k r_h r_e r_x r_q ik, cWho r_n r_nB r_nT r_nS r_nK, cTex r_x r_xs r_xw r_xm out.2.1 out.2.2.1, cBal r_nB r_nBP r_nBA out.2.2.2.1 out.2.2.2.2.1 z_nB, cTra r_nT r_nTf out.2.2.2.2.2.1, cIar cI r_xm 12 out.2.2.2.2.2.2.1, cIar cB r_xs 100 f_xs, cIar cI r_xw 12 out.2.2.2.2.2.2.2.1, cJar cJ r_nBA 4 out.2.2.2.2.2.2.2.2.1, cPus r_nBP r_nBPt r_nBPw r_nBPs out.2.2.2.2.2.2.2.2.2.1, cIar cI r_nTf 4 out.2.2.2.2.2.2.2.2.2.2.1, cIar cI r_nBPs 8 out.2.2.2.2.2.2.2.2.2.2.2.1, cIar cI r_nBPt 8 out.2.2.2.2.2.2.2.2.2.2.2.2.1, cIar cI r_nBPw 8 out.2.2.2.2.2.2.2.2.2.2.2.2.2] := by
  refine jM.of (by decide) (Nat.le_of_ble_eq_true rfl) ?_
  intro p e s m below meth c A X hr
  have L_30 : ∀ (fuel : Nat) (x2 : Int32) (x3 : Int32) (le_x : Int32) (cl_x : Int32) (b_nB : Nat → Int32) (se_nB : Int64) (k_nT : Int32) (f_xm : Nat → Int32) (f_xw : Nat → Int32) (f_nBA : Nat → Int64) (k_nBP : Int32) (f_nTf : Nat → Int32) (f_nBPs : Nat → Int32) (f_nBPt : Nat → Int32) (f_nBPw : Nat → Int32), fX8_read_30 ik z_nB f_xs  fuel x2 x3 le_x cl_x b_nB se_nB k_nT f_xm f_xw f_nBA k_nBP f_nTf f_nBPs f_nBPt f_nBPw = some out → jW p l e rmX8_read s m ([.ref r_] : List Value).toArray below meth c D A 4 (MQ below (jQ D (some (.int out.1)) [cWB r_ r_n r_k r_h r_e r_x r_q ik, cWho r_n r_nB r_nT r_nS r_nK, cTex r_x r_xs r_xw r_xm out.2.1 out.2.2.1, cBal r_nB r_nBP r_nBA out.2.2.2.1 out.2.2.2.2.1 z_nB, cTra r_nT r_nTf out.2.2.2.2.2.1, cIar cI r_xm 12 out.2.2.2.2.2.2.1, cIar cB r_xs 100 f_xs, cIar cI r_xw 12 out.2.2.2.2.2.2.2.1, cJar cJ r_nBA 4 out.2.2.2.2.2.2.2.2.1, cPus r_nBP r_nBPt r_nBPw r_nBPs out.2.2.2.2.2.2.2.2.2.1, cIar cI r_nTf 4 out.2.2.2.2.2.2.2.2.2.2.1, cIar cI r_nBPs 8 out.2.2.2.2.2.2.2.2.2.2.2.1, cIar cI r_nBPt 8 out.2.2.2.2.2.2.2.2.2.2.2.2.1, cIar cI r_nBPw 8 out.2.2.2.2.2.2.2.2.2.2.2.2.2] A) ([.ref r_] : List Value).toArray s 0 0 A) 0 0 30 [(0, .ref r_), (2, .int x2), (3, .int x3)] [] [cWB r_ r_n r_k r_h r_e r_x r_q ik, cWho r_n r_nB r_nT r_nS r_nK, cTex r_x r_xs r_xw r_xm le_x cl_x, cBal r_nB r_nBP r_nBA b_nB se_nB z_nB, cTra r_nT r_nTf k_nT, cIar cI r_xm 12 f_xm, cIar cB r_xs 100 f_xs, cIar cI r_xw 12 f_xw, cJar cJ r_nBA 4 f_nBA, cPus r_nBP r_nBPt r_nBPw r_nBPs k_nBP, cIar cI r_nTf 4 f_nTf, cIar cI r_nBPs 8 f_nBPs, cIar cI r_nBPt 8 f_nBPt, cIar cI r_nBPw 8 f_nBPw] := by
    intro  fuel
    induction fuel with
    | zero =>
      intro x2 x3 le_x cl_x b_nB se_nB k_nT f_xm f_xw f_nBA k_nBP f_nTf f_nBPs f_nBPt f_nBPw hR
      rw [fX8_read_30] at hR
      cases hR
    | succ fu ih =>
      intro x2 x3 le_x cl_x b_nB se_nB k_nT f_xm f_xw f_nBA k_nBP f_nTf f_nBPs f_nBPt f_nBPw hR
      rw [fX8_read_30] at hR
      refine j_iload_n X (q := 2) dX8_read_30 rfl ?_
      refine j_aload_n X (q := 0) dX8_read_31 rfl ?_
      refine j_get X 0 5 hiX8 k_269 dX8_read_32 rfl rfl (by decide) rfl ?_
      refine j_get X 2 4 hiX5 k_231 dX8_read_35 rfl rfl (by decide) rfl ?_
      refine j_icmp_ge X (tgt := 81) dX8_read_38 (by decide) (fun cv3 => ?_) (fun cv3 => ?_)
      · replace hR := (if_pos cv3).symm.trans hR
        refine j_iload_n X (q := 1) dX8_read_81 rfl ?_
        have hR := Option.some.inj hR
        exact j_iret X hr dX8_read_82 (by rw [← hR]) (by rw [← hR])
      · replace hR := (if_neg cv3).symm.trans hR
        refine j_iload_n X (q := 2) dX8_read_41 rfl ?_
        refine j_bipush X (v := 12) dX8_read_42 (by decide) ?_
        refine j_icmp_ge X (tgt := 81) dX8_read_44 (by decide) (fun cv4 => ?_) (fun cv4 => ?_)
        · replace hR := (if_pos cv4).symm.trans hR
          refine j_iload_n X (q := 1) dX8_read_81 rfl ?_
          have hR := Option.some.inj hR
          exact j_iret X hr dX8_read_82 (by rw [← hR]) (by rw [← hR])
        · replace hR := (if_neg cv4).symm.trans hR
          refine j_aload_n X (q := 0) dX8_read_47 rfl ?_
          refine j_aload_n X (q := 0) dX8_read_48 rfl ?_
          refine j_get X 0 5 hiX8 k_269 dX8_read_49 rfl rfl (by decide) rfl ?_
          refine j_get X 2 2 hiX5 k_227 dX8_read_52 rfl rfl (by decide) rfl ?_
          refine j_iload_n X (q := 2) dX8_read_55 rfl ?_
          obtain ⟨gv5, hR⟩ := gd_some hR
          refine j_iald X 7 0 rfl dX8_read_56 rfl rfl gv5 ?_
          refine j_aload_n X (q := 0) dX8_read_57 rfl ?_
          refine j_get X 0 5 hiX8 k_269 dX8_read_58 rfl rfl (by decide) rfl ?_
          refine j_get X 2 3 hiX5 k_229 dX8_read_61 rfl rfl (by decide) rfl ?_
          refine j_iload_n X (q := 2) dX8_read_64 rfl ?_
          obtain ⟨gv6, hR⟩ := gd_some hR
          refine j_iald X 5 0 rfl dX8_read_65 rfl rfl gv6 ?_
          obtain ⟨ov7, hov7, hR⟩ := bd_some hR
          refine j_callV X (As := [.int (f_xw x3.toNatClampNeg), .int (f_xm x3.toNatClampNeg)]) (rest := []) (ws2 := [cWB r_ r_n r_k r_h r_e r_x r_q ik, cWho r_n r_nB r_nT r_nS r_nK, cTex r_x r_xs r_xw r_xm le_x cl_x, cBal r_nB r_nBP r_nBA ov7.2.1 ov7.2.2.1 z_nB, cTra r_nT r_nTf ov7.2.2.2.1, cIar cI r_xm 12 f_xm, cIar cB r_xs 100 f_xs, cIar cI r_xw 12 f_xw, cJar cJ r_nBA 4 ov7.2.2.2.2.1, cPus r_nBP r_nBPt r_nBPw r_nBPs ov7.2.2.2.2.2.1, cIar cI r_nTf 4 ov7.2.2.2.2.2.2.1, cIar cI r_nBPs 8 ov7.2.2.2.2.2.2.2.1, cIar cI r_nBPt 8 ov7.2.2.2.2.2.2.2.2.1, cIar cI r_nBPw 8 ov7.2.2.2.2.2.2.2.2.2]) (q0 := 0) (ci := 8) (mX8_isClauseDone l D cI cJ cB cT tt r_ r_n r_k r_h r_e r_x r_q r_nB r_nT r_nS r_nK r_nBP r_nBA r_nTf r_nBPt r_nBPw r_nBPs hov7) [0, 1, 3, 4, 8, 9, 10, 11, 12, 13] [.inr 0, .inr 1, .inl 2, .inr 2, .inr 3, .inl 5, .inl 6, .inl 7, .inr 4, .inr 5, .inr 6, .inr 7, .inr 8, .inr 9] k_454 k_451 k_453 k_11 rfl rfl k_38 hdX8_isClauseDone (by decide) (Nat.le_of_ble_eq_true rfl) dX8_read_66 (by decide) rfl rfl (by decide) rfl rfl ?_
          refine j_if_eq X (tgt := 75) dX8_read_69 (by decide) (fun cv8 => ?_) (fun cv8 => ?_)
          · replace hR := (if_pos cv8).symm.trans hR
            obtain ⟨x3v9, ex3v9, hR⟩ := lt_some hR
            refine j_iinc X (k := 2) (v := x3v9) (lv2 := [(3, .int x3v9), (0, .ref r_), (2, .int x2)]) dX8_read_75 rfl (by rw [← ex3v9]; rfl) (by decide) rfl ?_
            refine j_goto X (tgt := 30) dX8_read_78 (by decide) ?_
            refine j_sub (lv2 := [(0, .ref r_), (2, .int x2), (3, .int x3v9)]) [1, 2, 0] rfl ?_
            exact ih _ _ _ _ _ _ _ _ _ _ _ _ _ _ _ hR
          · replace hR := (if_neg cv8).symm.trans hR
            obtain ⟨x2v10, ex2v10, hR⟩ := lt_some hR
            refine j_iinc X (k := 1) (v := x2v10) (lv2 := [(2, .int x2v10), (0, .ref r_), (3, .int x3)]) dX8_read_72 rfl (by rw [← ex2v10]; rfl) (by decide) rfl ?_
            obtain ⟨x3v11, ex3v11, hR⟩ := lt_some hR
            refine j_iinc X (k := 2) (v := x3v11) (lv2 := [(3, .int x3v11), (2, .int x2v10), (0, .ref r_)]) dX8_read_75 rfl (by rw [← ex3v11]; rfl) (by decide) rfl ?_
            refine j_goto X (tgt := 30) dX8_read_78 (by decide) ?_
            refine j_sub (lv2 := [(0, .ref r_), (2, .int x2v10), (3, .int x3v11)]) [2, 1, 0] rfl ?_
            exact ih _ _ _ _ _ _ _ _ _ _ _ _ _ _ _ hR
  refine j_sub (lv2 := [(0, .ref r_)]) [0] rfl ?_
  have hR := h
  unfold fX8_read at hR
  refine j_aload_n X (q := 0) dX8_read_0 rfl ?_
  refine j_get X 0 5 hiX8 k_269 dX8_read_1 rfl rfl (by decide) rfl ?_
  obtain ⟨ov1, hov1, hR⟩ := bd_some hR
  refine j_callV X (As := []) (rest := []) (ws2 := [cWB r_ r_n r_k r_h r_e r_x r_q ik, cWho r_n r_nB r_nT r_nS r_nK, cTex r_x r_xs r_xw r_xm le_x ov1.2.1, cBal r_nB r_nBP r_nBA b_nB se_nB z_nB, cTra r_nT r_nTf k_nT, cIar cI r_xm 12 ov1.2.2.1, cIar cB r_xs 100 f_xs, cIar cI r_xw 12 ov1.2.2.2, cJar cJ r_nBA 4 f_nBA, cPus r_nBP r_nBPt r_nBPw r_nBPs k_nBP, cIar cI r_nTf 4 f_nTf, cIar cI r_nBPs 8 f_nBPs, cIar cI r_nBPt 8 f_nBPt, cIar cI r_nBPw 8 f_nBPw]) (q0 := 2) (ci := 5) (mX5_parse l D cI cJ cB cT tt r_x r_xs r_xw r_xm hov1) [2, 5, 6, 7] [.inl 0, .inl 1, .inr 0, .inl 3, .inl 4, .inr 1, .inr 2, .inr 3, .inl 8, .inl 9, .inl 10, .inl 11, .inl 12, .inl 13] k_431 k_428 k_429 k_430 rfl rfl k_45 hdX5_parse (by decide) (Nat.le_of_ble_eq_true rfl) dX8_read_4 (by decide) rfl rfl (by decide) rfl rfl ?_
  refine j_istore_n X (lv2 := [(1, .int ov1.1), (0, .ref r_)]) dX8_read_7 (by decide) rfl ?_
  refine j_aload_n X (q := 1) dX8_read_8 rfl ?_
  refine j_get X 0 5 hiX8 k_269 dX8_read_9 rfl rfl (by decide) rfl ?_
  refine j_iconst X (v := 0) dX8_read_12 (by decide) ?_
  refine j_put X (ws2 := [cWB r_ r_n r_k r_h r_e r_x r_q ik, cWho r_n r_nB r_nT r_nS r_nK, cTex r_x r_xs r_xw r_xm 0 ov1.2.1, cBal r_nB r_nBP r_nBA b_nB se_nB z_nB, cTra r_nT r_nTf k_nT, cIar cI r_xm 12 ov1.2.2.1, cIar cB r_xs 100 f_xs, cIar cI r_xw 12 ov1.2.2.2, cJar cJ r_nBA 4 f_nBA, cPus r_nBP r_nBPt r_nBPw r_nBPs k_nBP, cIar cI r_nTf 4 f_nTf, cIar cI r_nBPs 8 f_nBPs, cIar cI r_nBPt 8 f_nBPt, cIar cI r_nBPw 8 f_nBPw]) 2 1 hiX5 tyX5_ok nmX5 k_225 dX8_read_13 rfl rfl (by decide) (by decide) rfl rfl (Nat.le_of_ble_eq_true rfl) rfl ?_
  refine j_iload_n X (q := 0) dX8_read_16 rfl ?_
  refine j_iconst X (v := (-1)) dX8_read_17 (by decide) ?_
  refine j_icmp_eq X (tgt := 26) dX8_read_18 (by decide) (fun cv2 => ?_) (fun cv2 => ?_)
  · replace hR := (if_pos cv2).symm.trans hR
    refine j_iconst X (v := 0) dX8_read_26 (by decide) ?_
    refine j_istore_n X (lv2 := [(2, .int 0), (1, .int ov1.1), (0, .ref r_)]) dX8_read_27 (by decide) rfl ?_
    refine j_iconst X (v := 0) dX8_read_28 (by decide) ?_
    refine j_istore_n X (lv2 := [(3, .int 0), (2, .int 0), (1, .int ov1.1), (0, .ref r_)]) dX8_read_29 (by decide) rfl ?_
    refine j_sub (lv2 := [(0, .ref r_), (2, .int 0), (3, .int 0)]) [3, 1, 0] rfl ?_
    exact L_30 _ _ _ _ _ _ _ _ _ _ _ _ _ _ _ _ hR
  · replace hR := (if_neg cv2).symm.trans hR
    refine j_bipush X (v := (-10)) dX8_read_21 (by decide) ?_
    refine j_iload_n X (q := 0) dX8_read_23 rfl ?_
    refine j_isub X dX8_read_24 ?_
    have hR := Option.some.inj hR
    exact j_iret X hr dX8_read_25 (by rw [← hR]) (by rw [← hR])

def rmX8_thinkAhead : Room := { frames := 4, cells := 0, slots := 0, locals := 80 }
theorem hdX8_thinkAhead : yX8_thinkAhead.cls ≠ "java/lang/invoke/MethodHandle" ∧ yX8_thinkAhead.cls ≠ "java/lang/invoke/VarHandle" ∧ (parseMethodDescriptor yX8_thinkAhead.desc).map (fun d => d.parameters.length) = some 1 := by decide +kernel
def fX8_thinkAhead_16 (i1 : Int32) (ik : Int32) (z_h : Int32) (b_nB : Nat → Int32) (se_nB : Int64) (z_nB : Int32) (f_nBA : Nat → Int64) (k_nBP : Int32) (f_nBPs : Nat → Int32) (f_nBPt : Nat → Int32) (f_nBPw : Nat → Int32) : Nat → Int32 → (Nat → Int32) → Int64 → (Nat → Int64) → Int32 → (Nat → Int32) → (Nat → Int32) → (Nat → Int32) → Option ((Nat → Int32) × Int64 × (Nat → Int64) × Int32 × (Nat → Int32) × (Nat → Int32) × (Nat → Int32))
  | 0, _, _, _, _, _, _, _, _ => none
  | fu + 1, x2, b_h, se_h, f_hA, k_hP, f_hPs, f_hPt, f_hPw =>
    if i1 ≤ x2 then (some (b_h, se_h, f_hA, k_hP, f_hPs, f_hPt, f_hPw)) else ((fX0_tick b_h se_h z_h f_hA k_hP f_hPs f_hPt f_hPw).bind fun ov3 =>
  lt' (x2 + 1) fun x2v4 =>
  fX8_thinkAhead_16 i1 ik z_h b_nB se_nB z_nB f_nBA k_nBP f_nBPs f_nBPt f_nBPw fu x2v4 ov3.2.1 ov3.2.2.1 ov3.2.2.2.1 ov3.2.2.2.2.1 ov3.2.2.2.2.2.1 ov3.2.2.2.2.2.2.1 ov3.2.2.2.2.2.2.2)
def fX8_thinkAhead (i1 : Int32) (ik : Int32) (b_h : Nat → Int32) (se_h : Int64) (z_h : Int32) (f_hA : Nat → Int64) (k_hP : Int32) (b_nB : Nat → Int32) (se_nB : Int64) (z_nB : Int32) (f_hPs : Nat → Int32) (f_hPt : Nat → Int32) (f_hPw : Nat → Int32) (f_nBA : Nat → Int64) (k_nBP : Int32) (f_nBPs : Nat → Int32) (f_nBPt : Nat → Int32) (f_nBPw : Nat → Int32) : Option ((Nat → Int32) × Int64 × (Nat → Int64) × Int32 × (Nat → Int32) × (Nat → Int32) × (Nat → Int32)) :=
  (fX0_copy b_h se_h z_h b_nB se_nB z_nB f_hA k_hP f_nBA k_nBP f_hPs f_hPt f_hPw f_nBPs f_nBPt f_nBPw).bind fun ov1 =>
  fX8_thinkAhead_16 i1 ik z_h b_nB se_nB z_nB f_nBA k_nBP f_nBPs f_nBPt f_nBPw 500 0 ov1.1 ov1.2.1 ov1.2.2.1 ov1.2.2.2.1 ov1.2.2.2.2.1 ov1.2.2.2.2.2.1 ov1.2.2.2.2.2.2
set_option maxHeartbeats 8000000 in
set_option maxRecDepth 100000 in
theorem mX8_thinkAhead (l : Launch) (D : va_G) (cI cJ cB cT : ClassId) (tt : Nat → Nat) (r_ r_n r_k r_h r_e r_x r_q r_hP r_hA r_nB r_nT r_nS r_nK r_hPt r_hPw r_hPs r_nBP r_nBA r_nBPt r_nBPw r_nBPs : Nat) {i1 : Int32} {ik : Int32} {b_h : Nat → Int32} {se_h : Int64} {z_h : Int32} {f_hA : Nat → Int64} {k_hP : Int32} {b_nB : Nat → Int32} {se_nB : Int64} {z_nB : Int32} {f_hPs : Nat → Int32} {f_hPt : Nat → Int32} {f_hPw : Nat → Int32} {f_nBA : Nat → Int64} {k_nBP : Int32} {f_nBPs : Nat → Int32} {f_nBPt : Nat → Int32} {f_nBPw : Nat → Int32} {out : (Nat → Int32) × Int64 × (Nat → Int64) × Int32 × (Nat → Int32) × (Nat → Int32) × (Nat → Int32)} (h : fX8_thinkAhead i1 ik b_h se_h z_h f_hA k_hP b_nB se_nB z_nB f_hPs f_hPt f_hPw f_nBA k_nBP f_nBPs f_nBPt f_nBPw = some out) :
    jM l yX8_thinkAhead (.code yX8_thinkAhead cX8_thinkAhead 3 none) rmX8_thinkAhead D (wTy cI cJ cB cT) tt [.ref r_, .int i1] [cWB r_ r_n r_k r_h r_e r_x r_q ik, cBal r_h r_hP r_hA b_h se_h z_h, cWho r_n r_nB r_nT r_nS r_nK, cJar cJ r_hA 4 f_hA, cPus r_hP r_hPt r_hPw r_hPs k_hP, cBal r_nB r_nBP r_nBA b_nB se_nB z_nB, cIar cI r_hPs 8 f_hPs, cIar cI r_hPt 8 f_hPt, cIar cI r_hPw 8 f_hPw, cJar cJ r_nBA 4 f_nBA, cPus r_nBP r_nBPt r_nBPw r_nBPs k_nBP, cIar cI r_nBPs 8 f_nBPs, cIar cI r_nBPt 8 f_nBPt, cIar cI r_nBPw 8 f_nBPw] (none) [cWB r_ r_n r_k r_h r_e r_x r_q ik, cBal r_h r_hP r_hA out.1 out.2.1 z_h, cWho r_n r_nB r_nT r_nS r_nK, cJar cJ r_hA 4 out.2.2.1, cPus r_hP r_hPt r_hPw r_hPs out.2.2.2.1, cBal r_nB r_nBP r_nBA b_nB se_nB z_nB, cIar cI r_hPs 8 out.2.2.2.2.1, cIar cI r_hPt 8 out.2.2.2.2.2.1, cIar cI r_hPw 8 out.2.2.2.2.2.2, cJar cJ r_nBA 4 f_nBA, cPus r_nBP r_nBPt r_nBPw r_nBPs k_nBP, cIar cI r_nBPs 8 f_nBPs, cIar cI r_nBPt 8 f_nBPt, cIar cI r_nBPw 8 f_nBPw] := by
  refine jM.of (by decide) (Nat.le_of_ble_eq_true rfl) ?_
  intro p e s m below meth c A X hr
  have L_16 : ∀ (fuel : Nat) (x2 : Int32) (b_h : Nat → Int32) (se_h : Int64) (f_hA : Nat → Int64) (k_hP : Int32) (f_hPs : Nat → Int32) (f_hPt : Nat → Int32) (f_hPw : Nat → Int32), fX8_thinkAhead_16 i1 ik z_h b_nB se_nB z_nB f_nBA k_nBP f_nBPs f_nBPt f_nBPw  fuel x2 b_h se_h f_hA k_hP f_hPs f_hPt f_hPw = some out → jW p l e rmX8_thinkAhead s m ([.ref r_, .int i1] : List Value).toArray below meth c D A 3 (MQ below (jQ D (none) [cWB r_ r_n r_k r_h r_e r_x r_q ik, cBal r_h r_hP r_hA out.1 out.2.1 z_h, cWho r_n r_nB r_nT r_nS r_nK, cJar cJ r_hA 4 out.2.2.1, cPus r_hP r_hPt r_hPw r_hPs out.2.2.2.1, cBal r_nB r_nBP r_nBA b_nB se_nB z_nB, cIar cI r_hPs 8 out.2.2.2.2.1, cIar cI r_hPt 8 out.2.2.2.2.2.1, cIar cI r_hPw 8 out.2.2.2.2.2.2, cJar cJ r_nBA 4 f_nBA, cPus r_nBP r_nBPt r_nBPw r_nBPs k_nBP, cIar cI r_nBPs 8 f_nBPs, cIar cI r_nBPt 8 f_nBPt, cIar cI r_nBPw 8 f_nBPw] A) ([.ref r_, .int i1] : List Value).toArray s 0 0 A) 0 0 16 [(0, .ref r_), (1, .int i1), (2, .int x2)] [] [cWB r_ r_n r_k r_h r_e r_x r_q ik, cBal r_h r_hP r_hA b_h se_h z_h, cWho r_n r_nB r_nT r_nS r_nK, cJar cJ r_hA 4 f_hA, cPus r_hP r_hPt r_hPw r_hPs k_hP, cBal r_nB r_nBP r_nBA b_nB se_nB z_nB, cIar cI r_hPs 8 f_hPs, cIar cI r_hPt 8 f_hPt, cIar cI r_hPw 8 f_hPw, cJar cJ r_nBA 4 f_nBA, cPus r_nBP r_nBPt r_nBPw r_nBPs k_nBP, cIar cI r_nBPs 8 f_nBPs, cIar cI r_nBPt 8 f_nBPt, cIar cI r_nBPw 8 f_nBPw] := by
    intro  fuel
    induction fuel with
    | zero =>
      intro x2 b_h se_h f_hA k_hP f_hPs f_hPt f_hPw hR
      rw [fX8_thinkAhead_16] at hR
      cases hR
    | succ fu ih =>
      intro x2 b_h se_h f_hA k_hP f_hPs f_hPt f_hPw hR
      rw [fX8_thinkAhead_16] at hR
      refine j_iload_n X (q := 2) dX8_thinkAhead_16 rfl ?_
      refine j_iload_n X (q := 1) dX8_thinkAhead_17 rfl ?_
      refine j_icmp_ge X (tgt := 35) dX8_thinkAhead_18 (by decide) (fun cv2 => ?_) (fun cv2 => ?_)
      · replace hR := (if_pos cv2).symm.trans hR
        have hR := Option.some.inj hR
        exact j_vret X hr dX8_thinkAhead_35 rfl (by rw [← hR])
      · replace hR := (if_neg cv2).symm.trans hR
        refine j_aload_n X (q := 0) dX8_thinkAhead_21 rfl ?_
        refine j_get X 0 3 hiX8 k_267 dX8_thinkAhead_22 rfl rfl (by decide) rfl ?_
        obtain ⟨ov3, hov3, hR⟩ := bd_some hR
        refine j_callV X (As := []) (rest := []) (ws2 := [cWB r_ r_n r_k r_h r_e r_x r_q ik, cBal r_h r_hP r_hA ov3.2.1 ov3.2.2.1 z_h, cWho r_n r_nB r_nT r_nS r_nK, cJar cJ r_hA 4 ov3.2.2.2.1, cPus r_hP r_hPt r_hPw r_hPs ov3.2.2.2.2.1, cBal r_nB r_nBP r_nBA b_nB se_nB z_nB, cIar cI r_hPs 8 ov3.2.2.2.2.2.1, cIar cI r_hPt 8 ov3.2.2.2.2.2.2.1, cIar cI r_hPw 8 ov3.2.2.2.2.2.2.2, cJar cJ r_nBA 4 f_nBA, cPus r_nBP r_nBPt r_nBPw r_nBPs k_nBP, cIar cI r_nBPs 8 f_nBPs, cIar cI r_nBPt 8 f_nBPt, cIar cI r_nBPw 8 f_nBPw]) (q0 := 1) (ci := 0) (mX0_tick l D cI cJ cB cT tt r_h r_hP r_hA r_hPt r_hPw r_hPs hov3) [1, 3, 4, 6, 7, 8] [.inl 0, .inr 0, .inl 2, .inr 1, .inr 2, .inl 5, .inr 3, .inr 4, .inr 5, .inl 9, .inl 10, .inl 11, .inl 12, .inl 13] k_352 k_349 k_350 k_351 rfl rfl k_40 hdX0_tick (by decide) (Nat.le_of_ble_eq_true rfl) dX8_thinkAhead_25 (by decide) rfl rfl (by decide) rfl rfl ?_
        refine j_pop X dX8_thinkAhead_28 rfl ?_
        obtain ⟨x2v4, ex2v4, hR⟩ := lt_some hR
        refine j_iinc X (k := 2) (v := x2v4) (lv2 := [(2, .int x2v4), (0, .ref r_), (1, .int i1)]) dX8_thinkAhead_29 rfl (by rw [← ex2v4]; rfl) (by decide) rfl ?_
        refine j_goto X (tgt := 16) dX8_thinkAhead_32 (by decide) ?_
        refine j_sub (lv2 := [(0, .ref r_), (1, .int i1), (2, .int x2v4)]) [1, 2, 0] rfl ?_
        exact ih _ _ _ _ _ _ _ _ hR
  refine j_sub (lv2 := [(0, .ref r_), (1, .int i1)]) [0, 1] rfl ?_
  have hR := h
  unfold fX8_thinkAhead at hR
  refine j_aload_n X (q := 0) dX8_thinkAhead_0 rfl ?_
  refine j_get X 0 3 hiX8 k_267 dX8_thinkAhead_1 rfl rfl (by decide) rfl ?_
  refine j_aload_n X (q := 0) dX8_thinkAhead_4 rfl ?_
  refine j_get X 0 0 hiX8 k_264 dX8_thinkAhead_5 rfl rfl (by decide) rfl ?_
  refine j_get X 2 0 hiX7 k_185 dX8_thinkAhead_8 rfl rfl (by decide) rfl ?_
  obtain ⟨ov1, hov1, hR⟩ := bd_some hR
  refine j_callV X (As := [.ref r_nB]) (rest := []) (ws2 := [cWB r_ r_n r_k r_h r_e r_x r_q ik, cBal r_h r_hP r_hA ov1.1 ov1.2.1 z_h, cWho r_n r_nB r_nT r_nS r_nK, cJar cJ r_hA 4 ov1.2.2.1, cPus r_hP r_hPt r_hPw r_hPs ov1.2.2.2.1, cBal r_nB r_nBP r_nBA b_nB se_nB z_nB, cIar cI r_hPs 8 ov1.2.2.2.2.1, cIar cI r_hPt 8 ov1.2.2.2.2.2.1, cIar cI r_hPw 8 ov1.2.2.2.2.2.2, cJar cJ r_nBA 4 f_nBA, cPus r_nBP r_nBPt r_nBPw r_nBPs k_nBP, cIar cI r_nBPs 8 f_nBPs, cIar cI r_nBPt 8 f_nBPt, cIar cI r_nBPw 8 f_nBPw]) (q0 := 1) (ci := 0) (mX0_copy l D cI cJ cB cT tt r_h r_hP r_hA r_nB r_nBP r_nBA r_hPt r_hPw r_hPs r_nBPt r_nBPw r_nBPs hov1) [1, 5, 3, 4, 9, 10, 6, 7, 8, 11, 12, 13] [.inl 0, .inr 0, .inl 2, .inr 2, .inr 3, .inr 1, .inr 6, .inr 7, .inr 8, .inr 4, .inr 5, .inr 9, .inr 10, .inr 11] k_470 k_467 k_468 k_469 rfl rfl k_40 hdX0_copy (by decide) (Nat.le_of_ble_eq_true rfl) dX8_thinkAhead_11 (by decide) rfl rfl (by decide) rfl rfl ?_
  refine j_iconst X (v := 0) dX8_thinkAhead_14 (by decide) ?_
  refine j_istore_n X (lv2 := [(2, .int 0), (0, .ref r_), (1, .int i1)]) dX8_thinkAhead_15 (by decide) rfl ?_
  refine j_sub (lv2 := [(0, .ref r_), (1, .int i1), (2, .int 0)]) [1, 2, 0] rfl ?_
  exact L_16 _ _ _ _ _ _ _ _ _ hR

def rmX8_ahead : Room := { frames := 5, cells := 0, slots := 0, locals := 102 }
theorem hdX8_ahead : yX8_ahead.cls ≠ "java/lang/invoke/MethodHandle" ∧ yX8_ahead.cls ≠ "java/lang/invoke/VarHandle" ∧ (parseMethodDescriptor yX8_ahead.desc).map (fun d => d.parameters.length) = some 2 := by decide +kernel
def fX8_ahead (i1 : Int32) (i2 : Int32) (ik : Int32) (b_h : Nat → Int32) (se_h : Int64) (z_h : Int32) (f_hA : Nat → Int64) (k_hP : Int32) (b_nB : Nat → Int32) (se_nB : Int64) (z_nB : Int32) (f_hPs : Nat → Int32) (f_hPt : Nat → Int32) (f_hPw : Nat → Int32) (f_nBA : Nat → Int64) (k_nBP : Int32) (f_nBPs : Nat → Int32) (f_nBPt : Nat → Int32) (f_nBPw : Nat → Int32) : Option (Int32 × (Nat → Int32) × Int64 × (Nat → Int64) × Int32 × (Nat → Int32) × (Nat → Int32) × (Nat → Int32)) :=
  (fX8_isBetween i1 0 400).bind fun ov1 =>
  if ov1 = 0 then (some ((-1000), b_h, se_h, f_hA, k_hP, f_hPs, f_hPt, f_hPw)) else (if i2 < 0 then (some ((-1000), b_h, se_h, f_hA, k_hP, f_hPs, f_hPt, f_hPw)) else (if i2 < 6 then ((fX8_thinkAhead i1 ik b_h se_h z_h f_hA k_hP b_nB se_nB z_nB f_hPs f_hPt f_hPw f_nBA k_nBP f_nBPs f_nBPt f_nBPw).bind fun ov5 =>
  gd (inb i2 6) ((fX0_valueOf (tbAhead i2.toNatClampNeg) ov5.1 ov5.2.1 z_h ov5.2.2.2.1).bind fun ov7 =>
  some (ov7, ov5.1, ov5.2.1, ov5.2.2.1, ov5.2.2.2.1, ov5.2.2.2.2.1, ov5.2.2.2.2.2.1, ov5.2.2.2.2.2.2))) else (some ((-1000), b_h, se_h, f_hA, k_hP, f_hPs, f_hPt, f_hPw))))
set_option maxHeartbeats 8000000 in
set_option maxRecDepth 100000 in
theorem mX8_ahead (l : Launch) (D : va_G) (cI cJ cB cT : ClassId) (tt : Nat → Nat) (r_ r_n r_k r_h r_e r_x r_q r_hP r_hA r_nB r_nT r_nS r_nK r_hPt r_hPw r_hPs r_nBP r_nBA r_nBPt r_nBPw r_nBPs : Nat) {i1 : Int32} {i2 : Int32} {ik : Int32} {b_h : Nat → Int32} {se_h : Int64} {z_h : Int32} {f_hA : Nat → Int64} {k_hP : Int32} {b_nB : Nat → Int32} {se_nB : Int64} {z_nB : Int32} {f_hPs : Nat → Int32} {f_hPt : Nat → Int32} {f_hPw : Nat → Int32} {f_nBA : Nat → Int64} {k_nBP : Int32} {f_nBPs : Nat → Int32} {f_nBPt : Nat → Int32} {f_nBPw : Nat → Int32} {out : Int32 × (Nat → Int32) × Int64 × (Nat → Int64) × Int32 × (Nat → Int32) × (Nat → Int32) × (Nat → Int32)} (h : fX8_ahead i1 i2 ik b_h se_h z_h f_hA k_hP b_nB se_nB z_nB f_hPs f_hPt f_hPw f_nBA k_nBP f_nBPs f_nBPt f_nBPw = some out) :
    jM l yX8_ahead (.code yX8_ahead cX8_ahead 3 (some .int)) rmX8_ahead D (wTy cI cJ cB cT) tt [.ref r_, .int i1, .int i2] [cWB r_ r_n r_k r_h r_e r_x r_q ik, cBal r_h r_hP r_hA b_h se_h z_h, cWho r_n r_nB r_nT r_nS r_nK, cJar cJ r_hA 4 f_hA, cPus r_hP r_hPt r_hPw r_hPs k_hP, cBal r_nB r_nBP r_nBA b_nB se_nB z_nB, cIar cI r_hPs 8 f_hPs, cIar cI r_hPt 8 f_hPt, cIar cI r_hPw 8 f_hPw, cJar cJ r_nBA 4 f_nBA, cPus r_nBP r_nBPt r_nBPw r_nBPs k_nBP, cIar cI r_nBPs 8 f_nBPs, cIar cI r_nBPt 8 f_nBPt, cIar cI r_nBPw 8 f_nBPw] (some (.int out.1)) [cWB r_ r_n r_k r_h r_e r_x r_q ik, cBal r_h r_hP r_hA out.2.1 out.2.2.1 z_h, cWho r_n r_nB r_nT r_nS r_nK, cJar cJ r_hA 4 out.2.2.2.1, cPus r_hP r_hPt r_hPw r_hPs out.2.2.2.2.1, cBal r_nB r_nBP r_nBA b_nB se_nB z_nB, cIar cI r_hPs 8 out.2.2.2.2.2.1, cIar cI r_hPt 8 out.2.2.2.2.2.2.1, cIar cI r_hPw 8 out.2.2.2.2.2.2.2, cJar cJ r_nBA 4 f_nBA, cPus r_nBP r_nBPt r_nBPw r_nBPs k_nBP, cIar cI r_nBPs 8 f_nBPs, cIar cI r_nBPt 8 f_nBPt, cIar cI r_nBPw 8 f_nBPw] := by
  refine jM.of (by decide) (Nat.le_of_ble_eq_true rfl) ?_
  intro p e s m below meth c A X hr
  refine j_sub (lv2 := [(0, .ref r_), (1, .int i1), (2, .int i2)]) [0, 1, 2] rfl ?_
  have hR := h
  unfold fX8_ahead at hR
  refine j_iload_n X (q := 1) dX8_ahead_0 rfl ?_
  refine j_iconst X (v := 0) dX8_ahead_1 (by decide) ?_
  refine j_sipush X (v := 400) dX8_ahead_2 (by decide) ?_
  obtain ⟨ov1, hov1, hR⟩ := bd_some hR
  refine j_callS X (As := [.int i1, .int 0, .int 400]) (rest := []) (ws2 := [cWB r_ r_n r_k r_h r_e r_x r_q ik, cBal r_h r_hP r_hA b_h se_h z_h, cWho r_n r_nB r_nT r_nS r_nK, cJar cJ r_hA 4 f_hA, cPus r_hP r_hPt r_hPw r_hPs k_hP, cBal r_nB r_nBP r_nBA b_nB se_nB z_nB, cIar cI r_hPs 8 f_hPs, cIar cI r_hPt 8 f_hPt, cIar cI r_hPw 8 f_hPw, cJar cJ r_nBA 4 f_nBA, cPus r_nBP r_nBPt r_nBPw r_nBPs k_nBP, cIar cI r_nBPs 8 f_nBPs, cIar cI r_nBPt 8 f_nBPt, cIar cI r_nBPw 8 f_nBPw]) (mX8_isBetween l D cI cJ cB cT tt  hov1) [] [.inl 0, .inl 1, .inl 2, .inl 3, .inl 4, .inl 5, .inl 6, .inl 7, .inl 8, .inl 9, .inl 10, .inl 11, .inl 12, .inl 13] k_299 k_297 k_298 k_38 hdX8_isBetween (by decide) (Nat.le_of_ble_eq_true rfl) dX8_ahead_5 (by decide) rfl rfl (by decide) rfl rfl ?_
  refine j_if_eq X (tgt := 23) dX8_ahead_8 (by decide) (fun cv2 => ?_) (fun cv2 => ?_)
  · replace hR := (if_pos cv2).symm.trans hR
    refine j_sipush X (v := (-1000)) dX8_ahead_23 (by decide) ?_
    have hR := Option.some.inj hR
    exact j_iret X hr dX8_ahead_26 (by rw [← hR]) (by rw [← hR])
  · replace hR := (if_neg cv2).symm.trans hR
    refine j_iload_n X (q := 2) dX8_ahead_11 rfl ?_
    refine j_if_lt X (tgt := 23) dX8_ahead_12 (by decide) (fun cv3 => ?_) (fun cv3 => ?_)
    · replace hR := (if_pos cv3).symm.trans hR
      refine j_sipush X (v := (-1000)) dX8_ahead_23 (by decide) ?_
      have hR := Option.some.inj hR
      exact j_iret X hr dX8_ahead_26 (by rw [← hR]) (by rw [← hR])
    · replace hR := (if_neg cv3).symm.trans hR
      refine j_iload_n X (q := 2) dX8_ahead_15 rfl ?_
      refine j_gets X X.Z.2.2.1 k_461 dX8_ahead_16 ?_
      refine j_tlen X X.Z.2.2.1 rfl dX8_ahead_19 ?_
      refine j_icmp_lt X (tgt := 27) dX8_ahead_20 (by decide) (fun cv4 => ?_) (fun cv4 => ?_)
      · replace hR := (if_pos cv4).symm.trans hR
        refine j_aload_n X (q := 0) dX8_ahead_27 rfl ?_
        refine j_iload_n X (q := 1) dX8_ahead_28 rfl ?_
        obtain ⟨ov5, hov5, hR⟩ := bd_some hR
        refine j_callV X (As := [.int i1]) (rest := []) (ws2 := [cWB r_ r_n r_k r_h r_e r_x r_q ik, cBal r_h r_hP r_hA ov5.1 ov5.2.1 z_h, cWho r_n r_nB r_nT r_nS r_nK, cJar cJ r_hA 4 ov5.2.2.1, cPus r_hP r_hPt r_hPw r_hPs ov5.2.2.2.1, cBal r_nB r_nBP r_nBA b_nB se_nB z_nB, cIar cI r_hPs 8 ov5.2.2.2.2.1, cIar cI r_hPt 8 ov5.2.2.2.2.2.1, cIar cI r_hPw 8 ov5.2.2.2.2.2.2, cJar cJ r_nBA 4 f_nBA, cPus r_nBP r_nBPt r_nBPw r_nBPs k_nBP, cIar cI r_nBPs 8 f_nBPs, cIar cI r_nBPt 8 f_nBPt, cIar cI r_nBPw 8 f_nBPw]) (q0 := 0) (ci := 8) (mX8_thinkAhead l D cI cJ cB cT tt r_ r_n r_k r_h r_e r_x r_q r_hP r_hA r_nB r_nT r_nS r_nK r_hPt r_hPw r_hPs r_nBP r_nBA r_nBPt r_nBPw r_nBPs hov5) [0, 1, 2, 3, 4, 5, 6, 7, 8, 9, 10, 11, 12, 13] [.inr 0, .inr 1, .inr 2, .inr 3, .inr 4, .inr 5, .inr 6, .inr 7, .inr 8, .inr 9, .inr 10, .inr 11, .inr 12, .inr 13] k_466 k_463 k_465 k_12 rfl rfl k_38 hdX8_thinkAhead (by decide) (Nat.le_of_ble_eq_true rfl) dX8_ahead_29 (by decide) rfl rfl (by decide) rfl rfl ?_
        refine j_aload_n X (q := 0) dX8_ahead_32 rfl ?_
        refine j_get X 0 3 hiX8 k_267 dX8_ahead_33 rfl rfl (by decide) rfl ?_
        refine j_gets X X.Z.2.2.1 k_461 dX8_ahead_36 ?_
        refine j_iload_n X (q := 2) dX8_ahead_39 rfl ?_
        obtain ⟨gv6, hR⟩ := gd_some hR
        refine j_ti X rfl X.Z.2.2.1 dX8_ahead_40 gv6 ?_
        obtain ⟨ov7, hov7, hR⟩ := bd_some hR
        refine j_callV X (As := [.int (tbAhead i2.toNatClampNeg)]) (rest := []) (ws2 := [cWB r_ r_n r_k r_h r_e r_x r_q ik, cBal r_h r_hP r_hA ov5.1 ov5.2.1 z_h, cWho r_n r_nB r_nT r_nS r_nK, cJar cJ r_hA 4 ov5.2.2.1, cPus r_hP r_hPt r_hPw r_hPs ov5.2.2.2.1, cBal r_nB r_nBP r_nBA b_nB se_nB z_nB, cIar cI r_hPs 8 ov5.2.2.2.2.1, cIar cI r_hPt 8 ov5.2.2.2.2.2.1, cIar cI r_hPw 8 ov5.2.2.2.2.2.2, cJar cJ r_nBA 4 f_nBA, cPus r_nBP r_nBPt r_nBPw r_nBPs k_nBP, cIar cI r_nBPs 8 f_nBPs, cIar cI r_nBPt 8 f_nBPt, cIar cI r_nBPw 8 f_nBPw]) (q0 := 1) (ci := 0) (mX0_valueOf l D cI cJ cB cT tt r_h r_hP r_hA r_hPt r_hPw r_hPs hov7) [1, 4] [.inl 0, .inr 0, .inl 2, .inl 3, .inr 1, .inl 5, .inl 6, .inl 7, .inl 8, .inl 9, .inl 10, .inl 11, .inl 12, .inl 13] k_303 k_300 k_301 k_302 rfl rfl k_40 hdX0_valueOf (by decide) (Nat.le_of_ble_eq_true rfl) dX8_ahead_41 (by decide) rfl rfl (by decide) rfl rfl ?_
        have hR := Option.some.inj hR
        exact j_iret X hr dX8_ahead_44 (by rw [← hR]) (by rw [← hR])
      · replace hR := (if_neg cv4).symm.trans hR
        refine j_sipush X (v := (-1000)) dX8_ahead_23 (by decide) ?_
        have hR := Option.some.inj hR
        exact j_iret X hr dX8_ahead_26 (by rw [← hR]) (by rw [← hR])

def rmX8_energyAt : Room := { frames := 5, cells := 0, slots := 0, locals := 102 }
theorem hdX8_energyAt : yX8_energyAt.cls ≠ "java/lang/invoke/MethodHandle" ∧ yX8_energyAt.cls ≠ "java/lang/invoke/VarHandle" ∧ (parseMethodDescriptor yX8_energyAt.desc).map (fun d => d.parameters.length) = some 1 := by decide +kernel
def fX8_energyAt (i1 : Int32) (ik : Int32) (b_h : Nat → Int32) (se_h : Int64) (z_h : Int32) (f_hA : Nat → Int64) (k_hP : Int32) (b_nB : Nat → Int32) (se_nB : Int64) (z_nB : Int32) (f_hPs : Nat → Int32) (f_hPt : Nat → Int32) (f_hPw : Nat → Int32) (f_nBA : Nat → Int64) (k_nBP : Int32) (f_nBPs : Nat → Int32) (f_nBPt : Nat → Int32) (f_nBPw : Nat → Int32) : Option (Int64 × (Nat → Int32) × Int64 × (Nat → Int64) × Int32 × (Nat → Int32) × (Nat → Int32) × (Nat → Int32)) :=
  (fX8_isBetween i1 0 400).bind fun ov1 =>
  if ov1 = 0 then (some ((-9223372036854775808), b_h, se_h, f_hA, k_hP, f_hPs, f_hPt, f_hPw)) else ((fX8_thinkAhead i1 ik b_h se_h z_h f_hA k_hP b_nB se_nB z_nB f_hPs f_hPt f_hPw f_nBA k_nBP f_nBPs f_nBPt f_nBPw).bind fun ov3 =>
  (fX0_energyNow ov3.1 ov3.2.1 z_h).bind fun ov4 =>
  some (ov4, ov3.1, ov3.2.1, ov3.2.2.1, ov3.2.2.2.1, ov3.2.2.2.2.1, ov3.2.2.2.2.2.1, ov3.2.2.2.2.2.2))
set_option maxHeartbeats 8000000 in
set_option maxRecDepth 100000 in
theorem mX8_energyAt (l : Launch) (D : va_G) (cI cJ cB cT : ClassId) (tt : Nat → Nat) (r_ r_n r_k r_h r_e r_x r_q r_hP r_hA r_nB r_nT r_nS r_nK r_hPt r_hPw r_hPs r_nBP r_nBA r_nBPt r_nBPw r_nBPs : Nat) {i1 : Int32} {ik : Int32} {b_h : Nat → Int32} {se_h : Int64} {z_h : Int32} {f_hA : Nat → Int64} {k_hP : Int32} {b_nB : Nat → Int32} {se_nB : Int64} {z_nB : Int32} {f_hPs : Nat → Int32} {f_hPt : Nat → Int32} {f_hPw : Nat → Int32} {f_nBA : Nat → Int64} {k_nBP : Int32} {f_nBPs : Nat → Int32} {f_nBPt : Nat → Int32} {f_nBPw : Nat → Int32} {out : Int64 × (Nat → Int32) × Int64 × (Nat → Int64) × Int32 × (Nat → Int32) × (Nat → Int32) × (Nat → Int32)} (h : fX8_energyAt i1 ik b_h se_h z_h f_hA k_hP b_nB se_nB z_nB f_hPs f_hPt f_hPw f_nBA k_nBP f_nBPs f_nBPt f_nBPw = some out) :
    jM l yX8_energyAt (.code yX8_energyAt cX8_energyAt 2 (some .long)) rmX8_energyAt D (wTy cI cJ cB cT) tt [.ref r_, .int i1] [cWB r_ r_n r_k r_h r_e r_x r_q ik, cBal r_h r_hP r_hA b_h se_h z_h, cWho r_n r_nB r_nT r_nS r_nK, cJar cJ r_hA 4 f_hA, cPus r_hP r_hPt r_hPw r_hPs k_hP, cBal r_nB r_nBP r_nBA b_nB se_nB z_nB, cIar cI r_hPs 8 f_hPs, cIar cI r_hPt 8 f_hPt, cIar cI r_hPw 8 f_hPw, cJar cJ r_nBA 4 f_nBA, cPus r_nBP r_nBPt r_nBPw r_nBPs k_nBP, cIar cI r_nBPs 8 f_nBPs, cIar cI r_nBPt 8 f_nBPt, cIar cI r_nBPw 8 f_nBPw] (some (.long out.1)) [cWB r_ r_n r_k r_h r_e r_x r_q ik, cBal r_h r_hP r_hA out.2.1 out.2.2.1 z_h, cWho r_n r_nB r_nT r_nS r_nK, cJar cJ r_hA 4 out.2.2.2.1, cPus r_hP r_hPt r_hPw r_hPs out.2.2.2.2.1, cBal r_nB r_nBP r_nBA b_nB se_nB z_nB, cIar cI r_hPs 8 out.2.2.2.2.2.1, cIar cI r_hPt 8 out.2.2.2.2.2.2.1, cIar cI r_hPw 8 out.2.2.2.2.2.2.2, cJar cJ r_nBA 4 f_nBA, cPus r_nBP r_nBPt r_nBPw r_nBPs k_nBP, cIar cI r_nBPs 8 f_nBPs, cIar cI r_nBPt 8 f_nBPt, cIar cI r_nBPw 8 f_nBPw] := by
  refine jM.of (by decide) (Nat.le_of_ble_eq_true rfl) ?_
  intro p e s m below meth c A X hr
  refine j_sub (lv2 := [(0, .ref r_), (1, .int i1)]) [0, 1] rfl ?_
  have hR := h
  unfold fX8_energyAt at hR
  refine j_iload_n X (q := 1) dX8_energyAt_0 rfl ?_
  refine j_iconst X (v := 0) dX8_energyAt_1 (by decide) ?_
  refine j_sipush X (v := 400) dX8_energyAt_2 (by decide) ?_
  obtain ⟨ov1, hov1, hR⟩ := bd_some hR
  refine j_callS X (As := [.int i1, .int 0, .int 400]) (rest := []) (ws2 := [cWB r_ r_n r_k r_h r_e r_x r_q ik, cBal r_h r_hP r_hA b_h se_h z_h, cWho r_n r_nB r_nT r_nS r_nK, cJar cJ r_hA 4 f_hA, cPus r_hP r_hPt r_hPw r_hPs k_hP, cBal r_nB r_nBP r_nBA b_nB se_nB z_nB, cIar cI r_hPs 8 f_hPs, cIar cI r_hPt 8 f_hPt, cIar cI r_hPw 8 f_hPw, cJar cJ r_nBA 4 f_nBA, cPus r_nBP r_nBPt r_nBPw r_nBPs k_nBP, cIar cI r_nBPs 8 f_nBPs, cIar cI r_nBPt 8 f_nBPt, cIar cI r_nBPw 8 f_nBPw]) (mX8_isBetween l D cI cJ cB cT tt  hov1) [] [.inl 0, .inl 1, .inl 2, .inl 3, .inl 4, .inl 5, .inl 6, .inl 7, .inl 8, .inl 9, .inl 10, .inl 11, .inl 12, .inl 13] k_299 k_297 k_298 k_38 hdX8_isBetween (by decide) (Nat.le_of_ble_eq_true rfl) dX8_energyAt_5 (by decide) rfl rfl (by decide) rfl rfl ?_
  refine j_if_ne X (tgt := 15) dX8_energyAt_8 (by decide) (fun cv2 => ?_) (fun cv2 => ?_)
  · replace hR := (if_neg cv2).symm.trans hR
    refine j_aload_n X (q := 0) dX8_energyAt_15 rfl ?_
    refine j_iload_n X (q := 1) dX8_energyAt_16 rfl ?_
    obtain ⟨ov3, hov3, hR⟩ := bd_some hR
    refine j_callV X (As := [.int i1]) (rest := []) (ws2 := [cWB r_ r_n r_k r_h r_e r_x r_q ik, cBal r_h r_hP r_hA ov3.1 ov3.2.1 z_h, cWho r_n r_nB r_nT r_nS r_nK, cJar cJ r_hA 4 ov3.2.2.1, cPus r_hP r_hPt r_hPw r_hPs ov3.2.2.2.1, cBal r_nB r_nBP r_nBA b_nB se_nB z_nB, cIar cI r_hPs 8 ov3.2.2.2.2.1, cIar cI r_hPt 8 ov3.2.2.2.2.2.1, cIar cI r_hPw 8 ov3.2.2.2.2.2.2, cJar cJ r_nBA 4 f_nBA, cPus r_nBP r_nBPt r_nBPw r_nBPs k_nBP, cIar cI r_nBPs 8 f_nBPs, cIar cI r_nBPt 8 f_nBPt, cIar cI r_nBPw 8 f_nBPw]) (q0 := 0) (ci := 8) (mX8_thinkAhead l D cI cJ cB cT tt r_ r_n r_k r_h r_e r_x r_q r_hP r_hA r_nB r_nT r_nS r_nK r_hPt r_hPw r_hPs r_nBP r_nBA r_nBPt r_nBPw r_nBPs hov3) [0, 1, 2, 3, 4, 5, 6, 7, 8, 9, 10, 11, 12, 13] [.inr 0, .inr 1, .inr 2, .inr 3, .inr 4, .inr 5, .inr 6, .inr 7, .inr 8, .inr 9, .inr 10, .inr 11, .inr 12, .inr 13] k_466 k_463 k_465 k_12 rfl rfl k_38 hdX8_thinkAhead (by decide) (Nat.le_of_ble_eq_true rfl) dX8_energyAt_17 (by decide) rfl rfl (by decide) rfl rfl ?_
    refine j_aload_n X (q := 0) dX8_energyAt_20 rfl ?_
    refine j_get X 0 3 hiX8 k_267 dX8_energyAt_21 rfl rfl (by decide) rfl ?_
    obtain ⟨ov4, hov4, hR⟩ := bd_some hR
    refine j_callV X (As := []) (rest := []) (ws2 := [cWB r_ r_n r_k r_h r_e r_x r_q ik, cBal r_h r_hP r_hA ov3.1 ov3.2.1 z_h, cWho r_n r_nB r_nT r_nS r_nK, cJar cJ r_hA 4 ov3.2.2.1, cPus r_hP r_hPt r_hPw r_hPs ov3.2.2.2.1, cBal r_nB r_nBP r_nBA b_nB se_nB z_nB, cIar cI r_hPs 8 ov3.2.2.2.2.1, cIar cI r_hPt 8 ov3.2.2.2.2.2.1, cIar cI r_hPw 8 ov3.2.2.2.2.2.2, cJar cJ r_nBA 4 f_nBA, cPus r_nBP r_nBPt r_nBPw r_nBPs k_nBP, cIar cI r_nBPs 8 f_nBPs, cIar cI r_nBPt 8 f_nBPt, cIar cI r_nBPw 8 f_nBPw]) (q0 := 1) (ci := 0) (mX0_energyNow l D cI cJ cB cT tt r_h r_hP r_hA hov4) [1] [.inl 0, .inr 0, .inl 2, .inl 3, .inl 4, .inl 5, .inl 6, .inl 7, .inl 8, .inl 9, .inl 10, .inl 11, .inl 12, .inl 13] k_319 k_415 k_317 k_318 rfl rfl k_40 hdX0_energyNow (by decide) (Nat.le_of_ble_eq_true rfl) dX8_energyAt_24 (by decide) rfl rfl (by decide) rfl rfl ?_
    have hR := Option.some.inj hR
    exact j_lret X hr dX8_energyAt_27 (by rw [← hR]) (by rw [← hR])
  · replace hR := (if_pos cv2).symm.trans hR
    refine j_ldc2 X k_399 dX8_energyAt_11 ?_
    have hR := Option.some.inj hR
    exact j_lret X hr dX8_energyAt_14 (by rw [← hR]) (by rw [← hR])

def rmX8_listenFromNow : Room := { frames := 5, cells := 0, slots := 0, locals := 102 }
theorem hdX8_listenFromNow : yX8_listenFromNow.cls ≠ "java/lang/invoke/MethodHandle" ∧ yX8_listenFromNow.cls ≠ "java/lang/invoke/VarHandle" ∧ (parseMethodDescriptor yX8_listenFromNow.desc).map (fun d => d.parameters.length) = some 0 := by decide +kernel
def fX8_listenFromNow (ik : Int32) (n_e : Int32) (b_h : Nat → Int32) (se_h : Int64) (z_h : Int32) (f_ea : Nat → Int32) (f_hA : Nat → Int64) (k_hP : Int32) (b_nB : Nat → Int32) (se_nB : Int64) (z_nB : Int32) (f_hPs : Nat → Int32) (f_hPt : Nat → Int32) (f_hPw : Nat → Int32) (f_nBA : Nat → Int64) (k_nBP : Int32) (f_nBPs : Nat → Int32) (f_nBPt : Nat → Int32) (f_nBPw : Nat → Int32) : Option (Int32 × (Nat → Int32) × Int64 × (Nat → Int32) × (Nat → Int64) × Int32 × (Nat → Int32) × (Nat → Int32) × (Nat → Int32)) :=
  (fX0_copy b_h se_h z_h b_nB se_nB z_nB f_hA k_hP f_nBA k_nBP f_hPs f_hPt f_hPw f_nBPs f_nBPt f_nBPw).bind fun ov1 =>
  (fX1_listen n_e ov1.1 ov1.2.1 z_h f_ea ov1.2.2.1 ov1.2.2.2.1 ov1.2.2.2.2.1 ov1.2.2.2.2.2.1 ov1.2.2.2.2.2.2).bind fun ov2 =>
  some (ov2.1, ov2.2.1, ov2.2.2.1, ov2.2.2.2.1, ov2.2.2.2.2.1, ov2.2.2.2.2.2.1, ov2.2.2.2.2.2.2.1, ov2.2.2.2.2.2.2.2.1, ov2.2.2.2.2.2.2.2.2)
set_option maxHeartbeats 8000000 in
set_option maxRecDepth 100000 in
theorem mX8_listenFromNow (l : Launch) (D : va_G) (cI cJ cB cT : ClassId) (tt : Nat → Nat) (r_ r_n r_k r_h r_e r_x r_q r_ea r_hP r_hA r_nB r_nT r_nS r_nK r_hPt r_hPw r_hPs r_nBP r_nBA r_nBPt r_nBPw r_nBPs : Nat)  {ik : Int32} {n_e : Int32} {b_h : Nat → Int32} {se_h : Int64} {z_h : Int32} {f_ea : Nat → Int32} {f_hA : Nat → Int64} {k_hP : Int32} {b_nB : Nat → Int32} {se_nB : Int64} {z_nB : Int32} {f_hPs : Nat → Int32} {f_hPt : Nat → Int32} {f_hPw : Nat → Int32} {f_nBA : Nat → Int64} {k_nBP : Int32} {f_nBPs : Nat → Int32} {f_nBPt : Nat → Int32} {f_nBPw : Nat → Int32} {out : Int32 × (Nat → Int32) × Int64 × (Nat → Int32) × (Nat → Int64) × Int32 × (Nat → Int32) × (Nat → Int32) × (Nat → Int32)} (h : fX8_listenFromNow ik n_e b_h se_h z_h f_ea f_hA k_hP b_nB se_nB z_nB f_hPs f_hPt f_hPw f_nBA k_nBP f_nBPs f_nBPt f_nBPw = some out) :
    jM l yX8_listenFromNow (.code yX8_listenFromNow cX8_listenFromNow 1 none) rmX8_listenFromNow D (wTy cI cJ cB cT) tt [.ref r_] [cWB r_ r_n r_k r_h r_e r_x r_q ik, cHea r_e r_ea n_e, cBal r_h r_hP r_hA b_h se_h z_h, cWho r_n r_nB r_nT r_nS r_nK, cIar cI r_ea 400 f_ea, cJar cJ r_hA 4 f_hA, cPus r_hP r_hPt r_hPw r_hPs k_hP, cBal r_nB r_nBP r_nBA b_nB se_nB z_nB, cIar cI r_hPs 8 f_hPs, cIar cI r_hPt 8 f_hPt, cIar cI r_hPw 8 f_hPw, cJar cJ r_nBA 4 f_nBA, cPus r_nBP r_nBPt r_nBPw r_nBPs k_nBP, cIar cI r_nBPs 8 f_nBPs, cIar cI r_nBPt 8 f_nBPt, cIar cI r_nBPw 8 f_nBPw] (none) [cWB r_ r_n r_k r_h r_e r_x r_q ik, cHea r_e r_ea out.1, cBal r_h r_hP r_hA out.2.1 out.2.2.1 z_h, cWho r_n r_nB r_nT r_nS r_nK, cIar cI r_ea 400 out.2.2.2.1, cJar cJ r_hA 4 out.2.2.2.2.1, cPus r_hP r_hPt r_hPw r_hPs out.2.2.2.2.2.1, cBal r_nB r_nBP r_nBA b_nB se_nB z_nB, cIar cI r_hPs 8 out.2.2.2.2.2.2.1, cIar cI r_hPt 8 out.2.2.2.2.2.2.2.1, cIar cI r_hPw 8 out.2.2.2.2.2.2.2.2, cJar cJ r_nBA 4 f_nBA, cPus r_nBP r_nBPt r_nBPw r_nBPs k_nBP, cIar cI r_nBPs 8 f_nBPs, cIar cI r_nBPt 8 f_nBPt, cIar cI r_nBPw 8 f_nBPw] := by
  refine jM.of (by decide) (Nat.le_of_ble_eq_true rfl) ?_
  intro p e s m below meth c A X hr
  refine j_sub (lv2 := [(0, .ref r_)]) [0] rfl ?_
  have hR := h
  unfold fX8_listenFromNow at hR
  refine j_aload_n X (q := 0) dX8_listenFromNow_0 rfl ?_
  refine j_get X 0 3 hiX8 k_267 dX8_listenFromNow_1 rfl rfl (by decide) rfl ?_
  refine j_aload_n X (q := 0) dX8_listenFromNow_4 rfl ?_
  refine j_get X 0 0 hiX8 k_264 dX8_listenFromNow_5 rfl rfl (by decide) rfl ?_
  refine j_get X 3 0 hiX7 k_185 dX8_listenFromNow_8 rfl rfl (by decide) rfl ?_
  obtain ⟨ov1, hov1, hR⟩ := bd_some hR
  refine j_callV X (As := [.ref r_nB]) (rest := []) (ws2 := [cWB r_ r_n r_k r_h r_e r_x r_q ik, cHea r_e r_ea n_e, cBal r_h r_hP r_hA ov1.1 ov1.2.1 z_h, cWho r_n r_nB r_nT r_nS r_nK, cIar cI r_ea 400 f_ea, cJar cJ r_hA 4 ov1.2.2.1, cPus r_hP r_hPt r_hPw r_hPs ov1.2.2.2.1, cBal r_nB r_nBP r_nBA b_nB se_nB z_nB, cIar cI r_hPs 8 ov1.2.2.2.2.1, cIar cI r_hPt 8 ov1.2.2.2.2.2.1, cIar cI r_hPw 8 ov1.2.2.2.2.2.2, cJar cJ r_nBA 4 f_nBA, cPus r_nBP r_nBPt r_nBPw r_nBPs k_nBP, cIar cI r_nBPs 8 f_nBPs, cIar cI r_nBPt 8 f_nBPt, cIar cI r_nBPw 8 f_nBPw]) (q0 := 2) (ci := 0) (mX0_copy l D cI cJ cB cT tt r_h r_hP r_hA r_nB r_nBP r_nBA r_hPt r_hPw r_hPs r_nBPt r_nBPw r_nBPs hov1) [2, 7, 5, 6, 11, 12, 8, 9, 10, 13, 14, 15] [.inl 0, .inl 1, .inr 0, .inl 3, .inl 4, .inr 2, .inr 3, .inr 1, .inr 6, .inr 7, .inr 8, .inr 4, .inr 5, .inr 9, .inr 10, .inr 11] k_470 k_467 k_468 k_469 rfl rfl k_40 hdX0_copy (by decide) (Nat.le_of_ble_eq_true rfl) dX8_listenFromNow_11 (by decide) rfl rfl (by decide) rfl rfl ?_
  refine j_aload_n X (q := 0) dX8_listenFromNow_14 rfl ?_
  refine j_get X 0 4 hiX8 k_268 dX8_listenFromNow_15 rfl rfl (by decide) rfl ?_
  refine j_aload_n X (q := 0) dX8_listenFromNow_18 rfl ?_
  refine j_get X 0 3 hiX8 k_267 dX8_listenFromNow_19 rfl rfl (by decide) rfl ?_
  obtain ⟨ov2, hov2, hR⟩ := bd_some hR
  refine j_callV X (As := [.ref r_h]) (rest := []) (ws2 := [cWB r_ r_n r_k r_h r_e r_x r_q ik, cHea r_e r_ea ov2.1, cBal r_h r_hP r_hA ov2.2.1 ov2.2.2.1 z_h, cWho r_n r_nB r_nT r_nS r_nK, cIar cI r_ea 400 ov2.2.2.2.1, cJar cJ r_hA 4 ov2.2.2.2.2.1, cPus r_hP r_hPt r_hPw r_hPs ov2.2.2.2.2.2.1, cBal r_nB r_nBP r_nBA b_nB se_nB z_nB, cIar cI r_hPs 8 ov2.2.2.2.2.2.2.1, cIar cI r_hPt 8 ov2.2.2.2.2.2.2.2.1, cIar cI r_hPw 8 ov2.2.2.2.2.2.2.2.2, cJar cJ r_nBA 4 f_nBA, cPus r_nBP r_nBPt r_nBPw r_nBPs k_nBP, cIar cI r_nBPs 8 f_nBPs, cIar cI r_nBPt 8 f_nBPt, cIar cI r_nBPw 8 f_nBPw]) (q0 := 1) (ci := 1) (mX1_listen l D cI cJ cB cT tt r_e r_ea r_h r_hP r_hA r_hPt r_hPw r_hPs hov2) [1, 2, 4, 5, 6, 8, 9, 10] [.inl 0, .inr 0, .inr 1, .inl 3, .inr 2, .inr 3, .inr 4, .inl 7, .inr 5, .inr 6, .inr 7, .inl 11, .inl 12, .inl 13, .inl 14, .inl 15] k_490 k_487 k_488 k_489 rfl rfl k_44 hdX1_listen (by decide) (Nat.le_of_ble_eq_true rfl) dX8_listenFromNow_22 (by decide) rfl rfl (by decide) rfl rfl ?_
  have hR := Option.some.inj hR
  exact j_vret X hr dX8_listenFromNow_25 rfl (by rw [← hR])

def rmX8_heard : Room := { frames := 6, cells := 0, slots := 0, locals := 122 }
theorem hdX8_heard : yX8_heard.cls ≠ "java/lang/invoke/MethodHandle" ∧ yX8_heard.cls ≠ "java/lang/invoke/VarHandle" ∧ (parseMethodDescriptor yX8_heard.desc).map (fun d => d.parameters.length) = some 1 := by decide +kernel
def fX8_heard (i1 : Int32) (ik : Int32) (n_e : Int32) (b_h : Nat → Int32) (se_h : Int64) (z_h : Int32) (f_ea : Nat → Int32) (f_hA : Nat → Int64) (k_hP : Int32) (b_nB : Nat → Int32) (se_nB : Int64) (z_nB : Int32) (f_hPs : Nat → Int32) (f_hPt : Nat → Int32) (f_hPw : Nat → Int32) (f_nBA : Nat → Int64) (k_nBP : Int32) (f_nBPs : Nat → Int32) (f_nBPt : Nat → Int32) (f_nBPw : Nat → Int32) : Option (Int32 × Int32 × (Nat → Int32) × Int64 × (Nat → Int32) × (Nat → Int64) × Int32 × (Nat → Int32) × (Nat → Int32) × (Nat → Int32)) :=
  if (0 : Int32) ≤ i1 then ((fX8_listenFromNow ik n_e b_h se_h z_h f_ea f_hA k_hP b_nB se_nB z_nB f_hPs f_hPt f_hPw f_nBA k_nBP f_nBPs f_nBPt f_nBPw).bind fun ov2 =>
  (fX1_beatAt i1 ov2.1 ov2.2.2.2.1).bind fun ov3 =>
  some (ov3, ov2.1, ov2.2.1, ov2.2.2.1, ov2.2.2.2.1, ov2.2.2.2.2.1, ov2.2.2.2.2.2.1, ov2.2.2.2.2.2.2.1, ov2.2.2.2.2.2.2.2.1, ov2.2.2.2.2.2.2.2.2)) else (some ((-1), n_e, b_h, se_h, f_ea, f_hA, k_hP, f_hPs, f_hPt, f_hPw))
set_option maxHeartbeats 8000000 in
set_option maxRecDepth 100000 in
theorem mX8_heard (l : Launch) (D : va_G) (cI cJ cB cT : ClassId) (tt : Nat → Nat) (r_ r_n r_k r_h r_e r_x r_q r_ea r_hP r_hA r_nB r_nT r_nS r_nK r_hPt r_hPw r_hPs r_nBP r_nBA r_nBPt r_nBPw r_nBPs : Nat) {i1 : Int32} {ik : Int32} {n_e : Int32} {b_h : Nat → Int32} {se_h : Int64} {z_h : Int32} {f_ea : Nat → Int32} {f_hA : Nat → Int64} {k_hP : Int32} {b_nB : Nat → Int32} {se_nB : Int64} {z_nB : Int32} {f_hPs : Nat → Int32} {f_hPt : Nat → Int32} {f_hPw : Nat → Int32} {f_nBA : Nat → Int64} {k_nBP : Int32} {f_nBPs : Nat → Int32} {f_nBPt : Nat → Int32} {f_nBPw : Nat → Int32} {out : Int32 × Int32 × (Nat → Int32) × Int64 × (Nat → Int32) × (Nat → Int64) × Int32 × (Nat → Int32) × (Nat → Int32) × (Nat → Int32)} (h : fX8_heard i1 ik n_e b_h se_h z_h f_ea f_hA k_hP b_nB se_nB z_nB f_hPs f_hPt f_hPw f_nBA k_nBP f_nBPs f_nBPt f_nBPw = some out) :
    jM l yX8_heard (.code yX8_heard cX8_heard 2 (some .int)) rmX8_heard D (wTy cI cJ cB cT) tt [.ref r_, .int i1] [cWB r_ r_n r_k r_h r_e r_x r_q ik, cHea r_e r_ea n_e, cBal r_h r_hP r_hA b_h se_h z_h, cWho r_n r_nB r_nT r_nS r_nK, cIar cI r_ea 400 f_ea, cJar cJ r_hA 4 f_hA, cPus r_hP r_hPt r_hPw r_hPs k_hP, cBal r_nB r_nBP r_nBA b_nB se_nB z_nB, cIar cI r_hPs 8 f_hPs, cIar cI r_hPt 8 f_hPt, cIar cI r_hPw 8 f_hPw, cJar cJ r_nBA 4 f_nBA, cPus r_nBP r_nBPt r_nBPw r_nBPs k_nBP, cIar cI r_nBPs 8 f_nBPs, cIar cI r_nBPt 8 f_nBPt, cIar cI r_nBPw 8 f_nBPw] (some (.int out.1)) [cWB r_ r_n r_k r_h r_e r_x r_q ik, cHea r_e r_ea out.2.1, cBal r_h r_hP r_hA out.2.2.1 out.2.2.2.1 z_h, cWho r_n r_nB r_nT r_nS r_nK, cIar cI r_ea 400 out.2.2.2.2.1, cJar cJ r_hA 4 out.2.2.2.2.2.1, cPus r_hP r_hPt r_hPw r_hPs out.2.2.2.2.2.2.1, cBal r_nB r_nBP r_nBA b_nB se_nB z_nB, cIar cI r_hPs 8 out.2.2.2.2.2.2.2.1, cIar cI r_hPt 8 out.2.2.2.2.2.2.2.2.1, cIar cI r_hPw 8 out.2.2.2.2.2.2.2.2.2, cJar cJ r_nBA 4 f_nBA, cPus r_nBP r_nBPt r_nBPw r_nBPs k_nBP, cIar cI r_nBPs 8 f_nBPs, cIar cI r_nBPt 8 f_nBPt, cIar cI r_nBPw 8 f_nBPw] := by
  refine jM.of (by decide) (Nat.le_of_ble_eq_true rfl) ?_
  intro p e s m below meth c A X hr
  refine j_sub (lv2 := [(0, .ref r_), (1, .int i1)]) [0, 1] rfl ?_
  have hR := h
  unfold fX8_heard at hR
  refine j_iload_n X (q := 1) dX8_heard_0 rfl ?_
  refine j_if_ge X (tgt := 6) dX8_heard_1 (by decide) (fun cv1 => ?_) (fun cv1 => ?_)
  · replace hR := (if_pos cv1).symm.trans hR
    refine j_aload_n X (q := 0) dX8_heard_6 rfl ?_
    obtain ⟨ov2, hov2, hR⟩ := bd_some hR
    refine j_callV X (As := []) (rest := []) (ws2 := [cWB r_ r_n r_k r_h r_e r_x r_q ik, cHea r_e r_ea ov2.1, cBal r_h r_hP r_hA ov2.2.1 ov2.2.2.1 z_h, cWho r_n r_nB r_nT r_nS r_nK, cIar cI r_ea 400 ov2.2.2.2.1, cJar cJ r_hA 4 ov2.2.2.2.2.1, cPus r_hP r_hPt r_hPw r_hPs ov2.2.2.2.2.2.1, cBal r_nB r_nBP r_nBA b_nB se_nB z_nB, cIar cI r_hPs 8 ov2.2.2.2.2.2.2.1, cIar cI r_hPt 8 ov2.2.2.2.2.2.2.2.1, cIar cI r_hPw 8 ov2.2.2.2.2.2.2.2.2, cJar cJ r_nBA 4 f_nBA, cPus r_nBP r_nBPt r_nBPw r_nBPs k_nBP, cIar cI r_nBPs 8 f_nBPs, cIar cI r_nBPt 8 f_nBPt, cIar cI r_nBPw 8 f_nBPw]) (q0 := 0) (ci := 8) (mX8_listenFromNow l D cI cJ cB cT tt r_ r_n r_k r_h r_e r_x r_q r_ea r_hP r_hA r_nB r_nT r_nS r_nK r_hPt r_hPw r_hPs r_nBP r_nBA r_nBPt r_nBPw r_nBPs hov2) [0, 1, 2, 3, 4, 5, 6, 7, 8, 9, 10, 11, 12, 13, 14, 15] [.inr 0, .inr 1, .inr 2, .inr 3, .inr 4, .inr 5, .inr 6, .inr 7, .inr 8, .inr 9, .inr 10, .inr 11, .inr 12, .inr 13, .inr 14, .inr 15] k_486 k_483 k_485 k_13 rfl rfl k_38 hdX8_listenFromNow (by decide) (Nat.le_of_ble_eq_true rfl) dX8_heard_7 (by decide) rfl rfl (by decide) rfl rfl ?_
    refine j_aload_n X (q := 0) dX8_heard_10 rfl ?_
    refine j_get X 0 4 hiX8 k_268 dX8_heard_11 rfl rfl (by decide) rfl ?_
    refine j_iload_n X (q := 1) dX8_heard_14 rfl ?_
    obtain ⟨ov3, hov3, hR⟩ := bd_some hR
    refine j_callV X (As := [.int i1]) (rest := []) (ws2 := [cWB r_ r_n r_k r_h r_e r_x r_q ik, cHea r_e r_ea ov2.1, cBal r_h r_hP r_hA ov2.2.1 ov2.2.2.1 z_h, cWho r_n r_nB r_nT r_nS r_nK, cIar cI r_ea 400 ov2.2.2.2.1, cJar cJ r_hA 4 ov2.2.2.2.2.1, cPus r_hP r_hPt r_hPw r_hPs ov2.2.2.2.2.2.1, cBal r_nB r_nBP r_nBA b_nB se_nB z_nB, cIar cI r_hPs 8 ov2.2.2.2.2.2.2.1, cIar cI r_hPt 8 ov2.2.2.2.2.2.2.2.1, cIar cI r_hPw 8 ov2.2.2.2.2.2.2.2.2, cJar cJ r_nBA 4 f_nBA, cPus r_nBP r_nBPt r_nBPw r_nBPs k_nBP, cIar cI r_nBPs 8 f_nBPs, cIar cI r_nBPt 8 f_nBPt, cIar cI r_nBPw 8 f_nBPw]) (q0 := 1) (ci := 1) (mX1_beatAt l D cI cJ cB cT tt r_e r_ea hov3) [1, 4] [.inl 0, .inr 0, .inl 2, .inl 3, .inr 1, .inl 5, .inl 6, .inl 7, .inl 8, .inl 9, .inl 10, .inl 11, .inl 12, .inl 13, .inl 14, .inl 15] k_495 k_492 k_493 k_494 rfl rfl k_44 hdX1_beatAt (by decide) (Nat.le_of_ble_eq_true rfl) dX8_heard_15 (by decide) rfl rfl (by decide) rfl rfl ?_
    have hR := Option.some.inj hR
    exact j_iret X hr dX8_heard_18 (by rw [← hR]) (by rw [← hR])
  · replace hR := (if_neg cv1).symm.trans hR
    refine j_iconst X (v := (-1)) dX8_heard_4 (by decide) ?_
    have hR := Option.some.inj hR
    exact j_iret X hr dX8_heard_5 (by rw [← hR]) (by rw [← hR])

def rmX8_listenWith : Room := { frames := 5, cells := 0, slots := 0, locals := 102 }
theorem hdX8_listenWith : yX8_listenWith.cls ≠ "java/lang/invoke/MethodHandle" ∧ yX8_listenWith.cls ≠ "java/lang/invoke/VarHandle" ∧ (parseMethodDescriptor yX8_listenWith.desc).map (fun d => d.parameters.length) = some 2 := by decide +kernel
def fX8_listenWith (i1 : Int32) (i2 : Int32) (ik : Int32) (n_e : Int32) (b_h : Nat → Int32) (se_h : Int64) (z_h : Int32) (f_ea : Nat → Int32) (f_hA : Nat → Int64) (k_hP : Int32) (b_nB : Nat → Int32) (se_nB : Int64) (z_nB : Int32) (f_hPs : Nat → Int32) (f_hPt : Nat → Int32) (f_hPw : Nat → Int32) (f_nBA : Nat → Int64) (k_nBP : Int32) (f_nBPs : Nat → Int32) (f_nBPt : Nat → Int32) (f_nBPw : Nat → Int32) : Option (Int32 × (Nat → Int32) × Int64 × (Nat → Int32) × (Nat → Int64) × Int32 × (Nat → Int32) × (Nat → Int32) × (Nat → Int32)) :=
  (fX0_copy b_h se_h z_h b_nB se_nB z_nB f_hA k_hP f_nBA k_nBP f_hPs f_hPt f_hPw f_nBPs f_nBPt f_nBPw).bind fun ov1 =>
  (fX0_put i1 i2 ov1.1 ov1.2.1 z_h).bind fun ov2 =>
  (fX1_listen n_e ov2 ov1.2.1 z_h f_ea ov1.2.2.1 ov1.2.2.2.1 ov1.2.2.2.2.1 ov1.2.2.2.2.2.1 ov1.2.2.2.2.2.2).bind fun ov3 =>
  some (ov3.1, ov3.2.1, ov3.2.2.1, ov3.2.2.2.1, ov3.2.2.2.2.1, ov3.2.2.2.2.2.1, ov3.2.2.2.2.2.2.1, ov3.2.2.2.2.2.2.2.1, ov3.2.2.2.2.2.2.2.2)
set_option maxHeartbeats 8000000 in
set_option maxRecDepth 100000 in
theorem mX8_listenWith (l : Launch) (D : va_G) (cI cJ cB cT : ClassId) (tt : Nat → Nat) (r_ r_n r_k r_h r_e r_x r_q r_ea r_hP r_hA r_nB r_nT r_nS r_nK r_hPt r_hPw r_hPs r_nBP r_nBA r_nBPt r_nBPw r_nBPs : Nat) {i1 : Int32} {i2 : Int32} {ik : Int32} {n_e : Int32} {b_h : Nat → Int32} {se_h : Int64} {z_h : Int32} {f_ea : Nat → Int32} {f_hA : Nat → Int64} {k_hP : Int32} {b_nB : Nat → Int32} {se_nB : Int64} {z_nB : Int32} {f_hPs : Nat → Int32} {f_hPt : Nat → Int32} {f_hPw : Nat → Int32} {f_nBA : Nat → Int64} {k_nBP : Int32} {f_nBPs : Nat → Int32} {f_nBPt : Nat → Int32} {f_nBPw : Nat → Int32} {out : Int32 × (Nat → Int32) × Int64 × (Nat → Int32) × (Nat → Int64) × Int32 × (Nat → Int32) × (Nat → Int32) × (Nat → Int32)} (h : fX8_listenWith i1 i2 ik n_e b_h se_h z_h f_ea f_hA k_hP b_nB se_nB z_nB f_hPs f_hPt f_hPw f_nBA k_nBP f_nBPs f_nBPt f_nBPw = some out) :
    jM l yX8_listenWith (.code yX8_listenWith cX8_listenWith 3 none) rmX8_listenWith D (wTy cI cJ cB cT) tt [.ref r_, .int i1, .int i2] [cWB r_ r_n r_k r_h r_e r_x r_q ik, cHea r_e r_ea n_e, cBal r_h r_hP r_hA b_h se_h z_h, cWho r_n r_nB r_nT r_nS r_nK, cIar cI r_ea 400 f_ea, cJar cJ r_hA 4 f_hA, cPus r_hP r_hPt r_hPw r_hPs k_hP, cBal r_nB r_nBP r_nBA b_nB se_nB z_nB, cIar cI r_hPs 8 f_hPs, cIar cI r_hPt 8 f_hPt, cIar cI r_hPw 8 f_hPw, cJar cJ r_nBA 4 f_nBA, cPus r_nBP r_nBPt r_nBPw r_nBPs k_nBP, cIar cI r_nBPs 8 f_nBPs, cIar cI r_nBPt 8 f_nBPt, cIar cI r_nBPw 8 f_nBPw] (none) [cWB r_ r_n r_k r_h r_e r_x r_q ik, cHea r_e r_ea out.1, cBal r_h r_hP r_hA out.2.1 out.2.2.1 z_h, cWho r_n r_nB r_nT r_nS r_nK, cIar cI r_ea 400 out.2.2.2.1, cJar cJ r_hA 4 out.2.2.2.2.1, cPus r_hP r_hPt r_hPw r_hPs out.2.2.2.2.2.1, cBal r_nB r_nBP r_nBA b_nB se_nB z_nB, cIar cI r_hPs 8 out.2.2.2.2.2.2.1, cIar cI r_hPt 8 out.2.2.2.2.2.2.2.1, cIar cI r_hPw 8 out.2.2.2.2.2.2.2.2, cJar cJ r_nBA 4 f_nBA, cPus r_nBP r_nBPt r_nBPw r_nBPs k_nBP, cIar cI r_nBPs 8 f_nBPs, cIar cI r_nBPt 8 f_nBPt, cIar cI r_nBPw 8 f_nBPw] := by
  refine jM.of (by decide) (Nat.le_of_ble_eq_true rfl) ?_
  intro p e s m below meth c A X hr
  refine j_sub (lv2 := [(0, .ref r_), (1, .int i1), (2, .int i2)]) [0, 1, 2] rfl ?_
  have hR := h
  unfold fX8_listenWith at hR
  refine j_aload_n X (q := 0) dX8_listenWith_0 rfl ?_
  refine j_get X 0 3 hiX8 k_267 dX8_listenWith_1 rfl rfl (by decide) rfl ?_
  refine j_aload_n X (q := 0) dX8_listenWith_4 rfl ?_
  refine j_get X 0 0 hiX8 k_264 dX8_listenWith_5 rfl rfl (by decide) rfl ?_
  refine j_get X 3 0 hiX7 k_185 dX8_listenWith_8 rfl rfl (by decide) rfl ?_
  obtain ⟨ov1, hov1, hR⟩ := bd_some hR
  refine j_callV X (As := [.ref r_nB]) (rest := []) (ws2 := [cWB r_ r_n r_k r_h r_e r_x r_q ik, cHea r_e r_ea n_e, cBal r_h r_hP r_hA ov1.1 ov1.2.1 z_h, cWho r_n r_nB r_nT r_nS r_nK, cIar cI r_ea 400 f_ea, cJar cJ r_hA 4 ov1.2.2.1, cPus r_hP r_hPt r_hPw r_hPs ov1.2.2.2.1, cBal r_nB r_nBP r_nBA b_nB se_nB z_nB, cIar cI r_hPs 8 ov1.2.2.2.2.1, cIar cI r_hPt 8 ov1.2.2.2.2.2.1, cIar cI r_hPw 8 ov1.2.2.2.2.2.2, cJar cJ r_nBA 4 f_nBA, cPus r_nBP r_nBPt r_nBPw r_nBPs k_nBP, cIar cI r_nBPs 8 f_nBPs, cIar cI r_nBPt 8 f_nBPt, cIar cI r_nBPw 8 f_nBPw]) (q0 := 2) (ci := 0) (mX0_copy l D cI cJ cB cT tt r_h r_hP r_hA r_nB r_nBP r_nBA r_hPt r_hPw r_hPs r_nBPt r_nBPw r_nBPs hov1) [2, 7, 5, 6, 11, 12, 8, 9, 10, 13, 14, 15] [.inl 0, .inl 1, .inr 0, .inl 3, .inl 4, .inr 2, .inr 3, .inr 1, .inr 6, .inr 7, .inr 8, .inr 4, .inr 5, .inr 9, .inr 10, .inr 11] k_470 k_467 k_468 k_469 rfl rfl k_40 hdX0_copy (by decide) (Nat.le_of_ble_eq_true rfl) dX8_listenWith_11 (by decide) rfl rfl (by decide) rfl rfl ?_
  refine j_aload_n X (q := 0) dX8_listenWith_14 rfl ?_
  refine j_get X 0 3 hiX8 k_267 dX8_listenWith_15 rfl rfl (by decide) rfl ?_
  refine j_iload_n X (q := 1) dX8_listenWith_18 rfl ?_
  refine j_iload_n X (q := 2) dX8_listenWith_19 rfl ?_
  obtain ⟨ov2, hov2, hR⟩ := bd_some hR
  refine j_callV X (As := [.int i1, .int i2]) (rest := []) (ws2 := [cWB r_ r_n r_k r_h r_e r_x r_q ik, cHea r_e r_ea n_e, cBal r_h r_hP r_hA ov2 ov1.2.1 z_h, cWho r_n r_nB r_nT r_nS r_nK, cIar cI r_ea 400 f_ea, cJar cJ r_hA 4 ov1.2.2.1, cPus r_hP r_hPt r_hPw r_hPs ov1.2.2.2.1, cBal r_nB r_nBP r_nBA b_nB se_nB z_nB, cIar cI r_hPs 8 ov1.2.2.2.2.1, cIar cI r_hPt 8 ov1.2.2.2.2.2.1, cIar cI r_hPw 8 ov1.2.2.2.2.2.2, cJar cJ r_nBA 4 f_nBA, cPus r_nBP r_nBPt r_nBPw r_nBPs k_nBP, cIar cI r_nBPs 8 f_nBPs, cIar cI r_nBPt 8 f_nBPt, cIar cI r_nBPw 8 f_nBPw]) (q0 := 2) (ci := 0) (mX0_put l D cI cJ cB cT tt r_h r_hP r_hA hov2) [2] [.inl 0, .inl 1, .inr 0, .inl 3, .inl 4, .inl 5, .inl 6, .inl 7, .inl 8, .inl 9, .inl 10, .inl 11, .inl 12, .inl 13, .inl 14, .inl 15] k_311 k_508 k_309 k_310 rfl rfl k_40 hdX0_put (by decide) (Nat.le_of_ble_eq_true rfl) dX8_listenWith_20 (by decide) rfl rfl (by decide) rfl rfl ?_
  refine j_aload_n X (q := 0) dX8_listenWith_23 rfl ?_
  refine j_get X 0 4 hiX8 k_268 dX8_listenWith_24 rfl rfl (by decide) rfl ?_
  refine j_aload_n X (q := 0) dX8_listenWith_27 rfl ?_
  refine j_get X 0 3 hiX8 k_267 dX8_listenWith_28 rfl rfl (by decide) rfl ?_
  obtain ⟨ov3, hov3, hR⟩ := bd_some hR
  refine j_callV X (As := [.ref r_h]) (rest := []) (ws2 := [cWB r_ r_n r_k r_h r_e r_x r_q ik, cHea r_e r_ea ov3.1, cBal r_h r_hP r_hA ov3.2.1 ov3.2.2.1 z_h, cWho r_n r_nB r_nT r_nS r_nK, cIar cI r_ea 400 ov3.2.2.2.1, cJar cJ r_hA 4 ov3.2.2.2.2.1, cPus r_hP r_hPt r_hPw r_hPs ov3.2.2.2.2.2.1, cBal r_nB r_nBP r_nBA b_nB se_nB z_nB, cIar cI r_hPs 8 ov3.2.2.2.2.2.2.1, cIar cI r_hPt 8 ov3.2.2.2.2.2.2.2.1, cIar cI r_hPw 8 ov3.2.2.2.2.2.2.2.2, cJar cJ r_nBA 4 f_nBA, cPus r_nBP r_nBPt r_nBPw r_nBPs k_nBP, cIar cI r_nBPs 8 f_nBPs, cIar cI r_nBPt 8 f_nBPt, cIar cI r_nBPw 8 f_nBPw]) (q0 := 1) (ci := 1) (mX1_listen l D cI cJ cB cT tt r_e r_ea r_h r_hP r_hA r_hPt r_hPw r_hPs hov3) [1, 2, 4, 5, 6, 8, 9, 10] [.inl 0, .inr 0, .inr 1, .inl 3, .inr 2, .inr 3, .inr 4, .inl 7, .inr 5, .inr 6, .inr 7, .inl 11, .inl 12, .inl 13, .inl 14, .inl 15] k_490 k_487 k_488 k_489 rfl rfl k_44 hdX1_listen (by decide) (Nat.le_of_ble_eq_true rfl) dX8_listenWith_31 (by decide) rfl rfl (by decide) rfl rfl ?_
  have hR := Option.some.inj hR
  exact j_vret X hr dX8_listenWith_34 rfl (by rw [← hR])

def rmX8_evenest : Room := { frames := 6, cells := 0, slots := 0, locals := 124 }
theorem hdX8_evenest : yX8_evenest.cls ≠ "java/lang/invoke/MethodHandle" ∧ yX8_evenest.cls ≠ "java/lang/invoke/VarHandle" ∧ (parseMethodDescriptor yX8_evenest.desc).map (fun d => d.parameters.length) = some 0 := by decide +kernel
def fX8_evenest_19 (ik : Int32) (z_h : Int32) (b_nB : Nat → Int32) (se_nB : Int64) (z_nB : Int32) (f_nBA : Nat → Int64) (k_nBP : Int32) (f_nBPs : Nat → Int32) (f_nBPt : Nat → Int32) (f_nBPw : Nat → Int32) : Nat → Int32 → Int64 → Int32 → Int32 → (Nat → Int32) → Int64 → (Nat → Int32) → (Nat → Int64) → Int32 → (Nat → Int32) → (Nat → Int32) → (Nat → Int32) → Option (Int32 × Int32 × (Nat → Int32) × Int64 × (Nat → Int32) × (Nat → Int64) × Int32 × (Nat → Int32) × (Nat → Int32) × (Nat → Int32))
  | 0, _, _, _, _, _, _, _, _, _, _, _, _ => none
  | fu + 1, x1, x2, x4, n_e, b_h, se_h, f_ea, f_hA, k_hP, f_hPs, f_hPt, f_hPw =>
    if (20 : Int32) < x4 then (some (x1, n_e, b_h, se_h, f_ea, f_hA, k_hP, f_hPs, f_hPt, f_hPw)) else ((fX8_listenWith 4 x4 ik n_e b_h se_h z_h f_ea f_hA k_hP b_nB se_nB z_nB f_hPs f_hPt f_hPw f_nBA k_nBP f_nBPs f_nBPt f_nBPw).bind fun ov3 =>
  (fX1_uneven ov3.1 ov3.2.2.2.1).bind fun ov4 =>
  lt' (if 0 ≤ ov4 then ov4 else 0 - ov4) fun x5v5 =>
  lt' (x4 - (b_nB 4)) fun uv6 =>
  lt' (if 0 ≤ uv6 then uv6 else 0 - uv6) fun x6v7 =>
  lt' ((((ov3.1.toInt64 * 1000) - x5v5.toInt64) * 1000) - x6v7.toInt64) fun x7v8 =>
  if (lg_cmp x7v8 x2) ≤ 0 then (lt' (x4 + 1) fun x4v10 =>
  fX8_evenest_19 ik z_h b_nB se_nB z_nB f_nBA k_nBP f_nBPs f_nBPt f_nBPw fu x1 x2 x4v10 ov3.1 ov3.2.1 ov3.2.2.1 ov3.2.2.2.1 ov3.2.2.2.2.1 ov3.2.2.2.2.2.1 ov3.2.2.2.2.2.2.1 ov3.2.2.2.2.2.2.2.1 ov3.2.2.2.2.2.2.2.2) else (lt' (x4 + 1) fun x4v11 =>
  fX8_evenest_19 ik z_h b_nB se_nB z_nB f_nBA k_nBP f_nBPs f_nBPt f_nBPw fu x4 x7v8 x4v11 ov3.1 ov3.2.1 ov3.2.2.1 ov3.2.2.2.1 ov3.2.2.2.2.1 ov3.2.2.2.2.2.1 ov3.2.2.2.2.2.2.1 ov3.2.2.2.2.2.2.2.1 ov3.2.2.2.2.2.2.2.2))
def fX8_evenest (ik : Int32) (n_e : Int32) (b_h : Nat → Int32) (se_h : Int64) (z_h : Int32) (f_ea : Nat → Int32) (f_hA : Nat → Int64) (k_hP : Int32) (b_nB : Nat → Int32) (se_nB : Int64) (z_nB : Int32) (f_hPs : Nat → Int32) (f_hPt : Nat → Int32) (f_hPw : Nat → Int32) (f_nBA : Nat → Int64) (k_nBP : Int32) (f_nBPs : Nat → Int32) (f_nBPt : Nat → Int32) (f_nBPw : Nat → Int32) : Option (Int32 × Int32 × (Nat → Int32) × Int64 × (Nat → Int32) × (Nat → Int64) × Int32 × (Nat → Int32) × (Nat → Int32) × (Nat → Int32)) :=
  lt' (b_nB 4) fun x1v1 =>
  fX8_evenest_19 ik z_h b_nB se_nB z_nB f_nBA k_nBP f_nBPs f_nBPt f_nBPw 500 x1v1 (-9223372036854775808) (-20) n_e b_h se_h f_ea f_hA k_hP f_hPs f_hPt f_hPw
set_option maxHeartbeats 8000000 in
set_option maxRecDepth 100000 in
theorem mX8_evenest (l : Launch) (D : va_G) (cI cJ cB cT : ClassId) (tt : Nat → Nat) (r_ r_n r_k r_h r_e r_x r_q r_ea r_hP r_hA r_nB r_nT r_nS r_nK r_hPt r_hPw r_hPs r_nBP r_nBA r_nBPt r_nBPw r_nBPs : Nat)  {ik : Int32} {n_e : Int32} {b_h : Nat → Int32} {se_h : Int64} {z_h : Int32} {f_ea : Nat → Int32} {f_hA : Nat → Int64} {k_hP : Int32} {b_nB : Nat → Int32} {se_nB : Int64} {z_nB : Int32} {f_hPs : Nat → Int32} {f_hPt : Nat → Int32} {f_hPw : Nat → Int32} {f_nBA : Nat → Int64} {k_nBP : Int32} {f_nBPs : Nat → Int32} {f_nBPt : Nat → Int32} {f_nBPw : Nat → Int32} {out : Int32 × Int32 × (Nat → Int32) × Int64 × (Nat → Int32) × (Nat → Int64) × Int32 × (Nat → Int32) × (Nat → Int32) × (Nat → Int32)} (h : fX8_evenest ik n_e b_h se_h z_h f_ea f_hA k_hP b_nB se_nB z_nB f_hPs f_hPt f_hPw f_nBA k_nBP f_nBPs f_nBPt f_nBPw = some out) :
    jM l yX8_evenest (.code yX8_evenest cX8_evenest 9 (some .int)) rmX8_evenest D (wTy cI cJ cB cT) tt [.ref r_] [cWB r_ r_n r_k r_h r_e r_x r_q ik, cHea r_e r_ea n_e, cBal r_h r_hP r_hA b_h se_h z_h, cWho r_n r_nB r_nT r_nS r_nK, cIar cI r_ea 400 f_ea, cJar cJ r_hA 4 f_hA, cPus r_hP r_hPt r_hPw r_hPs k_hP, cBal r_nB r_nBP r_nBA b_nB se_nB z_nB, cIar cI r_hPs 8 f_hPs, cIar cI r_hPt 8 f_hPt, cIar cI r_hPw 8 f_hPw, cJar cJ r_nBA 4 f_nBA, cPus r_nBP r_nBPt r_nBPw r_nBPs k_nBP, cIar cI r_nBPs 8 f_nBPs, cIar cI r_nBPt 8 f_nBPt, cIar cI r_nBPw 8 f_nBPw] (some (.int out.1)) [cWB r_ r_n r_k r_h r_e r_x r_q ik, cHea r_e r_ea out.2.1, cBal r_h r_hP r_hA out.2.2.1 out.2.2.2.1 z_h, cWho r_n r_nB r_nT r_nS r_nK, cIar cI r_ea 400 out.2.2.2.2.1, cJar cJ r_hA 4 out.2.2.2.2.2.1, cPus r_hP r_hPt r_hPw r_hPs out.2.2.2.2.2.2.1, cBal r_nB r_nBP r_nBA b_nB se_nB z_nB, cIar cI r_hPs 8 out.2.2.2.2.2.2.2.1, cIar cI r_hPt 8 out.2.2.2.2.2.2.2.2.1, cIar cI r_hPw 8 out.2.2.2.2.2.2.2.2.2, cJar cJ r_nBA 4 f_nBA, cPus r_nBP r_nBPt r_nBPw r_nBPs k_nBP, cIar cI r_nBPs 8 f_nBPs, cIar cI r_nBPt 8 f_nBPt, cIar cI r_nBPw 8 f_nBPw] := by
  refine jM.of (by decide) (Nat.le_of_ble_eq_true rfl) ?_
  intro p e s m below meth c A X hr
  have L_19 : ∀ (fuel : Nat) (x1 : Int32) (x2 : Int64) (x4 : Int32) (n_e : Int32) (b_h : Nat → Int32) (se_h : Int64) (f_ea : Nat → Int32) (f_hA : Nat → Int64) (k_hP : Int32) (f_hPs : Nat → Int32) (f_hPt : Nat → Int32) (f_hPw : Nat → Int32), fX8_evenest_19 ik z_h b_nB se_nB z_nB f_nBA k_nBP f_nBPs f_nBPt f_nBPw  fuel x1 x2 x4 n_e b_h se_h f_ea f_hA k_hP f_hPs f_hPt f_hPw = some out → jW p l e rmX8_evenest s m ([.ref r_] : List Value).toArray below meth c D A 9 (MQ below (jQ D (some (.int out.1)) [cWB r_ r_n r_k r_h r_e r_x r_q ik, cHea r_e r_ea out.2.1, cBal r_h r_hP r_hA out.2.2.1 out.2.2.2.1 z_h, cWho r_n r_nB r_nT r_nS r_nK, cIar cI r_ea 400 out.2.2.2.2.1, cJar cJ r_hA 4 out.2.2.2.2.2.1, cPus r_hP r_hPt r_hPw r_hPs out.2.2.2.2.2.2.1, cBal r_nB r_nBP r_nBA b_nB se_nB z_nB, cIar cI r_hPs 8 out.2.2.2.2.2.2.2.1, cIar cI r_hPt 8 out.2.2.2.2.2.2.2.2.1, cIar cI r_hPw 8 out.2.2.2.2.2.2.2.2.2, cJar cJ r_nBA 4 f_nBA, cPus r_nBP r_nBPt r_nBPw r_nBPs k_nBP, cIar cI r_nBPs 8 f_nBPs, cIar cI r_nBPt 8 f_nBPt, cIar cI r_nBPw 8 f_nBPw] A) ([.ref r_] : List Value).toArray s 0 0 A) 0 0 19 [(0, .ref r_), (1, .int x1), (2, .long x2), (4, .int x4)] [] [cWB r_ r_n r_k r_h r_e r_x r_q ik, cHea r_e r_ea n_e, cBal r_h r_hP r_hA b_h se_h z_h, cWho r_n r_nB r_nT r_nS r_nK, cIar cI r_ea 400 f_ea, cJar cJ r_hA 4 f_hA, cPus r_hP r_hPt r_hPw r_hPs k_hP, cBal r_nB r_nBP r_nBA b_nB se_nB z_nB, cIar cI r_hPs 8 f_hPs, cIar cI r_hPt 8 f_hPt, cIar cI r_hPw 8 f_hPw, cJar cJ r_nBA 4 f_nBA, cPus r_nBP r_nBPt r_nBPw r_nBPs k_nBP, cIar cI r_nBPs 8 f_nBPs, cIar cI r_nBPt 8 f_nBPt, cIar cI r_nBPw 8 f_nBPw] := by
    intro  fuel
    induction fuel with
    | zero =>
      intro x1 x2 x4 n_e b_h se_h f_ea f_hA k_hP f_hPs f_hPt f_hPw hR
      rw [fX8_evenest_19] at hR
      cases hR
    | succ fu ih =>
      intro x1 x2 x4 n_e b_h se_h f_ea f_hA k_hP f_hPs f_hPt f_hPw hR
      rw [fX8_evenest_19] at hR
      refine j_iload X (q := 3) dX8_evenest_19 rfl ?_
      refine j_bipush X (v := 20) dX8_evenest_21 (by decide) ?_
      refine j_icmp_gt X (tgt := 108) dX8_evenest_23 (by decide) (fun cv2 => ?_) (fun cv2 => ?_)
      · replace hR := (if_pos cv2).symm.trans hR
        refine j_iload_n X (q := 1) dX8_evenest_108 rfl ?_
        have hR := Option.some.inj hR
        exact j_iret X hr dX8_evenest_109 (by rw [← hR]) (by rw [← hR])
      · replace hR := (if_neg cv2).symm.trans hR
        refine j_aload_n X (q := 0) dX8_evenest_26 rfl ?_
        refine j_iconst X (v := 4) dX8_evenest_27 (by decide) ?_
        refine j_iload X (q := 3) dX8_evenest_28 rfl ?_
        obtain ⟨ov3, hov3, hR⟩ := bd_some hR
        refine j_callV X (As := [.int 4, .int x4]) (rest := []) (ws2 := [cWB r_ r_n r_k r_h r_e r_x r_q ik, cHea r_e r_ea ov3.1, cBal r_h r_hP r_hA ov3.2.1 ov3.2.2.1 z_h, cWho r_n r_nB r_nT r_nS r_nK, cIar cI r_ea 400 ov3.2.2.2.1, cJar cJ r_hA 4 ov3.2.2.2.2.1, cPus r_hP r_hPt r_hPw r_hPs ov3.2.2.2.2.2.1, cBal r_nB r_nBP r_nBA b_nB se_nB z_nB, cIar cI r_hPs 8 ov3.2.2.2.2.2.2.1, cIar cI r_hPt 8 ov3.2.2.2.2.2.2.2.1, cIar cI r_hPw 8 ov3.2.2.2.2.2.2.2.2, cJar cJ r_nBA 4 f_nBA, cPus r_nBP r_nBPt r_nBPw r_nBPs k_nBP, cIar cI r_nBPs 8 f_nBPs, cIar cI r_nBPt 8 f_nBPt, cIar cI r_nBPw 8 f_nBPw]) (q0 := 0) (ci := 8) (mX8_listenWith l D cI cJ cB cT tt r_ r_n r_k r_h r_e r_x r_q r_ea r_hP r_hA r_nB r_nT r_nS r_nK r_hPt r_hPw r_hPs r_nBP r_nBA r_nBPt r_nBPw r_nBPs hov3) [0, 1, 2, 3, 4, 5, 6, 7, 8, 9, 10, 11, 12, 13, 14, 15] [.inr 0, .inr 1, .inr 2, .inr 3, .inr 4, .inr 5, .inr 6, .inr 7, .inr 8, .inr 9, .inr 10, .inr 11, .inr 12, .inr 13, .inr 14, .inr 15] k_507 k_504 k_506 k_15 rfl rfl k_38 hdX8_listenWith (by decide) (Nat.le_of_ble_eq_true rfl) dX8_evenest_30 (by decide) rfl rfl (by decide) rfl rfl ?_
        refine j_aload_n X (q := 0) dX8_evenest_33 rfl ?_
        refine j_get X 0 4 hiX8 k_268 dX8_evenest_34 rfl rfl (by decide) rfl ?_
        obtain ⟨ov4, hov4, hR⟩ := bd_some hR
        refine j_callV X (As := []) (rest := []) (ws2 := [cWB r_ r_n r_k r_h r_e r_x r_q ik, cHea r_e r_ea ov3.1, cBal r_h r_hP r_hA ov3.2.1 ov3.2.2.1 z_h, cWho r_n r_nB r_nT r_nS r_nK, cIar cI r_ea 400 ov3.2.2.2.1, cJar cJ r_hA 4 ov3.2.2.2.2.1, cPus r_hP r_hPt r_hPw r_hPs ov3.2.2.2.2.2.1, cBal r_nB r_nBP r_nBA b_nB se_nB z_nB, cIar cI r_hPs 8 ov3.2.2.2.2.2.2.1, cIar cI r_hPt 8 ov3.2.2.2.2.2.2.2.1, cIar cI r_hPw 8 ov3.2.2.2.2.2.2.2.2, cJar cJ r_nBA 4 f_nBA, cPus r_nBP r_nBPt r_nBPw r_nBPs k_nBP, cIar cI r_nBPs 8 f_nBPs, cIar cI r_nBPt 8 f_nBPt, cIar cI r_nBPw 8 f_nBPw]) (q0 := 1) (ci := 1) (mX1_uneven l D cI cJ cB cT tt r_e r_ea hov4) [1, 4] [.inl 0, .inr 0, .inl 2, .inl 3, .inr 1, .inl 5, .inl 6, .inl 7, .inl 8, .inl 9, .inl 10, .inl 11, .inl 12, .inl 13, .inl 14, .inl 15] k_512 k_509 k_510 k_511 rfl rfl k_44 hdX1_uneven (by decide) (Nat.le_of_ble_eq_true rfl) dX8_evenest_37 (by decide) rfl rfl (by decide) rfl rfl ?_
        refine j_mabs X k_523 k_524 k_48 k_525 ⟨by decide, Nat.le_of_ble_eq_true rfl, Nat.zero_le _, Nat.zero_le _⟩ dX8_evenest_40 ?_
        obtain ⟨x5v5, ex5v5, hR⟩ := lt_some hR
        refine j_eq (congrArg (fun z => Value.int z :: _) ex5v5) rfl ?_
        refine j_istore X (lv2 := [(5, .int x5v5), (0, .ref r_), (1, .int x1), (2, .long x2), (4, .int x4)]) dX8_evenest_43 (by decide) rfl ?_
        refine j_iload X (q := 4) dX8_evenest_45 rfl ?_
        refine j_aload_n X (q := 1) dX8_evenest_47 rfl ?_
        refine j_get X 0 0 hiX8 k_264 dX8_evenest_48 rfl rfl (by decide) rfl ?_
        refine j_get X 3 0 hiX7 k_185 dX8_evenest_51 rfl rfl (by decide) rfl ?_
        refine j_get X 7 3 hiX0 k_103 dX8_evenest_54 rfl rfl (by decide) rfl ?_
        refine j_isub X dX8_evenest_57 ?_
        obtain ⟨uv6, euv6, hR⟩ := lt_some hR
        refine j_eq (congrArg (fun z => Value.int z :: _) euv6) rfl ?_
        refine j_mabs X k_523 k_524 k_48 k_525 ⟨by decide, Nat.le_of_ble_eq_true rfl, Nat.zero_le _, Nat.zero_le _⟩ dX8_evenest_58 ?_
        obtain ⟨x6v7, ex6v7, hR⟩ := lt_some hR
        refine j_eq (congrArg (fun z => Value.int z :: _) ex6v7) rfl ?_
        refine j_istore X (lv2 := [(6, .int x6v7), (5, .int x5v5), (0, .ref r_), (1, .int x1), (2, .long x2), (4, .int x4)]) dX8_evenest_61 (by decide) rfl ?_
        refine j_aload_n X (q := 2) dX8_evenest_63 rfl ?_
        refine j_get X 0 4 hiX8 k_268 dX8_evenest_64 rfl rfl (by decide) rfl ?_
        refine j_get X 1 1 hiX1 k_211 dX8_evenest_67 rfl rfl (by decide) rfl ?_
        refine j_i2l X dX8_evenest_70 ?_
        refine j_ldc2 X k_526 dX8_evenest_71 ?_
        refine j_lmul X dX8_evenest_74 ?_
        refine j_iload X (q := 1) dX8_evenest_75 rfl ?_
        refine j_i2l X dX8_evenest_77 ?_
        refine j_lsub X dX8_evenest_78 ?_
        refine j_ldc2 X k_526 dX8_evenest_79 ?_
        refine j_lmul X dX8_evenest_82 ?_
        refine j_iload X (q := 0) dX8_evenest_83 rfl ?_
        refine j_i2l X dX8_evenest_85 ?_
        refine j_lsub X dX8_evenest_86 ?_
        obtain ⟨x7v8, ex7v8, hR⟩ := lt_some hR
        refine j_eq (congrArg (fun z => Value.long z :: _) ex7v8) rfl ?_
        refine j_lstore X (lv2 := [(7, .long x7v8), (6, .int x6v7), (5, .int x5v5), (0, .ref r_), (1, .int x1), (2, .long x2), (4, .int x4)]) dX8_evenest_87 (by decide) rfl ?_
        refine j_lload X (q := 0) dX8_evenest_89 rfl ?_
        refine j_lload_n X (q := 5) dX8_evenest_91 rfl ?_
        refine j_lcmp X dX8_evenest_92 ?_
        refine j_if_le X (tgt := 102) dX8_evenest_93 (by decide) (fun cv9 => ?_) (fun cv9 => ?_)
        · replace hR := (if_pos cv9).symm.trans hR
          obtain ⟨x4v10, ex4v10, hR⟩ := lt_some hR
          refine j_iinc X (k := 6) (v := x4v10) (lv2 := [(4, .int x4v10), (7, .long x7v8), (6, .int x6v7), (5, .int x5v5), (0, .ref r_), (1, .int x1), (2, .long x2)]) dX8_evenest_102 rfl (by rw [← ex4v10]; rfl) (by decide) rfl ?_
          refine j_goto X (tgt := 19) dX8_evenest_105 (by decide) ?_
          refine j_sub (lv2 := [(0, .ref r_), (1, .int x1), (2, .long x2), (4, .int x4v10)]) [4, 5, 6, 0] rfl ?_
          exact ih _ _ _ _ _ _ _ _ _ _ _ _ hR
        · replace hR := (if_neg cv9).symm.trans hR
          refine j_iload X (q := 6) dX8_evenest_96 rfl ?_
          refine j_istore_n X (lv2 := [(1, .int x4), (7, .long x7v8), (6, .int x6v7), (5, .int x5v5), (0, .ref r_), (2, .long x2), (4, .int x4)]) dX8_evenest_98 (by decide) rfl ?_
          refine j_lload X (q := 1) dX8_evenest_99 rfl ?_
          refine j_lstore_n X (lv2 := [(2, .long x7v8), (1, .int x4), (7, .long x7v8), (6, .int x6v7), (5, .int x5v5), (0, .ref r_), (4, .int x4)]) dX8_evenest_101 (by decide) rfl ?_
          obtain ⟨x4v11, ex4v11, hR⟩ := lt_some hR
          refine j_iinc X (k := 6) (v := x4v11) (lv2 := [(4, .int x4v11), (2, .long x7v8), (1, .int x4), (7, .long x7v8), (6, .int x6v7), (5, .int x5v5), (0, .ref r_)]) dX8_evenest_102 rfl (by rw [← ex4v11]; rfl) (by decide) rfl ?_
          refine j_goto X (tgt := 19) dX8_evenest_105 (by decide) ?_
          refine j_sub (lv2 := [(0, .ref r_), (1, .int x4), (2, .long x7v8), (4, .int x4v11)]) [6, 2, 1, 0] rfl ?_
          exact ih _ _ _ _ _ _ _ _ _ _ _ _ hR
  refine j_sub (lv2 := [(0, .ref r_)]) [0] rfl ?_
  have hR := h
  unfold fX8_evenest at hR
  refine j_aload_n X (q := 0) dX8_evenest_0 rfl ?_
  refine j_get X 0 0 hiX8 k_264 dX8_evenest_1 rfl rfl (by decide) rfl ?_
  refine j_get X 3 0 hiX7 k_185 dX8_evenest_4 rfl rfl (by decide) rfl ?_
  refine j_get X 7 3 hiX0 k_103 dX8_evenest_7 rfl rfl (by decide) rfl ?_
  obtain ⟨x1v1, ex1v1, hR⟩ := lt_some hR
  refine j_eq (congrArg (fun z => Value.int z :: _) ex1v1) rfl ?_
  refine j_istore_n X (lv2 := [(1, .int x1v1), (0, .ref r_)]) dX8_evenest_10 (by decide) rfl ?_
  refine j_ldc2 X k_399 dX8_evenest_11 ?_
  refine j_lstore_n X (lv2 := [(2, .long (-9223372036854775808)), (1, .int x1v1), (0, .ref r_)]) dX8_evenest_14 (by decide) rfl ?_
  refine j_bipush X (v := (-20)) dX8_evenest_15 (by decide) ?_
  refine j_istore X (lv2 := [(4, .int (-20)), (2, .long (-9223372036854775808)), (1, .int x1v1), (0, .ref r_)]) dX8_evenest_17 (by decide) rfl ?_
  refine j_sub (lv2 := [(0, .ref r_), (1, .int x1v1), (2, .long (-9223372036854775808)), (4, .int (-20))]) [3, 2, 1, 0] rfl ?_
  exact L_19 _ _ _ _ _ _ _ _ _ _ _ _ _ hR

def rmX8_beat : Room := { frames := 7, cells := 0, slots := 0, locals := 152 }
theorem hdX8_beat : yX8_beat.cls ≠ "java/lang/invoke/MethodHandle" ∧ yX8_beat.cls ≠ "java/lang/invoke/VarHandle" ∧ (parseMethodDescriptor yX8_beat.desc).map (fun d => d.parameters.length) = some 1 := by decide +kernel
def fX8_beat (i1 : Int32) (ik : Int32) (n_e : Int32) (b_h : Nat → Int32) (se_h : Int64) (z_h : Int32) (f_ea : Nat → Int32) (f_hA : Nat → Int64) (k_hP : Int32) (b_nB : Nat → Int32) (se_nB : Int64) (z_nB : Int32) (f_hPs : Nat → Int32) (f_hPt : Nat → Int32) (f_hPw : Nat → Int32) (f_nBA : Nat → Int64) (k_nBP : Int32) (f_nBPs : Nat → Int32) (f_nBPt : Nat → Int32) (f_nBPw : Nat → Int32) : Option (Int32 × Int32 × (Nat → Int32) × Int64 × (Nat → Int32) × (Nat → Int64) × Int32 × (Nat → Int32) × (Nat → Int32) × (Nat → Int32)) :=
  (fX8_isBetween i1 0 4).bind fun ov1 =>
  if ov1 = 0 then (some ((-1000), n_e, b_h, se_h, f_ea, f_hA, k_hP, f_hPs, f_hPt, f_hPw)) else (if i1 = 3 then ((fX8_evenest ik n_e b_h se_h z_h f_ea f_hA k_hP b_nB se_nB z_nB f_hPs f_hPt f_hPw f_nBA k_nBP f_nBPs f_nBPt f_nBPw).bind fun ov12 =>
  some (ov12.1, ov12.2.1, ov12.2.2.1, ov12.2.2.2.1, ov12.2.2.2.2.1, ov12.2.2.2.2.2.1, ov12.2.2.2.2.2.2.1, ov12.2.2.2.2.2.2.2.1, ov12.2.2.2.2.2.2.2.2.1, ov12.2.2.2.2.2.2.2.2.2)) else ((fX8_listenFromNow ik n_e b_h se_h z_h f_ea f_hA k_hP b_nB se_nB z_nB f_hPs f_hPt f_hPw f_nBA k_nBP f_nBPs f_nBPt f_nBPw).bind fun ov4 =>
  if i1 = 0 then (some (ov4.1, ov4.1, ov4.2.1, ov4.2.2.1, ov4.2.2.2.1, ov4.2.2.2.2.1, ov4.2.2.2.2.2.1, ov4.2.2.2.2.2.2.1, ov4.2.2.2.2.2.2.2.1, ov4.2.2.2.2.2.2.2.2)) else (if i1 = 1 then ((fX1_gaps ov4.1).bind fun ov7 =>
  some (ov7, ov4.1, ov4.2.1, ov4.2.2.1, ov4.2.2.2.1, ov4.2.2.2.2.1, ov4.2.2.2.2.2.1, ov4.2.2.2.2.2.2.1, ov4.2.2.2.2.2.2.2.1, ov4.2.2.2.2.2.2.2.2)) else (if i1 = 2 then ((fX1_uneven ov4.1 ov4.2.2.2.1).bind fun ov9 =>
  some (ov9, ov4.1, ov4.2.1, ov4.2.2.1, ov4.2.2.2.1, ov4.2.2.2.2.1, ov4.2.2.2.2.2.1, ov4.2.2.2.2.2.2.1, ov4.2.2.2.2.2.2.2.1, ov4.2.2.2.2.2.2.2.2)) else (if ov4.1 = 0 then (some ((-500), ov4.1, ov4.2.1, ov4.2.2.1, ov4.2.2.2.1, ov4.2.2.2.2.1, ov4.2.2.2.2.2.1, ov4.2.2.2.2.2.2.1, ov4.2.2.2.2.2.2.2.1, ov4.2.2.2.2.2.2.2.2)) else ((fX1_beatAt (ov4.1 - 1) ov4.1 ov4.2.2.2.1).bind fun ov11 =>
  some (ov11, ov4.1, ov4.2.1, ov4.2.2.1, ov4.2.2.2.1, ov4.2.2.2.2.1, ov4.2.2.2.2.2.1, ov4.2.2.2.2.2.2.1, ov4.2.2.2.2.2.2.2.1, ov4.2.2.2.2.2.2.2.2)))))))
set_option maxHeartbeats 8000000 in
set_option maxRecDepth 100000 in
theorem mX8_beat (l : Launch) (D : va_G) (cI cJ cB cT : ClassId) (tt : Nat → Nat) (r_ r_n r_k r_h r_e r_x r_q r_ea r_hP r_hA r_nB r_nT r_nS r_nK r_hPt r_hPw r_hPs r_nBP r_nBA r_nBPt r_nBPw r_nBPs : Nat) {i1 : Int32} {ik : Int32} {n_e : Int32} {b_h : Nat → Int32} {se_h : Int64} {z_h : Int32} {f_ea : Nat → Int32} {f_hA : Nat → Int64} {k_hP : Int32} {b_nB : Nat → Int32} {se_nB : Int64} {z_nB : Int32} {f_hPs : Nat → Int32} {f_hPt : Nat → Int32} {f_hPw : Nat → Int32} {f_nBA : Nat → Int64} {k_nBP : Int32} {f_nBPs : Nat → Int32} {f_nBPt : Nat → Int32} {f_nBPw : Nat → Int32} {out : Int32 × Int32 × (Nat → Int32) × Int64 × (Nat → Int32) × (Nat → Int64) × Int32 × (Nat → Int32) × (Nat → Int32) × (Nat → Int32)} (h : fX8_beat i1 ik n_e b_h se_h z_h f_ea f_hA k_hP b_nB se_nB z_nB f_hPs f_hPt f_hPw f_nBA k_nBP f_nBPs f_nBPt f_nBPw = some out) :
    jM l yX8_beat (.code yX8_beat cX8_beat 2 (some .int)) rmX8_beat D (wTy cI cJ cB cT) tt [.ref r_, .int i1] [cWB r_ r_n r_k r_h r_e r_x r_q ik, cHea r_e r_ea n_e, cBal r_h r_hP r_hA b_h se_h z_h, cWho r_n r_nB r_nT r_nS r_nK, cIar cI r_ea 400 f_ea, cJar cJ r_hA 4 f_hA, cPus r_hP r_hPt r_hPw r_hPs k_hP, cBal r_nB r_nBP r_nBA b_nB se_nB z_nB, cIar cI r_hPs 8 f_hPs, cIar cI r_hPt 8 f_hPt, cIar cI r_hPw 8 f_hPw, cJar cJ r_nBA 4 f_nBA, cPus r_nBP r_nBPt r_nBPw r_nBPs k_nBP, cIar cI r_nBPs 8 f_nBPs, cIar cI r_nBPt 8 f_nBPt, cIar cI r_nBPw 8 f_nBPw] (some (.int out.1)) [cWB r_ r_n r_k r_h r_e r_x r_q ik, cHea r_e r_ea out.2.1, cBal r_h r_hP r_hA out.2.2.1 out.2.2.2.1 z_h, cWho r_n r_nB r_nT r_nS r_nK, cIar cI r_ea 400 out.2.2.2.2.1, cJar cJ r_hA 4 out.2.2.2.2.2.1, cPus r_hP r_hPt r_hPw r_hPs out.2.2.2.2.2.2.1, cBal r_nB r_nBP r_nBA b_nB se_nB z_nB, cIar cI r_hPs 8 out.2.2.2.2.2.2.2.1, cIar cI r_hPt 8 out.2.2.2.2.2.2.2.2.1, cIar cI r_hPw 8 out.2.2.2.2.2.2.2.2.2, cJar cJ r_nBA 4 f_nBA, cPus r_nBP r_nBPt r_nBPw r_nBPs k_nBP, cIar cI r_nBPs 8 f_nBPs, cIar cI r_nBPt 8 f_nBPt, cIar cI r_nBPw 8 f_nBPw] := by
  refine jM.of (by decide) (Nat.le_of_ble_eq_true rfl) ?_
  intro p e s m below meth c A X hr
  refine j_sub (lv2 := [(0, .ref r_), (1, .int i1)]) [0, 1] rfl ?_
  have hR := h
  unfold fX8_beat at hR
  refine j_iload_n X (q := 1) dX8_beat_0 rfl ?_
  refine j_iconst X (v := 0) dX8_beat_1 (by decide) ?_
  refine j_iconst X (v := 4) dX8_beat_2 (by decide) ?_
  obtain ⟨ov1, hov1, hR⟩ := bd_some hR
  refine j_callS X (As := [.int i1, .int 0, .int 4]) (rest := []) (ws2 := [cWB r_ r_n r_k r_h r_e r_x r_q ik, cHea r_e r_ea n_e, cBal r_h r_hP r_hA b_h se_h z_h, cWho r_n r_nB r_nT r_nS r_nK, cIar cI r_ea 400 f_ea, cJar cJ r_hA 4 f_hA, cPus r_hP r_hPt r_hPw r_hPs k_hP, cBal r_nB r_nBP r_nBA b_nB se_nB z_nB, cIar cI r_hPs 8 f_hPs, cIar cI r_hPt 8 f_hPt, cIar cI r_hPw 8 f_hPw, cJar cJ r_nBA 4 f_nBA, cPus r_nBP r_nBPt r_nBPw r_nBPs k_nBP, cIar cI r_nBPs 8 f_nBPs, cIar cI r_nBPt 8 f_nBPt, cIar cI r_nBPw 8 f_nBPw]) (mX8_isBetween l D cI cJ cB cT tt  hov1) [] [.inl 0, .inl 1, .inl 2, .inl 3, .inl 4, .inl 5, .inl 6, .inl 7, .inl 8, .inl 9, .inl 10, .inl 11, .inl 12, .inl 13, .inl 14, .inl 15] k_299 k_297 k_298 k_38 hdX8_isBetween (by decide) (Nat.le_of_ble_eq_true rfl) dX8_beat_3 (by decide) rfl rfl (by decide) rfl rfl ?_
  refine j_if_ne X (tgt := 13) dX8_beat_6 (by decide) (fun cv2 => ?_) (fun cv2 => ?_)
  · replace hR := (if_neg cv2).symm.trans hR
    refine j_iload_n X (q := 1) dX8_beat_13 rfl ?_
    refine j_iconst X (v := 3) dX8_beat_14 (by decide) ?_
    refine j_icmp_ne X (tgt := 23) dX8_beat_15 (by decide) (fun cv3 => ?_) (fun cv3 => ?_)
    · replace hR := (if_neg cv3).symm.trans hR
      refine j_aload_n X (q := 0) dX8_beat_23 rfl ?_
      obtain ⟨ov4, hov4, hR⟩ := bd_some hR
      refine j_callV X (As := []) (rest := []) (ws2 := [cWB r_ r_n r_k r_h r_e r_x r_q ik, cHea r_e r_ea ov4.1, cBal r_h r_hP r_hA ov4.2.1 ov4.2.2.1 z_h, cWho r_n r_nB r_nT r_nS r_nK, cIar cI r_ea 400 ov4.2.2.2.1, cJar cJ r_hA 4 ov4.2.2.2.2.1, cPus r_hP r_hPt r_hPw r_hPs ov4.2.2.2.2.2.1, cBal r_nB r_nBP r_nBA b_nB se_nB z_nB, cIar cI r_hPs 8 ov4.2.2.2.2.2.2.1, cIar cI r_hPt 8 ov4.2.2.2.2.2.2.2.1, cIar cI r_hPw 8 ov4.2.2.2.2.2.2.2.2, cJar cJ r_nBA 4 f_nBA, cPus r_nBP r_nBPt r_nBPw r_nBPs k_nBP, cIar cI r_nBPs 8 f_nBPs, cIar cI r_nBPt 8 f_nBPt, cIar cI r_nBPw 8 f_nBPw]) (q0 := 0) (ci := 8) (mX8_listenFromNow l D cI cJ cB cT tt r_ r_n r_k r_h r_e r_x r_q r_ea r_hP r_hA r_nB r_nT r_nS r_nK r_hPt r_hPw r_hPs r_nBP r_nBA r_nBPt r_nBPw r_nBPs hov4) [0, 1, 2, 3, 4, 5, 6, 7, 8, 9, 10, 11, 12, 13, 14, 15] [.inr 0, .inr 1, .inr 2, .inr 3, .inr 4, .inr 5, .inr 6, .inr 7, .inr 8, .inr 9, .inr 10, .inr 11, .inr 12, .inr 13, .inr 14, .inr 15] k_486 k_483 k_485 k_13 rfl rfl k_38 hdX8_listenFromNow (by decide) (Nat.le_of_ble_eq_true rfl) dX8_beat_24 (by decide) rfl rfl (by decide) rfl rfl ?_
      refine j_iload_n X (q := 1) dX8_beat_27 rfl ?_
      by_cases cv5 : i1 = 0
      · replace hR := (if_pos cv5).symm.trans hR
        refine j_tableIn X (tgt := 56) dX8_beat_28 (by rw [cv5]; decide) (by rw [cv5]; decide) (by rw [cv5]; rfl) (by decide) ?_
        refine j_aload_n X (q := 0) dX8_beat_56 rfl ?_
        refine j_get X 0 4 hiX8 k_268 dX8_beat_57 rfl rfl (by decide) rfl ?_
        refine j_get X 1 1 hiX1 k_211 dX8_beat_60 rfl rfl (by decide) rfl ?_
        have hR := Option.some.inj hR
        exact j_iret X hr dX8_beat_63 (by rw [← hR]) (by rw [← hR])
      · replace hR := (if_neg cv5).symm.trans hR
        by_cases cv6 : i1 = 1
        · replace hR := (if_pos cv6).symm.trans hR
          refine j_tableIn X (tgt := 64) dX8_beat_28 (by rw [cv6]; decide) (by rw [cv6]; decide) (by rw [cv6]; rfl) (by decide) ?_
          refine j_aload_n X (q := 0) dX8_beat_64 rfl ?_
          refine j_get X 0 4 hiX8 k_268 dX8_beat_65 rfl rfl (by decide) rfl ?_
          obtain ⟨ov7, hov7, hR⟩ := bd_some hR
          refine j_callV X (As := []) (rest := []) (ws2 := [cWB r_ r_n r_k r_h r_e r_x r_q ik, cHea r_e r_ea ov4.1, cBal r_h r_hP r_hA ov4.2.1 ov4.2.2.1 z_h, cWho r_n r_nB r_nT r_nS r_nK, cIar cI r_ea 400 ov4.2.2.2.1, cJar cJ r_hA 4 ov4.2.2.2.2.1, cPus r_hP r_hPt r_hPw r_hPs ov4.2.2.2.2.2.1, cBal r_nB r_nBP r_nBA b_nB se_nB z_nB, cIar cI r_hPs 8 ov4.2.2.2.2.2.2.1, cIar cI r_hPt 8 ov4.2.2.2.2.2.2.2.1, cIar cI r_hPw 8 ov4.2.2.2.2.2.2.2.2, cJar cJ r_nBA 4 f_nBA, cPus r_nBP r_nBPt r_nBPw r_nBPs k_nBP, cIar cI r_nBPs 8 f_nBPs, cIar cI r_nBPt 8 f_nBPt, cIar cI r_nBPw 8 f_nBPw]) (q0 := 1) (ci := 1) (mX1_gaps l D cI cJ cB cT tt r_e r_ea hov7) [1] [.inl 0, .inr 0, .inl 2, .inl 3, .inl 4, .inl 5, .inl 6, .inl 7, .inl 8, .inl 9, .inl 10, .inl 11, .inl 12, .inl 13, .inl 14, .inl 15] k_516 k_527 k_514 k_515 rfl rfl k_44 hdX1_gaps (by decide) (Nat.le_of_ble_eq_true rfl) dX8_beat_68 (by decide) rfl rfl (by decide) rfl rfl ?_
          have hR := Option.some.inj hR
          exact j_iret X hr dX8_beat_71 (by rw [← hR]) (by rw [← hR])
        · replace hR := (if_neg cv6).symm.trans hR
          by_cases cv8 : i1 = 2
          · replace hR := (if_pos cv8).symm.trans hR
            refine j_tableIn X (tgt := 72) dX8_beat_28 (by rw [cv8]; decide) (by rw [cv8]; decide) (by rw [cv8]; rfl) (by decide) ?_
            refine j_aload_n X (q := 0) dX8_beat_72 rfl ?_
            refine j_get X 0 4 hiX8 k_268 dX8_beat_73 rfl rfl (by decide) rfl ?_
            obtain ⟨ov9, hov9, hR⟩ := bd_some hR
            refine j_callV X (As := []) (rest := []) (ws2 := [cWB r_ r_n r_k r_h r_e r_x r_q ik, cHea r_e r_ea ov4.1, cBal r_h r_hP r_hA ov4.2.1 ov4.2.2.1 z_h, cWho r_n r_nB r_nT r_nS r_nK, cIar cI r_ea 400 ov4.2.2.2.1, cJar cJ r_hA 4 ov4.2.2.2.2.1, cPus r_hP r_hPt r_hPw r_hPs ov4.2.2.2.2.2.1, cBal r_nB r_nBP r_nBA b_nB se_nB z_nB, cIar cI r_hPs 8 ov4.2.2.2.2.2.2.1, cIar cI r_hPt 8 ov4.2.2.2.2.2.2.2.1, cIar cI r_hPw 8 ov4.2.2.2.2.2.2.2.2, cJar cJ r_nBA 4 f_nBA, cPus r_nBP r_nBPt r_nBPw r_nBPs k_nBP, cIar cI r_nBPs 8 f_nBPs, cIar cI r_nBPt 8 f_nBPt, cIar cI r_nBPw 8 f_nBPw]) (q0 := 1) (ci := 1) (mX1_uneven l D cI cJ cB cT tt r_e r_ea hov9) [1, 4] [.inl 0, .inr 0, .inl 2, .inl 3, .inr 1, .inl 5, .inl 6, .inl 7, .inl 8, .inl 9, .inl 10, .inl 11, .inl 12, .inl 13, .inl 14, .inl 15] k_512 k_509 k_510 k_511 rfl rfl k_44 hdX1_uneven (by decide) (Nat.le_of_ble_eq_true rfl) dX8_beat_76 (by decide) rfl rfl (by decide) rfl rfl ?_
            have hR := Option.some.inj hR
            exact j_iret X hr dX8_beat_79 (by rw [← hR]) (by rw [← hR])
          · replace hR := (if_neg cv8).symm.trans hR
            refine j_tableOut X (tgt := 80) dX8_beat_28 (by have hcv5 := lv_neT cv5 (a := 0) rfl; have hcv6 := lv_neT cv6 (a := 1) rfl; have hcv8 := lv_neT cv8 (a := 2) rfl; omega) (by decide) ?_
            refine j_aload_n X (q := 0) dX8_beat_80 rfl ?_
            refine j_get X 0 4 hiX8 k_268 dX8_beat_81 rfl rfl (by decide) rfl ?_
            refine j_get X 1 1 hiX1 k_211 dX8_beat_84 rfl rfl (by decide) rfl ?_
            refine j_if_ne X (tgt := 96) dX8_beat_87 (by decide) (fun cv10 => ?_) (fun cv10 => ?_)
            · replace hR := (if_neg cv10).symm.trans hR
              refine j_aload_n X (q := 0) dX8_beat_96 rfl ?_
              refine j_get X 0 4 hiX8 k_268 dX8_beat_97 rfl rfl (by decide) rfl ?_
              refine j_aload_n X (q := 0) dX8_beat_100 rfl ?_
              refine j_get X 0 4 hiX8 k_268 dX8_beat_101 rfl rfl (by decide) rfl ?_
              refine j_get X 1 1 hiX1 k_211 dX8_beat_104 rfl rfl (by decide) rfl ?_
              refine j_iconst X (v := 1) dX8_beat_107 (by decide) ?_
              refine j_isub X dX8_beat_108 ?_
              obtain ⟨ov11, hov11, hR⟩ := bd_some hR
              refine j_callV X (As := [.int (ov4.1 - 1)]) (rest := []) (ws2 := [cWB r_ r_n r_k r_h r_e r_x r_q ik, cHea r_e r_ea ov4.1, cBal r_h r_hP r_hA ov4.2.1 ov4.2.2.1 z_h, cWho r_n r_nB r_nT r_nS r_nK, cIar cI r_ea 400 ov4.2.2.2.1, cJar cJ r_hA 4 ov4.2.2.2.2.1, cPus r_hP r_hPt r_hPw r_hPs ov4.2.2.2.2.2.1, cBal r_nB r_nBP r_nBA b_nB se_nB z_nB, cIar cI r_hPs 8 ov4.2.2.2.2.2.2.1, cIar cI r_hPt 8 ov4.2.2.2.2.2.2.2.1, cIar cI r_hPw 8 ov4.2.2.2.2.2.2.2.2, cJar cJ r_nBA 4 f_nBA, cPus r_nBP r_nBPt r_nBPw r_nBPs k_nBP, cIar cI r_nBPs 8 f_nBPs, cIar cI r_nBPt 8 f_nBPt, cIar cI r_nBPw 8 f_nBPw]) (q0 := 1) (ci := 1) (mX1_beatAt l D cI cJ cB cT tt r_e r_ea hov11) [1, 4] [.inl 0, .inr 0, .inl 2, .inl 3, .inr 1, .inl 5, .inl 6, .inl 7, .inl 8, .inl 9, .inl 10, .inl 11, .inl 12, .inl 13, .inl 14, .inl 15] k_495 k_492 k_493 k_494 rfl rfl k_44 hdX1_beatAt (by decide) (Nat.le_of_ble_eq_true rfl) dX8_beat_109 (by decide) rfl rfl (by decide) rfl rfl ?_
              have hR := Option.some.inj hR
              exact j_iret X hr dX8_beat_112 (by rw [← hR]) (by rw [← hR])
            · replace hR := (if_pos cv10).symm.trans hR
              refine j_sipush X (v := (-500)) dX8_beat_90 (by decide) ?_
              refine j_goto X (tgt := 112) dX8_beat_93 (by decide) ?_
              have hR := Option.some.inj hR
              exact j_iret X hr dX8_beat_112 (by rw [← hR]) (by rw [← hR])
    · replace hR := (if_pos cv3).symm.trans hR
      refine j_aload_n X (q := 0) dX8_beat_18 rfl ?_
      obtain ⟨ov12, hov12, hR⟩ := bd_some hR
      refine j_callV X (As := []) (rest := []) (ws2 := [cWB r_ r_n r_k r_h r_e r_x r_q ik, cHea r_e r_ea ov12.2.1, cBal r_h r_hP r_hA ov12.2.2.1 ov12.2.2.2.1 z_h, cWho r_n r_nB r_nT r_nS r_nK, cIar cI r_ea 400 ov12.2.2.2.2.1, cJar cJ r_hA 4 ov12.2.2.2.2.2.1, cPus r_hP r_hPt r_hPw r_hPs ov12.2.2.2.2.2.2.1, cBal r_nB r_nBP r_nBA b_nB se_nB z_nB, cIar cI r_hPs 8 ov12.2.2.2.2.2.2.2.1, cIar cI r_hPt 8 ov12.2.2.2.2.2.2.2.2.1, cIar cI r_hPw 8 ov12.2.2.2.2.2.2.2.2.2, cJar cJ r_nBA 4 f_nBA, cPus r_nBP r_nBPt r_nBPw r_nBPs k_nBP, cIar cI r_nBPs 8 f_nBPs, cIar cI r_nBPt 8 f_nBPt, cIar cI r_nBPw 8 f_nBPw]) (q0 := 0) (ci := 8) (mX8_evenest l D cI cJ cB cT tt r_ r_n r_k r_h r_e r_x r_q r_ea r_hP r_hA r_nB r_nT r_nS r_nK r_hPt r_hPw r_hPs r_nBP r_nBA r_nBPt r_nBPw r_nBPs hov12) [0, 1, 2, 3, 4, 5, 6, 7, 8, 9, 10, 11, 12, 13, 14, 15] [.inr 0, .inr 1, .inr 2, .inr 3, .inr 4, .inr 5, .inr 6, .inr 7, .inr 8, .inr 9, .inr 10, .inr 11, .inr 12, .inr 13, .inr 14, .inr 15] k_503 k_500 k_502 k_14 rfl rfl k_38 hdX8_evenest (by decide) (Nat.le_of_ble_eq_true rfl) dX8_beat_19 (by decide) rfl rfl (by decide) rfl rfl ?_
      have hR := Option.some.inj hR
      exact j_iret X hr dX8_beat_22 (by rw [← hR]) (by rw [← hR])
  · replace hR := (if_pos cv2).symm.trans hR
    refine j_sipush X (v := (-1000)) dX8_beat_9 (by decide) ?_
    have hR := Option.some.inj hR
    exact j_iret X hr dX8_beat_12 (by rw [← hR]) (by rw [← hR])

def rmX8_gap : Room := { frames := 6, cells := 0, slots := 0, locals := 122 }
theorem hdX8_gap : yX8_gap.cls ≠ "java/lang/invoke/MethodHandle" ∧ yX8_gap.cls ≠ "java/lang/invoke/VarHandle" ∧ (parseMethodDescriptor yX8_gap.desc).map (fun d => d.parameters.length) = some 1 := by decide +kernel
def fX8_gap (i1 : Int32) (ik : Int32) (n_e : Int32) (b_h : Nat → Int32) (se_h : Int64) (z_h : Int32) (f_ea : Nat → Int32) (f_hA : Nat → Int64) (k_hP : Int32) (b_nB : Nat → Int32) (se_nB : Int64) (z_nB : Int32) (f_hPs : Nat → Int32) (f_hPt : Nat → Int32) (f_hPw : Nat → Int32) (f_nBA : Nat → Int64) (k_nBP : Int32) (f_nBPs : Nat → Int32) (f_nBPt : Nat → Int32) (f_nBPw : Nat → Int32) : Option (Int32 × Int32 × (Nat → Int32) × Int64 × (Nat → Int32) × (Nat → Int64) × Int32 × (Nat → Int32) × (Nat → Int32) × (Nat → Int32)) :=
  if (0 : Int32) ≤ i1 then ((fX8_listenFromNow ik n_e b_h se_h z_h f_ea f_hA k_hP b_nB se_nB z_nB f_hPs f_hPt f_hPw f_nBA k_nBP f_nBPs f_nBPt f_nBPw).bind fun ov2 =>
  (fX1_gapAt i1 ov2.1 ov2.2.2.2.1).bind fun ov3 =>
  some (ov3, ov2.1, ov2.2.1, ov2.2.2.1, ov2.2.2.2.1, ov2.2.2.2.2.1, ov2.2.2.2.2.2.1, ov2.2.2.2.2.2.2.1, ov2.2.2.2.2.2.2.2.1, ov2.2.2.2.2.2.2.2.2)) else (some ((-1), n_e, b_h, se_h, f_ea, f_hA, k_hP, f_hPs, f_hPt, f_hPw))
set_option maxHeartbeats 8000000 in
set_option maxRecDepth 100000 in
theorem mX8_gap (l : Launch) (D : va_G) (cI cJ cB cT : ClassId) (tt : Nat → Nat) (r_ r_n r_k r_h r_e r_x r_q r_ea r_hP r_hA r_nB r_nT r_nS r_nK r_hPt r_hPw r_hPs r_nBP r_nBA r_nBPt r_nBPw r_nBPs : Nat) {i1 : Int32} {ik : Int32} {n_e : Int32} {b_h : Nat → Int32} {se_h : Int64} {z_h : Int32} {f_ea : Nat → Int32} {f_hA : Nat → Int64} {k_hP : Int32} {b_nB : Nat → Int32} {se_nB : Int64} {z_nB : Int32} {f_hPs : Nat → Int32} {f_hPt : Nat → Int32} {f_hPw : Nat → Int32} {f_nBA : Nat → Int64} {k_nBP : Int32} {f_nBPs : Nat → Int32} {f_nBPt : Nat → Int32} {f_nBPw : Nat → Int32} {out : Int32 × Int32 × (Nat → Int32) × Int64 × (Nat → Int32) × (Nat → Int64) × Int32 × (Nat → Int32) × (Nat → Int32) × (Nat → Int32)} (h : fX8_gap i1 ik n_e b_h se_h z_h f_ea f_hA k_hP b_nB se_nB z_nB f_hPs f_hPt f_hPw f_nBA k_nBP f_nBPs f_nBPt f_nBPw = some out) :
    jM l yX8_gap (.code yX8_gap cX8_gap 2 (some .int)) rmX8_gap D (wTy cI cJ cB cT) tt [.ref r_, .int i1] [cWB r_ r_n r_k r_h r_e r_x r_q ik, cHea r_e r_ea n_e, cBal r_h r_hP r_hA b_h se_h z_h, cWho r_n r_nB r_nT r_nS r_nK, cIar cI r_ea 400 f_ea, cJar cJ r_hA 4 f_hA, cPus r_hP r_hPt r_hPw r_hPs k_hP, cBal r_nB r_nBP r_nBA b_nB se_nB z_nB, cIar cI r_hPs 8 f_hPs, cIar cI r_hPt 8 f_hPt, cIar cI r_hPw 8 f_hPw, cJar cJ r_nBA 4 f_nBA, cPus r_nBP r_nBPt r_nBPw r_nBPs k_nBP, cIar cI r_nBPs 8 f_nBPs, cIar cI r_nBPt 8 f_nBPt, cIar cI r_nBPw 8 f_nBPw] (some (.int out.1)) [cWB r_ r_n r_k r_h r_e r_x r_q ik, cHea r_e r_ea out.2.1, cBal r_h r_hP r_hA out.2.2.1 out.2.2.2.1 z_h, cWho r_n r_nB r_nT r_nS r_nK, cIar cI r_ea 400 out.2.2.2.2.1, cJar cJ r_hA 4 out.2.2.2.2.2.1, cPus r_hP r_hPt r_hPw r_hPs out.2.2.2.2.2.2.1, cBal r_nB r_nBP r_nBA b_nB se_nB z_nB, cIar cI r_hPs 8 out.2.2.2.2.2.2.2.1, cIar cI r_hPt 8 out.2.2.2.2.2.2.2.2.1, cIar cI r_hPw 8 out.2.2.2.2.2.2.2.2.2, cJar cJ r_nBA 4 f_nBA, cPus r_nBP r_nBPt r_nBPw r_nBPs k_nBP, cIar cI r_nBPs 8 f_nBPs, cIar cI r_nBPt 8 f_nBPt, cIar cI r_nBPw 8 f_nBPw] := by
  refine jM.of (by decide) (Nat.le_of_ble_eq_true rfl) ?_
  intro p e s m below meth c A X hr
  refine j_sub (lv2 := [(0, .ref r_), (1, .int i1)]) [0, 1] rfl ?_
  have hR := h
  unfold fX8_gap at hR
  refine j_iload_n X (q := 1) dX8_gap_0 rfl ?_
  refine j_if_ge X (tgt := 6) dX8_gap_1 (by decide) (fun cv1 => ?_) (fun cv1 => ?_)
  · replace hR := (if_pos cv1).symm.trans hR
    refine j_aload_n X (q := 0) dX8_gap_6 rfl ?_
    obtain ⟨ov2, hov2, hR⟩ := bd_some hR
    refine j_callV X (As := []) (rest := []) (ws2 := [cWB r_ r_n r_k r_h r_e r_x r_q ik, cHea r_e r_ea ov2.1, cBal r_h r_hP r_hA ov2.2.1 ov2.2.2.1 z_h, cWho r_n r_nB r_nT r_nS r_nK, cIar cI r_ea 400 ov2.2.2.2.1, cJar cJ r_hA 4 ov2.2.2.2.2.1, cPus r_hP r_hPt r_hPw r_hPs ov2.2.2.2.2.2.1, cBal r_nB r_nBP r_nBA b_nB se_nB z_nB, cIar cI r_hPs 8 ov2.2.2.2.2.2.2.1, cIar cI r_hPt 8 ov2.2.2.2.2.2.2.2.1, cIar cI r_hPw 8 ov2.2.2.2.2.2.2.2.2, cJar cJ r_nBA 4 f_nBA, cPus r_nBP r_nBPt r_nBPw r_nBPs k_nBP, cIar cI r_nBPs 8 f_nBPs, cIar cI r_nBPt 8 f_nBPt, cIar cI r_nBPw 8 f_nBPw]) (q0 := 0) (ci := 8) (mX8_listenFromNow l D cI cJ cB cT tt r_ r_n r_k r_h r_e r_x r_q r_ea r_hP r_hA r_nB r_nT r_nS r_nK r_hPt r_hPw r_hPs r_nBP r_nBA r_nBPt r_nBPw r_nBPs hov2) [0, 1, 2, 3, 4, 5, 6, 7, 8, 9, 10, 11, 12, 13, 14, 15] [.inr 0, .inr 1, .inr 2, .inr 3, .inr 4, .inr 5, .inr 6, .inr 7, .inr 8, .inr 9, .inr 10, .inr 11, .inr 12, .inr 13, .inr 14, .inr 15] k_486 k_483 k_485 k_13 rfl rfl k_38 hdX8_listenFromNow (by decide) (Nat.le_of_ble_eq_true rfl) dX8_gap_7 (by decide) rfl rfl (by decide) rfl rfl ?_
    refine j_aload_n X (q := 0) dX8_gap_10 rfl ?_
    refine j_get X 0 4 hiX8 k_268 dX8_gap_11 rfl rfl (by decide) rfl ?_
    refine j_iload_n X (q := 1) dX8_gap_14 rfl ?_
    obtain ⟨ov3, hov3, hR⟩ := bd_some hR
    refine j_callV X (As := [.int i1]) (rest := []) (ws2 := [cWB r_ r_n r_k r_h r_e r_x r_q ik, cHea r_e r_ea ov2.1, cBal r_h r_hP r_hA ov2.2.1 ov2.2.2.1 z_h, cWho r_n r_nB r_nT r_nS r_nK, cIar cI r_ea 400 ov2.2.2.2.1, cJar cJ r_hA 4 ov2.2.2.2.2.1, cPus r_hP r_hPt r_hPw r_hPs ov2.2.2.2.2.2.1, cBal r_nB r_nBP r_nBA b_nB se_nB z_nB, cIar cI r_hPs 8 ov2.2.2.2.2.2.2.1, cIar cI r_hPt 8 ov2.2.2.2.2.2.2.2.1, cIar cI r_hPw 8 ov2.2.2.2.2.2.2.2.2, cJar cJ r_nBA 4 f_nBA, cPus r_nBP r_nBPt r_nBPw r_nBPs k_nBP, cIar cI r_nBPs 8 f_nBPs, cIar cI r_nBPt 8 f_nBPt, cIar cI r_nBPw 8 f_nBPw]) (q0 := 1) (ci := 1) (mX1_gapAt l D cI cJ cB cT tt r_e r_ea hov3) [1, 4] [.inl 0, .inr 0, .inl 2, .inl 3, .inr 1, .inl 5, .inl 6, .inl 7, .inl 8, .inl 9, .inl 10, .inl 11, .inl 12, .inl 13, .inl 14, .inl 15] k_521 k_532 k_519 k_520 rfl rfl k_44 hdX1_gapAt (by decide) (Nat.le_of_ble_eq_true rfl) dX8_gap_15 (by decide) rfl rfl (by decide) rfl rfl ?_
    have hR := Option.some.inj hR
    exact j_iret X hr dX8_gap_18 (by rw [← hR]) (by rw [← hR])
  · replace hR := (if_neg cv1).symm.trans hR
    refine j_iconst X (v := (-1)) dX8_gap_4 (by decide) ?_
    have hR := Option.some.inj hR
    exact j_iret X hr dX8_gap_5 (by rw [← hR]) (by rw [← hR])

def rmX8_longest : Room := { frames := 6, cells := 0, slots := 0, locals := 122 }
theorem hdX8_longest : yX8_longest.cls ≠ "java/lang/invoke/MethodHandle" ∧ yX8_longest.cls ≠ "java/lang/invoke/VarHandle" ∧ (parseMethodDescriptor yX8_longest.desc).map (fun d => d.parameters.length) = some 2 := by decide +kernel
def fX8_longest (i1 : Int32) (i2 : Int32) (ik : Int32) (n_e : Int32) (b_h : Nat → Int32) (se_h : Int64) (z_h : Int32) (f_ea : Nat → Int32) (f_hA : Nat → Int64) (k_hP : Int32) (b_nB : Nat → Int32) (se_nB : Int64) (z_nB : Int32) (f_hPs : Nat → Int32) (f_hPt : Nat → Int32) (f_hPw : Nat → Int32) (f_nBA : Nat → Int64) (k_nBP : Int32) (f_nBPs : Nat → Int32) (f_nBPt : Nat → Int32) (f_nBPw : Nat → Int32) : Option (Int32 × Int32 × (Nat → Int32) × Int64 × (Nat → Int32) × (Nat → Int64) × Int32 × (Nat → Int32) × (Nat → Int32) × (Nat → Int32)) :=
  if i1 < 0 then (some ((-1), n_e, b_h, se_h, f_ea, f_hA, k_hP, f_hPs, f_hPt, f_hPw)) else ((fX8_isBetween i2 0 1).bind fun ov2 =>
  if ov2 = 0 then (some ((-1), n_e, b_h, se_h, f_ea, f_hA, k_hP, f_hPs, f_hPt, f_hPw)) else ((fX8_listenFromNow ik n_e b_h se_h z_h f_ea f_hA k_hP b_nB se_nB z_nB f_hPs f_hPt f_hPw f_nBA k_nBP f_nBPs f_nBPt f_nBPw).bind fun ov4 =>
  (fX1_longestGap i1 ov4.1 ov4.2.2.2.1).bind fun ov5 =>
  if i2 = 1 then (some (ov5, ov4.1, ov4.2.1, ov4.2.2.1, ov4.2.2.2.1, ov4.2.2.2.2.1, ov4.2.2.2.2.2.1, ov4.2.2.2.2.2.2.1, ov4.2.2.2.2.2.2.2.1, ov4.2.2.2.2.2.2.2.2)) else (if ov5 = (-5) then (some (ov5, ov4.1, ov4.2.1, ov4.2.2.1, ov4.2.2.2.1, ov4.2.2.2.2.1, ov4.2.2.2.2.2.1, ov4.2.2.2.2.2.2.1, ov4.2.2.2.2.2.2.2.1, ov4.2.2.2.2.2.2.2.2)) else ((fX1_gapAt ov5 ov4.1 ov4.2.2.2.1).bind fun ov8 =>
  some (ov8, ov4.1, ov4.2.1, ov4.2.2.1, ov4.2.2.2.1, ov4.2.2.2.2.1, ov4.2.2.2.2.2.1, ov4.2.2.2.2.2.2.1, ov4.2.2.2.2.2.2.2.1, ov4.2.2.2.2.2.2.2.2)))))
set_option maxHeartbeats 8000000 in
set_option maxRecDepth 100000 in
theorem mX8_longest (l : Launch) (D : va_G) (cI cJ cB cT : ClassId) (tt : Nat → Nat) (r_ r_n r_k r_h r_e r_x r_q r_ea r_hP r_hA r_nB r_nT r_nS r_nK r_hPt r_hPw r_hPs r_nBP r_nBA r_nBPt r_nBPw r_nBPs : Nat) {i1 : Int32} {i2 : Int32} {ik : Int32} {n_e : Int32} {b_h : Nat → Int32} {se_h : Int64} {z_h : Int32} {f_ea : Nat → Int32} {f_hA : Nat → Int64} {k_hP : Int32} {b_nB : Nat → Int32} {se_nB : Int64} {z_nB : Int32} {f_hPs : Nat → Int32} {f_hPt : Nat → Int32} {f_hPw : Nat → Int32} {f_nBA : Nat → Int64} {k_nBP : Int32} {f_nBPs : Nat → Int32} {f_nBPt : Nat → Int32} {f_nBPw : Nat → Int32} {out : Int32 × Int32 × (Nat → Int32) × Int64 × (Nat → Int32) × (Nat → Int64) × Int32 × (Nat → Int32) × (Nat → Int32) × (Nat → Int32)} (h : fX8_longest i1 i2 ik n_e b_h se_h z_h f_ea f_hA k_hP b_nB se_nB z_nB f_hPs f_hPt f_hPw f_nBA k_nBP f_nBPs f_nBPt f_nBPw = some out) :
    jM l yX8_longest (.code yX8_longest cX8_longest 4 (some .int)) rmX8_longest D (wTy cI cJ cB cT) tt [.ref r_, .int i1, .int i2] [cWB r_ r_n r_k r_h r_e r_x r_q ik, cHea r_e r_ea n_e, cBal r_h r_hP r_hA b_h se_h z_h, cWho r_n r_nB r_nT r_nS r_nK, cIar cI r_ea 400 f_ea, cJar cJ r_hA 4 f_hA, cPus r_hP r_hPt r_hPw r_hPs k_hP, cBal r_nB r_nBP r_nBA b_nB se_nB z_nB, cIar cI r_hPs 8 f_hPs, cIar cI r_hPt 8 f_hPt, cIar cI r_hPw 8 f_hPw, cJar cJ r_nBA 4 f_nBA, cPus r_nBP r_nBPt r_nBPw r_nBPs k_nBP, cIar cI r_nBPs 8 f_nBPs, cIar cI r_nBPt 8 f_nBPt, cIar cI r_nBPw 8 f_nBPw] (some (.int out.1)) [cWB r_ r_n r_k r_h r_e r_x r_q ik, cHea r_e r_ea out.2.1, cBal r_h r_hP r_hA out.2.2.1 out.2.2.2.1 z_h, cWho r_n r_nB r_nT r_nS r_nK, cIar cI r_ea 400 out.2.2.2.2.1, cJar cJ r_hA 4 out.2.2.2.2.2.1, cPus r_hP r_hPt r_hPw r_hPs out.2.2.2.2.2.2.1, cBal r_nB r_nBP r_nBA b_nB se_nB z_nB, cIar cI r_hPs 8 out.2.2.2.2.2.2.2.1, cIar cI r_hPt 8 out.2.2.2.2.2.2.2.2.1, cIar cI r_hPw 8 out.2.2.2.2.2.2.2.2.2, cJar cJ r_nBA 4 f_nBA, cPus r_nBP r_nBPt r_nBPw r_nBPs k_nBP, cIar cI r_nBPs 8 f_nBPs, cIar cI r_nBPt 8 f_nBPt, cIar cI r_nBPw 8 f_nBPw] := by
  refine jM.of (by decide) (Nat.le_of_ble_eq_true rfl) ?_
  intro p e s m below meth c A X hr
  refine j_sub (lv2 := [(0, .ref r_), (1, .int i1), (2, .int i2)]) [0, 1, 2] rfl ?_
  have hR := h
  unfold fX8_longest at hR
  refine j_iload_n X (q := 1) dX8_longest_0 rfl ?_
  refine j_if_lt X (tgt := 13) dX8_longest_1 (by decide) (fun cv1 => ?_) (fun cv1 => ?_)
  · replace hR := (if_pos cv1).symm.trans hR
    refine j_iconst X (v := (-1)) dX8_longest_13 (by decide) ?_
    have hR := Option.some.inj hR
    exact j_iret X hr dX8_longest_14 (by rw [← hR]) (by rw [← hR])
  · replace hR := (if_neg cv1).symm.trans hR
    refine j_iload_n X (q := 2) dX8_longest_4 rfl ?_
    refine j_iconst X (v := 0) dX8_longest_5 (by decide) ?_
    refine j_iconst X (v := 1) dX8_longest_6 (by decide) ?_
    obtain ⟨ov2, hov2, hR⟩ := bd_some hR
    refine j_callS X (As := [.int i2, .int 0, .int 1]) (rest := []) (ws2 := [cWB r_ r_n r_k r_h r_e r_x r_q ik, cHea r_e r_ea n_e, cBal r_h r_hP r_hA b_h se_h z_h, cWho r_n r_nB r_nT r_nS r_nK, cIar cI r_ea 400 f_ea, cJar cJ r_hA 4 f_hA, cPus r_hP r_hPt r_hPw r_hPs k_hP, cBal r_nB r_nBP r_nBA b_nB se_nB z_nB, cIar cI r_hPs 8 f_hPs, cIar cI r_hPt 8 f_hPt, cIar cI r_hPw 8 f_hPw, cJar cJ r_nBA 4 f_nBA, cPus r_nBP r_nBPt r_nBPw r_nBPs k_nBP, cIar cI r_nBPs 8 f_nBPs, cIar cI r_nBPt 8 f_nBPt, cIar cI r_nBPw 8 f_nBPw]) (mX8_isBetween l D cI cJ cB cT tt  hov2) [] [.inl 0, .inl 1, .inl 2, .inl 3, .inl 4, .inl 5, .inl 6, .inl 7, .inl 8, .inl 9, .inl 10, .inl 11, .inl 12, .inl 13, .inl 14, .inl 15] k_299 k_297 k_298 k_38 hdX8_isBetween (by decide) (Nat.le_of_ble_eq_true rfl) dX8_longest_7 (by decide) rfl rfl (by decide) rfl rfl ?_
    refine j_if_ne X (tgt := 15) dX8_longest_10 (by decide) (fun cv3 => ?_) (fun cv3 => ?_)
    · replace hR := (if_neg cv3).symm.trans hR
      refine j_aload_n X (q := 0) dX8_longest_15 rfl ?_
      obtain ⟨ov4, hov4, hR⟩ := bd_some hR
      refine j_callV X (As := []) (rest := []) (ws2 := [cWB r_ r_n r_k r_h r_e r_x r_q ik, cHea r_e r_ea ov4.1, cBal r_h r_hP r_hA ov4.2.1 ov4.2.2.1 z_h, cWho r_n r_nB r_nT r_nS r_nK, cIar cI r_ea 400 ov4.2.2.2.1, cJar cJ r_hA 4 ov4.2.2.2.2.1, cPus r_hP r_hPt r_hPw r_hPs ov4.2.2.2.2.2.1, cBal r_nB r_nBP r_nBA b_nB se_nB z_nB, cIar cI r_hPs 8 ov4.2.2.2.2.2.2.1, cIar cI r_hPt 8 ov4.2.2.2.2.2.2.2.1, cIar cI r_hPw 8 ov4.2.2.2.2.2.2.2.2, cJar cJ r_nBA 4 f_nBA, cPus r_nBP r_nBPt r_nBPw r_nBPs k_nBP, cIar cI r_nBPs 8 f_nBPs, cIar cI r_nBPt 8 f_nBPt, cIar cI r_nBPw 8 f_nBPw]) (q0 := 0) (ci := 8) (mX8_listenFromNow l D cI cJ cB cT tt r_ r_n r_k r_h r_e r_x r_q r_ea r_hP r_hA r_nB r_nT r_nS r_nK r_hPt r_hPw r_hPs r_nBP r_nBA r_nBPt r_nBPw r_nBPs hov4) [0, 1, 2, 3, 4, 5, 6, 7, 8, 9, 10, 11, 12, 13, 14, 15] [.inr 0, .inr 1, .inr 2, .inr 3, .inr 4, .inr 5, .inr 6, .inr 7, .inr 8, .inr 9, .inr 10, .inr 11, .inr 12, .inr 13, .inr 14, .inr 15] k_486 k_483 k_485 k_13 rfl rfl k_38 hdX8_listenFromNow (by decide) (Nat.le_of_ble_eq_true rfl) dX8_longest_16 (by decide) rfl rfl (by decide) rfl rfl ?_
      refine j_aload_n X (q := 0) dX8_longest_19 rfl ?_
      refine j_get X 0 4 hiX8 k_268 dX8_longest_20 rfl rfl (by decide) rfl ?_
      refine j_iload_n X (q := 1) dX8_longest_23 rfl ?_
      obtain ⟨ov5, hov5, hR⟩ := bd_some hR
      refine j_callV X (As := [.int i1]) (rest := []) (ws2 := [cWB r_ r_n r_k r_h r_e r_x r_q ik, cHea r_e r_ea ov4.1, cBal r_h r_hP r_hA ov4.2.1 ov4.2.2.1 z_h, cWho r_n r_nB r_nT r_nS r_nK, cIar cI r_ea 400 ov4.2.2.2.1, cJar cJ r_hA 4 ov4.2.2.2.2.1, cPus r_hP r_hPt r_hPw r_hPs ov4.2.2.2.2.2.1, cBal r_nB r_nBP r_nBA b_nB se_nB z_nB, cIar cI r_hPs 8 ov4.2.2.2.2.2.2.1, cIar cI r_hPt 8 ov4.2.2.2.2.2.2.2.1, cIar cI r_hPw 8 ov4.2.2.2.2.2.2.2.2, cJar cJ r_nBA 4 f_nBA, cPus r_nBP r_nBPt r_nBPw r_nBPs k_nBP, cIar cI r_nBPs 8 f_nBPs, cIar cI r_nBPt 8 f_nBPt, cIar cI r_nBPw 8 f_nBPw]) (q0 := 1) (ci := 1) (mX1_longestGap l D cI cJ cB cT tt r_e r_ea hov5) [1, 4] [.inl 0, .inr 0, .inl 2, .inl 3, .inr 1, .inl 5, .inl 6, .inl 7, .inl 8, .inl 9, .inl 10, .inl 11, .inl 12, .inl 13, .inl 14, .inl 15] k_540 k_537 k_538 k_539 rfl rfl k_44 hdX1_longestGap (by decide) (Nat.le_of_ble_eq_true rfl) dX8_longest_24 (by decide) rfl rfl (by decide) rfl rfl ?_
      refine j_istore_n X (lv2 := [(3, .int ov5), (0, .ref r_), (1, .int i1), (2, .int i2)]) dX8_longest_27 (by decide) rfl ?_
      refine j_iload_n X (q := 3) dX8_longest_28 rfl ?_
      refine j_iconst X (v := 1) dX8_longest_29 (by decide) ?_
      refine j_icmp_eq X (tgt := 39) dX8_longest_30 (by decide) (fun cv6 => ?_) (fun cv6 => ?_)
      · replace hR := (if_pos cv6).symm.trans hR
        refine j_iload_n X (q := 0) dX8_longest_39 rfl ?_
        refine j_goto X (tgt := 51) dX8_longest_40 (by decide) ?_
        have hR := Option.some.inj hR
        exact j_iret X hr dX8_longest_51 (by rw [← hR]) (by rw [← hR])
      · replace hR := (if_neg cv6).symm.trans hR
        refine j_iload_n X (q := 0) dX8_longest_33 rfl ?_
        refine j_bipush X (v := (-5)) dX8_longest_34 (by decide) ?_
        refine j_icmp_ne X (tgt := 43) dX8_longest_36 (by decide) (fun cv7 => ?_) (fun cv7 => ?_)
        · replace hR := (if_neg cv7).symm.trans hR
          refine j_aload_n X (q := 1) dX8_longest_43 rfl ?_
          refine j_get X 0 4 hiX8 k_268 dX8_longest_44 rfl rfl (by decide) rfl ?_
          refine j_iload_n X (q := 0) dX8_longest_47 rfl ?_
          obtain ⟨ov8, hov8, hR⟩ := bd_some hR
          refine j_callV X (As := [.int ov5]) (rest := []) (ws2 := [cWB r_ r_n r_k r_h r_e r_x r_q ik, cHea r_e r_ea ov4.1, cBal r_h r_hP r_hA ov4.2.1 ov4.2.2.1 z_h, cWho r_n r_nB r_nT r_nS r_nK, cIar cI r_ea 400 ov4.2.2.2.1, cJar cJ r_hA 4 ov4.2.2.2.2.1, cPus r_hP r_hPt r_hPw r_hPs ov4.2.2.2.2.2.1, cBal r_nB r_nBP r_nBA b_nB se_nB z_nB, cIar cI r_hPs 8 ov4.2.2.2.2.2.2.1, cIar cI r_hPt 8 ov4.2.2.2.2.2.2.2.1, cIar cI r_hPw 8 ov4.2.2.2.2.2.2.2.2, cJar cJ r_nBA 4 f_nBA, cPus r_nBP r_nBPt r_nBPw r_nBPs k_nBP, cIar cI r_nBPs 8 f_nBPs, cIar cI r_nBPt 8 f_nBPt, cIar cI r_nBPw 8 f_nBPw]) (q0 := 1) (ci := 1) (mX1_gapAt l D cI cJ cB cT tt r_e r_ea hov8) [1, 4] [.inl 0, .inr 0, .inl 2, .inl 3, .inr 1, .inl 5, .inl 6, .inl 7, .inl 8, .inl 9, .inl 10, .inl 11, .inl 12, .inl 13, .inl 14, .inl 15] k_521 k_532 k_519 k_520 rfl rfl k_44 hdX1_gapAt (by decide) (Nat.le_of_ble_eq_true rfl) dX8_longest_48 (by decide) rfl rfl (by decide) rfl rfl ?_
          have hR := Option.some.inj hR
          exact j_iret X hr dX8_longest_51 (by rw [← hR]) (by rw [← hR])
        · replace hR := (if_pos cv7).symm.trans hR
          refine j_iload_n X (q := 0) dX8_longest_39 rfl ?_
          refine j_goto X (tgt := 51) dX8_longest_40 (by decide) ?_
          have hR := Option.some.inj hR
          exact j_iret X hr dX8_longest_51 (by rw [← hR]) (by rw [← hR])
    · replace hR := (if_pos cv3).symm.trans hR
      refine j_iconst X (v := (-1)) dX8_longest_13 (by decide) ?_
      have hR := Option.some.inj hR
      exact j_iret X hr dX8_longest_14 (by rw [← hR]) (by rw [← hR])

def rmX8_see : Room := { frames := 1, cells := 0, slots := 0, locals := 22 }
theorem hdX8_see : yX8_see.cls ≠ "java/lang/invoke/MethodHandle" ∧ yX8_see.cls ≠ "java/lang/invoke/VarHandle" ∧ (parseMethodDescriptor yX8_see.desc).map (fun d => d.parameters.length) = some 2 := by decide +kernel
def fX8_see (i1 : Int32) (i2 : Int32) (ik : Int32) (k_nS : Int32) (f_nSf : Nat → Int32) (f_nSs : Nat → Int32) : Option (Int32 × Int32 × (Nat → Int32) × (Nat → Int32)) :=
  if i1 = (-1) then (some (0, 0, f_nSf, f_nSs)) else ((fX8_isBetween i1 0 400).bind fun ov2 =>
  if ov2 = 0 then (some ((-2), k_nS, f_nSf, f_nSs)) else ((fX8_isBetween i2 (-300) 300).bind fun ov4 =>
  if ov4 = 0 then (some ((-2), k_nS, f_nSf, f_nSs)) else (if k_nS < 5 then ((fX3_add i1 i2 k_nS f_nSf f_nSs).bind fun ov7 =>
  some (ov7.1, ov7.1, ov7.2.1, ov7.2.2)) else (some ((-4), k_nS, f_nSf, f_nSs)))))
set_option maxHeartbeats 8000000 in
set_option maxRecDepth 100000 in
theorem mX8_see (l : Launch) (D : va_G) (cI cJ cB cT : ClassId) (tt : Nat → Nat) (r_ r_n r_k r_h r_e r_x r_q r_nB r_nT r_nS r_nK r_nSf r_nSs : Nat) {i1 : Int32} {i2 : Int32} {ik : Int32} {k_nS : Int32} {f_nSf : Nat → Int32} {f_nSs : Nat → Int32} {out : Int32 × Int32 × (Nat → Int32) × (Nat → Int32)} (h : fX8_see i1 i2 ik k_nS f_nSf f_nSs = some out) :
    jM l yX8_see (.code yX8_see cX8_see 3 (some .int)) rmX8_see D (wTy cI cJ cB cT) tt [.ref r_, .int i1, .int i2] [cWB r_ r_n r_k r_h r_e r_x r_q ik, cWho r_n r_nB r_nT r_nS r_nK, cRow r_nS r_nSf r_nSs k_nS, cIar cI r_nSf 8 f_nSf, cIar cI r_nSs 8 f_nSs] (some (.int out.1)) [cWB r_ r_n r_k r_h r_e r_x r_q ik, cWho r_n r_nB r_nT r_nS r_nK, cRow r_nS r_nSf r_nSs out.2.1, cIar cI r_nSf 8 out.2.2.1, cIar cI r_nSs 8 out.2.2.2] := by
  refine jM.of (by decide) (Nat.le_of_ble_eq_true rfl) ?_
  intro p e s m below meth c A X hr
  refine j_sub (lv2 := [(0, .ref r_), (1, .int i1), (2, .int i2)]) [0, 1, 2] rfl ?_
  have hR := h
  unfold fX8_see at hR
  refine j_iload_n X (q := 1) dX8_see_0 rfl ?_
  refine j_iconst X (v := (-1)) dX8_see_1 (by decide) ?_
  refine j_icmp_ne X (tgt := 18) dX8_see_2 (by decide) (fun cv1 => ?_) (fun cv1 => ?_)
  · replace hR := (if_neg cv1).symm.trans hR
    refine j_iload_n X (q := 1) dX8_see_18 rfl ?_
    refine j_iconst X (v := 0) dX8_see_19 (by decide) ?_
    refine j_sipush X (v := 400) dX8_see_20 (by decide) ?_
    obtain ⟨ov2, hov2, hR⟩ := bd_some hR
    refine j_callS X (As := [.int i1, .int 0, .int 400]) (rest := []) (ws2 := [cWB r_ r_n r_k r_h r_e r_x r_q ik, cWho r_n r_nB r_nT r_nS r_nK, cRow r_nS r_nSf r_nSs k_nS, cIar cI r_nSf 8 f_nSf, cIar cI r_nSs 8 f_nSs]) (mX8_isBetween l D cI cJ cB cT tt  hov2) [] [.inl 0, .inl 1, .inl 2, .inl 3, .inl 4] k_299 k_297 k_298 k_38 hdX8_isBetween (by decide) (Nat.le_of_ble_eq_true rfl) dX8_see_23 (by decide) rfl rfl (by decide) rfl rfl ?_
    refine j_if_eq X (tgt := 42) dX8_see_26 (by decide) (fun cv3 => ?_) (fun cv3 => ?_)
    · replace hR := (if_pos cv3).symm.trans hR
      refine j_bipush X (v := (-2)) dX8_see_42 (by decide) ?_
      have hR := Option.some.inj hR
      exact j_iret X hr dX8_see_44 (by rw [← hR]) (by rw [← hR])
    · replace hR := (if_neg cv3).symm.trans hR
      refine j_iload_n X (q := 2) dX8_see_29 rfl ?_
      refine j_sipush X (v := (-300)) dX8_see_30 (by decide) ?_
      refine j_sipush X (v := 300) dX8_see_33 (by decide) ?_
      obtain ⟨ov4, hov4, hR⟩ := bd_some hR
      refine j_callS X (As := [.int i2, .int (-300), .int 300]) (rest := []) (ws2 := [cWB r_ r_n r_k r_h r_e r_x r_q ik, cWho r_n r_nB r_nT r_nS r_nK, cRow r_nS r_nSf r_nSs k_nS, cIar cI r_nSf 8 f_nSf, cIar cI r_nSs 8 f_nSs]) (mX8_isBetween l D cI cJ cB cT tt  hov4) [] [.inl 0, .inl 1, .inl 2, .inl 3, .inl 4] k_299 k_297 k_298 k_38 hdX8_isBetween (by decide) (Nat.le_of_ble_eq_true rfl) dX8_see_36 (by decide) rfl rfl (by decide) rfl rfl ?_
      refine j_if_ne X (tgt := 45) dX8_see_39 (by decide) (fun cv5 => ?_) (fun cv5 => ?_)
      · replace hR := (if_neg cv5).symm.trans hR
        refine j_aload_n X (q := 0) dX8_see_45 rfl ?_
        refine j_get X 0 0 hiX8 k_264 dX8_see_46 rfl rfl (by decide) rfl ?_
        refine j_get X 1 2 hiX7 k_189 dX8_see_49 rfl rfl (by decide) rfl ?_
        refine j_get X 2 2 hiX3 k_176 dX8_see_52 rfl rfl (by decide) rfl ?_
        refine j_iconst X (v := 5) dX8_see_55 (by decide) ?_
        refine j_icmp_lt X (tgt := 62) dX8_see_56 (by decide) (fun cv6 => ?_) (fun cv6 => ?_)
        · replace hR := (if_pos cv6).symm.trans hR
          refine j_aload_n X (q := 0) dX8_see_62 rfl ?_
          refine j_get X 0 0 hiX8 k_264 dX8_see_63 rfl rfl (by decide) rfl ?_
          refine j_get X 1 2 hiX7 k_189 dX8_see_66 rfl rfl (by decide) rfl ?_
          refine j_iload_n X (q := 1) dX8_see_69 rfl ?_
          refine j_iload_n X (q := 2) dX8_see_70 rfl ?_
          obtain ⟨ov7, hov7, hR⟩ := bd_some hR
          refine j_callV X (As := [.int i1, .int i2]) (rest := []) (ws2 := [cWB r_ r_n r_k r_h r_e r_x r_q ik, cWho r_n r_nB r_nT r_nS r_nK, cRow r_nS r_nSf r_nSs ov7.1, cIar cI r_nSf 8 ov7.2.1, cIar cI r_nSs 8 ov7.2.2]) (q0 := 2) (ci := 3) (mX3_add l D cI cJ cB cT tt r_nS r_nSf r_nSs hov7) [2, 3, 4] [.inl 0, .inl 1, .inr 0, .inr 1, .inr 2] k_552 k_549 k_550 k_551 rfl rfl k_43 hdX3_add (by decide) (Nat.le_of_ble_eq_true rfl) dX8_see_71 (by decide) rfl rfl (by decide) rfl rfl ?_
          refine j_aload_n X (q := 0) dX8_see_74 rfl ?_
          refine j_get X 0 0 hiX8 k_264 dX8_see_75 rfl rfl (by decide) rfl ?_
          refine j_get X 1 2 hiX7 k_189 dX8_see_78 rfl rfl (by decide) rfl ?_
          refine j_get X 2 2 hiX3 k_176 dX8_see_81 rfl rfl (by decide) rfl ?_
          have hR := Option.some.inj hR
          exact j_iret X hr dX8_see_84 (by rw [← hR]) (by rw [← hR])
        · replace hR := (if_neg cv6).symm.trans hR
          refine j_bipush X (v := (-4)) dX8_see_59 (by decide) ?_
          have hR := Option.some.inj hR
          exact j_iret X hr dX8_see_61 (by rw [← hR]) (by rw [← hR])
      · replace hR := (if_pos cv5).symm.trans hR
        refine j_bipush X (v := (-2)) dX8_see_42 (by decide) ?_
        have hR := Option.some.inj hR
        exact j_iret X hr dX8_see_44 (by rw [← hR]) (by rw [← hR])
  · replace hR := (if_pos cv1).symm.trans hR
    refine j_aload_n X (q := 0) dX8_see_5 rfl ?_
    refine j_get X 0 0 hiX8 k_264 dX8_see_6 rfl rfl (by decide) rfl ?_
    refine j_get X 1 2 hiX7 k_189 dX8_see_9 rfl rfl (by decide) rfl ?_
    refine j_iconst X (v := 0) dX8_see_12 (by decide) ?_
    refine j_put X (ws2 := [cWB r_ r_n r_k r_h r_e r_x r_q ik, cWho r_n r_nB r_nT r_nS r_nK, cRow r_nS r_nSf r_nSs 0, cIar cI r_nSf 8 f_nSf, cIar cI r_nSs 8 f_nSs]) 2 2 hiX3 tyX3_ok nmX3 k_176 dX8_see_13 rfl rfl (by decide) (by decide) rfl rfl (Nat.le_of_ble_eq_true rfl) rfl ?_
    refine j_iconst X (v := 0) dX8_see_16 (by decide) ?_
    have hR := Option.some.inj hR
    exact j_iret X hr dX8_see_17 (by rw [← hR]) (by rw [← hR])

def rmX8_goesAsSeen : Room := { frames := 4, cells := 0, slots := 0, locals := 80 }
theorem hdX8_goesAsSeen : yX8_goesAsSeen.cls ≠ "java/lang/invoke/MethodHandle" ∧ yX8_goesAsSeen.cls ≠ "java/lang/invoke/VarHandle" ∧ (parseMethodDescriptor yX8_goesAsSeen.desc).map (fun d => d.parameters.length) = some 1 := by decide +kernel
def fX8_goesAsSeen_36 (i1 : Int32) (ik : Int32) (z_h : Int32) (b_nB : Nat → Int32) (se_nB : Int64) (z_nB : Int32) (k_nS : Int32) (f_nBA : Nat → Int64) (k_nBP : Int32) (f_nSf : Nat → Int32) (f_nSs : Nat → Int32) (f_nBPs : Nat → Int32) (f_nBPt : Nat → Int32) (f_nBPw : Nat → Int32) : Nat → Int32 → Int32 → (Nat → Int32) → Int64 → (Nat → Int64) → Int32 → (Nat → Int32) → (Nat → Int32) → (Nat → Int32) → Option (Int32 × (Nat → Int32) × Int64 × (Nat → Int64) × Int32 × (Nat → Int32) × (Nat → Int32) × (Nat → Int32))
  | 0, _, _, _, _, _, _, _, _, _ => none
  | fu + 1, x2, x3, b_h, se_h, f_hA, k_hP, f_hPs, f_hPt, f_hPw =>
    if x2 < x3 then (some (1, b_h, se_h, f_hA, k_hP, f_hPs, f_hPt, f_hPw)) else ((fX3_allows x3 (b_h 0) k_nS f_nSf f_nSs).bind fun ov5 =>
  if ov5 = 0 then (some (0, b_h, se_h, f_hA, k_hP, f_hPs, f_hPt, f_hPw)) else ((fX0_tick b_h se_h z_h f_hA k_hP f_hPs f_hPt f_hPw).bind fun ov7 =>
  lt' (x3 + 1) fun x3v8 =>
  fX8_goesAsSeen_36 i1 ik z_h b_nB se_nB z_nB k_nS f_nBA k_nBP f_nSf f_nSs f_nBPs f_nBPt f_nBPw fu x2 x3v8 ov7.2.1 ov7.2.2.1 ov7.2.2.2.1 ov7.2.2.2.2.1 ov7.2.2.2.2.2.1 ov7.2.2.2.2.2.2.1 ov7.2.2.2.2.2.2.2))
def fX8_goesAsSeen (i1 : Int32) (ik : Int32) (b_h : Nat → Int32) (se_h : Int64) (z_h : Int32) (f_hA : Nat → Int64) (k_hP : Int32) (b_nB : Nat → Int32) (se_nB : Int64) (z_nB : Int32) (k_nS : Int32) (f_hPs : Nat → Int32) (f_hPt : Nat → Int32) (f_hPw : Nat → Int32) (f_nBA : Nat → Int64) (k_nBP : Int32) (f_nSf : Nat → Int32) (f_nSs : Nat → Int32) (f_nBPs : Nat → Int32) (f_nBPt : Nat → Int32) (f_nBPw : Nat → Int32) : Option (Int32 × (Nat → Int32) × Int64 × (Nat → Int64) × Int32 × (Nat → Int32) × (Nat → Int32) × (Nat → Int32)) :=
  (fX0_copy b_h se_h z_h b_nB se_nB z_nB f_hA k_hP f_nBA k_nBP f_hPs f_hPt f_hPw f_nBPs f_nBPt f_nBPw).bind fun ov1 =>
  (fX0_put 2 i1 ov1.1 ov1.2.1 z_h).bind fun ov2 =>
  (fX3_greatestFirst k_nS f_nSf).bind fun ov3 =>
  fX8_goesAsSeen_36 i1 ik z_h b_nB se_nB z_nB k_nS f_nBA k_nBP f_nSf f_nSs f_nBPs f_nBPt f_nBPw 500 ov3 0 ov2 ov1.2.1 ov1.2.2.1 ov1.2.2.2.1 ov1.2.2.2.2.1 ov1.2.2.2.2.2.1 ov1.2.2.2.2.2.2
set_option maxHeartbeats 8000000 in
set_option maxRecDepth 100000 in
theorem mX8_goesAsSeen (l : Launch) (D : va_G) (cI cJ cB cT : ClassId) (tt : Nat → Nat) (r_ r_n r_k r_h r_e r_x r_q r_hP r_hA r_nB r_nT r_nS r_nK r_hPt r_hPw r_hPs r_nBP r_nBA r_nSf r_nSs r_nBPt r_nBPw r_nBPs : Nat) {i1 : Int32} {ik : Int32} {b_h : Nat → Int32} {se_h : Int64} {z_h : Int32} {f_hA : Nat → Int64} {k_hP : Int32} {b_nB : Nat → Int32} {se_nB : Int64} {z_nB : Int32} {k_nS : Int32} {f_hPs : Nat → Int32} {f_hPt : Nat → Int32} {f_hPw : Nat → Int32} {f_nBA : Nat → Int64} {k_nBP : Int32} {f_nSf : Nat → Int32} {f_nSs : Nat → Int32} {f_nBPs : Nat → Int32} {f_nBPt : Nat → Int32} {f_nBPw : Nat → Int32} {out : Int32 × (Nat → Int32) × Int64 × (Nat → Int64) × Int32 × (Nat → Int32) × (Nat → Int32) × (Nat → Int32)} (h : fX8_goesAsSeen i1 ik b_h se_h z_h f_hA k_hP b_nB se_nB z_nB k_nS f_hPs f_hPt f_hPw f_nBA k_nBP f_nSf f_nSs f_nBPs f_nBPt f_nBPw = some out) :
    jM l yX8_goesAsSeen (.code yX8_goesAsSeen cX8_goesAsSeen 4 (some .boolean)) rmX8_goesAsSeen D (wTy cI cJ cB cT) tt [.ref r_, .int i1] [cWB r_ r_n r_k r_h r_e r_x r_q ik, cBal r_h r_hP r_hA b_h se_h z_h, cWho r_n r_nB r_nT r_nS r_nK, cJar cJ r_hA 4 f_hA, cPus r_hP r_hPt r_hPw r_hPs k_hP, cBal r_nB r_nBP r_nBA b_nB se_nB z_nB, cRow r_nS r_nSf r_nSs k_nS, cIar cI r_hPs 8 f_hPs, cIar cI r_hPt 8 f_hPt, cIar cI r_hPw 8 f_hPw, cJar cJ r_nBA 4 f_nBA, cPus r_nBP r_nBPt r_nBPw r_nBPs k_nBP, cIar cI r_nSf 8 f_nSf, cIar cI r_nSs 8 f_nSs, cIar cI r_nBPs 8 f_nBPs, cIar cI r_nBPt 8 f_nBPt, cIar cI r_nBPw 8 f_nBPw] (some (.int out.1)) [cWB r_ r_n r_k r_h r_e r_x r_q ik, cBal r_h r_hP r_hA out.2.1 out.2.2.1 z_h, cWho r_n r_nB r_nT r_nS r_nK, cJar cJ r_hA 4 out.2.2.2.1, cPus r_hP r_hPt r_hPw r_hPs out.2.2.2.2.1, cBal r_nB r_nBP r_nBA b_nB se_nB z_nB, cRow r_nS r_nSf r_nSs k_nS, cIar cI r_hPs 8 out.2.2.2.2.2.1, cIar cI r_hPt 8 out.2.2.2.2.2.2.1, cIar cI r_hPw 8 out.2.2.2.2.2.2.2, cJar cJ r_nBA 4 f_nBA, cPus r_nBP r_nBPt r_nBPw r_nBPs k_nBP, cIar cI r_nSf 8 f_nSf, cIar cI r_nSs 8 f_nSs, cIar cI r_nBPs 8 f_nBPs, cIar cI r_nBPt 8 f_nBPt, cIar cI r_nBPw 8 f_nBPw] := by
  refine jM.of (by decide) (Nat.le_of_ble_eq_true rfl) ?_
  intro p e s m below meth c A X hr
  have L_36 : ∀ (fuel : Nat) (x2 : Int32) (x3 : Int32) (b_h : Nat → Int32) (se_h : Int64) (f_hA : Nat → Int64) (k_hP : Int32) (f_hPs : Nat → Int32) (f_hPt : Nat → Int32) (f_hPw : Nat → Int32), fX8_goesAsSeen_36 i1 ik z_h b_nB se_nB z_nB k_nS f_nBA k_nBP f_nSf f_nSs f_nBPs f_nBPt f_nBPw  fuel x2 x3 b_h se_h f_hA k_hP f_hPs f_hPt f_hPw = some out → jW p l e rmX8_goesAsSeen s m ([.ref r_, .int i1] : List Value).toArray below meth c D A 4 (MQ below (jQ D (some (.int out.1)) [cWB r_ r_n r_k r_h r_e r_x r_q ik, cBal r_h r_hP r_hA out.2.1 out.2.2.1 z_h, cWho r_n r_nB r_nT r_nS r_nK, cJar cJ r_hA 4 out.2.2.2.1, cPus r_hP r_hPt r_hPw r_hPs out.2.2.2.2.1, cBal r_nB r_nBP r_nBA b_nB se_nB z_nB, cRow r_nS r_nSf r_nSs k_nS, cIar cI r_hPs 8 out.2.2.2.2.2.1, cIar cI r_hPt 8 out.2.2.2.2.2.2.1, cIar cI r_hPw 8 out.2.2.2.2.2.2.2, cJar cJ r_nBA 4 f_nBA, cPus r_nBP r_nBPt r_nBPw r_nBPs k_nBP, cIar cI r_nSf 8 f_nSf, cIar cI r_nSs 8 f_nSs, cIar cI r_nBPs 8 f_nBPs, cIar cI r_nBPt 8 f_nBPt, cIar cI r_nBPw 8 f_nBPw] A) ([.ref r_, .int i1] : List Value).toArray s 0 0 A) 0 0 36 [(0, .ref r_), (2, .int x2), (3, .int x3)] [] [cWB r_ r_n r_k r_h r_e r_x r_q ik, cBal r_h r_hP r_hA b_h se_h z_h, cWho r_n r_nB r_nT r_nS r_nK, cJar cJ r_hA 4 f_hA, cPus r_hP r_hPt r_hPw r_hPs k_hP, cBal r_nB r_nBP r_nBA b_nB se_nB z_nB, cRow r_nS r_nSf r_nSs k_nS, cIar cI r_hPs 8 f_hPs, cIar cI r_hPt 8 f_hPt, cIar cI r_hPw 8 f_hPw, cJar cJ r_nBA 4 f_nBA, cPus r_nBP r_nBPt r_nBPw r_nBPs k_nBP, cIar cI r_nSf 8 f_nSf, cIar cI r_nSs 8 f_nSs, cIar cI r_nBPs 8 f_nBPs, cIar cI r_nBPt 8 f_nBPt, cIar cI r_nBPw 8 f_nBPw] := by
    intro  fuel
    induction fuel with
    | zero =>
      intro x2 x3 b_h se_h f_hA k_hP f_hPs f_hPt f_hPw hR
      rw [fX8_goesAsSeen_36] at hR
      cases hR
    | succ fu ih =>
      intro x2 x3 b_h se_h f_hA k_hP f_hPs f_hPt f_hPw hR
      rw [fX8_goesAsSeen_36] at hR
      refine j_iload_n X (q := 2) dX8_goesAsSeen_36 rfl ?_
      refine j_iload_n X (q := 1) dX8_goesAsSeen_37 rfl ?_
      refine j_icmp_gt X (tgt := 78) dX8_goesAsSeen_38 (by decide) (fun cv4 => ?_) (fun cv4 => ?_)
      · replace hR := (if_pos cv4).symm.trans hR
        refine j_iconst X (v := 1) dX8_goesAsSeen_78 (by decide) ?_
        have hR := Option.some.inj hR
        exact j_zret X hr rfl dX8_goesAsSeen_79 (by rw [← hR]) (by rw [← hR])
      · replace hR := (if_neg cv4).symm.trans hR
        refine j_aload_n X (q := 0) dX8_goesAsSeen_41 rfl ?_
        refine j_get X 0 0 hiX8 k_264 dX8_goesAsSeen_42 rfl rfl (by decide) rfl ?_
        refine j_get X 2 2 hiX7 k_189 dX8_goesAsSeen_45 rfl rfl (by decide) rfl ?_
        refine j_iload_n X (q := 2) dX8_goesAsSeen_48 rfl ?_
        refine j_aload_n X (q := 0) dX8_goesAsSeen_49 rfl ?_
        refine j_get X 0 3 hiX8 k_267 dX8_goesAsSeen_50 rfl rfl (by decide) rfl ?_
        refine j_get X 1 0 hiX0 k_99 dX8_goesAsSeen_53 rfl rfl (by decide) rfl ?_
        obtain ⟨ov5, hov5, hR⟩ := bd_some hR
        refine j_callV X (As := [.int x3, .int (b_h 0)]) (rest := []) (ws2 := [cWB r_ r_n r_k r_h r_e r_x r_q ik, cBal r_h r_hP r_hA b_h se_h z_h, cWho r_n r_nB r_nT r_nS r_nK, cJar cJ r_hA 4 f_hA, cPus r_hP r_hPt r_hPw r_hPs k_hP, cBal r_nB r_nBP r_nBA b_nB se_nB z_nB, cRow r_nS r_nSf r_nSs k_nS, cIar cI r_hPs 8 f_hPs, cIar cI r_hPt 8 f_hPt, cIar cI r_hPw 8 f_hPw, cJar cJ r_nBA 4 f_nBA, cPus r_nBP r_nBPt r_nBPw r_nBPs k_nBP, cIar cI r_nSf 8 f_nSf, cIar cI r_nSs 8 f_nSs, cIar cI r_nBPs 8 f_nBPs, cIar cI r_nBPt 8 f_nBPt, cIar cI r_nBPw 8 f_nBPw]) (q0 := 6) (ci := 3) (mX3_allows l D cI cJ cB cT tt r_nS r_nSf r_nSs hov5) [6, 12, 13] [.inl 0, .inl 1, .inl 2, .inl 3, .inl 4, .inl 5, .inr 0, .inl 7, .inl 8, .inl 9, .inl 10, .inl 11, .inr 1, .inr 2, .inl 14, .inl 15, .inl 16] k_569 k_566 k_567 k_568 rfl rfl k_43 hdX3_allows (by decide) (Nat.le_of_ble_eq_true rfl) dX8_goesAsSeen_56 (by decide) rfl rfl (by decide) rfl rfl ?_
        refine j_if_ne X (tgt := 64) dX8_goesAsSeen_59 (by decide) (fun cv6 => ?_) (fun cv6 => ?_)
        · replace hR := (if_neg cv6).symm.trans hR
          refine j_aload_n X (q := 0) dX8_goesAsSeen_64 rfl ?_
          refine j_get X 0 3 hiX8 k_267 dX8_goesAsSeen_65 rfl rfl (by decide) rfl ?_
          obtain ⟨ov7, hov7, hR⟩ := bd_some hR
          refine j_callV X (As := []) (rest := []) (ws2 := [cWB r_ r_n r_k r_h r_e r_x r_q ik, cBal r_h r_hP r_hA ov7.2.1 ov7.2.2.1 z_h, cWho r_n r_nB r_nT r_nS r_nK, cJar cJ r_hA 4 ov7.2.2.2.1, cPus r_hP r_hPt r_hPw r_hPs ov7.2.2.2.2.1, cBal r_nB r_nBP r_nBA b_nB se_nB z_nB, cRow r_nS r_nSf r_nSs k_nS, cIar cI r_hPs 8 ov7.2.2.2.2.2.1, cIar cI r_hPt 8 ov7.2.2.2.2.2.2.1, cIar cI r_hPw 8 ov7.2.2.2.2.2.2.2, cJar cJ r_nBA 4 f_nBA, cPus r_nBP r_nBPt r_nBPw r_nBPs k_nBP, cIar cI r_nSf 8 f_nSf, cIar cI r_nSs 8 f_nSs, cIar cI r_nBPs 8 f_nBPs, cIar cI r_nBPt 8 f_nBPt, cIar cI r_nBPw 8 f_nBPw]) (q0 := 1) (ci := 0) (mX0_tick l D cI cJ cB cT tt r_h r_hP r_hA r_hPt r_hPw r_hPs hov7) [1, 3, 4, 7, 8, 9] [.inl 0, .inr 0, .inl 2, .inr 1, .inr 2, .inl 5, .inl 6, .inr 3, .inr 4, .inr 5, .inl 10, .inl 11, .inl 12, .inl 13, .inl 14, .inl 15, .inl 16] k_352 k_349 k_350 k_351 rfl rfl k_40 hdX0_tick (by decide) (Nat.le_of_ble_eq_true rfl) dX8_goesAsSeen_68 (by decide) rfl rfl (by decide) rfl rfl ?_
          refine j_pop X dX8_goesAsSeen_71 rfl ?_
          obtain ⟨x3v8, ex3v8, hR⟩ := lt_some hR
          refine j_iinc X (k := 2) (v := x3v8) (lv2 := [(3, .int x3v8), (0, .ref r_), (2, .int x2)]) dX8_goesAsSeen_72 rfl (by rw [← ex3v8]; rfl) (by decide) rfl ?_
          refine j_goto X (tgt := 36) dX8_goesAsSeen_75 (by decide) ?_
          refine j_sub (lv2 := [(0, .ref r_), (2, .int x2), (3, .int x3v8)]) [1, 2, 0] rfl ?_
          exact ih _ _ _ _ _ _ _ _ _ hR
        · replace hR := (if_pos cv6).symm.trans hR
          refine j_iconst X (v := 0) dX8_goesAsSeen_62 (by decide) ?_
          have hR := Option.some.inj hR
          exact j_zret X hr rfl dX8_goesAsSeen_63 (by rw [← hR]) (by rw [← hR])
  refine j_sub (lv2 := [(0, .ref r_), (1, .int i1)]) [0, 1] rfl ?_
  have hR := h
  unfold fX8_goesAsSeen at hR
  refine j_aload_n X (q := 0) dX8_goesAsSeen_0 rfl ?_
  refine j_get X 0 3 hiX8 k_267 dX8_goesAsSeen_1 rfl rfl (by decide) rfl ?_
  refine j_aload_n X (q := 0) dX8_goesAsSeen_4 rfl ?_
  refine j_get X 0 0 hiX8 k_264 dX8_goesAsSeen_5 rfl rfl (by decide) rfl ?_
  refine j_get X 2 0 hiX7 k_185 dX8_goesAsSeen_8 rfl rfl (by decide) rfl ?_
  obtain ⟨ov1, hov1, hR⟩ := bd_some hR
  refine j_callV X (As := [.ref r_nB]) (rest := []) (ws2 := [cWB r_ r_n r_k r_h r_e r_x r_q ik, cBal r_h r_hP r_hA ov1.1 ov1.2.1 z_h, cWho r_n r_nB r_nT r_nS r_nK, cJar cJ r_hA 4 ov1.2.2.1, cPus r_hP r_hPt r_hPw r_hPs ov1.2.2.2.1, cBal r_nB r_nBP r_nBA b_nB se_nB z_nB, cRow r_nS r_nSf r_nSs k_nS, cIar cI r_hPs 8 ov1.2.2.2.2.1, cIar cI r_hPt 8 ov1.2.2.2.2.2.1, cIar cI r_hPw 8 ov1.2.2.2.2.2.2, cJar cJ r_nBA 4 f_nBA, cPus r_nBP r_nBPt r_nBPw r_nBPs k_nBP, cIar cI r_nSf 8 f_nSf, cIar cI r_nSs 8 f_nSs, cIar cI r_nBPs 8 f_nBPs, cIar cI r_nBPt 8 f_nBPt, cIar cI r_nBPw 8 f_nBPw]) (q0 := 1) (ci := 0) (mX0_copy l D cI cJ cB cT tt r_h r_hP r_hA r_nB r_nBP r_nBA r_hPt r_hPw r_hPs r_nBPt r_nBPw r_nBPs hov1) [1, 5, 3, 4, 10, 11, 7, 8, 9, 14, 15, 16] [.inl 0, .inr 0, .inl 2, .inr 2, .inr 3, .inr 1, .inl 6, .inr 6, .inr 7, .inr 8, .inr 4, .inr 5, .inl 12, .inl 13, .inr 9, .inr 10, .inr 11] k_470 k_467 k_468 k_469 rfl rfl k_40 hdX0_copy (by decide) (Nat.le_of_ble_eq_true rfl) dX8_goesAsSeen_11 (by decide) rfl rfl (by decide) rfl rfl ?_
  refine j_aload_n X (q := 0) dX8_goesAsSeen_14 rfl ?_
  refine j_get X 0 3 hiX8 k_267 dX8_goesAsSeen_15 rfl rfl (by decide) rfl ?_
  refine j_iconst X (v := 2) dX8_goesAsSeen_18 (by decide) ?_
  refine j_iload_n X (q := 1) dX8_goesAsSeen_19 rfl ?_
  obtain ⟨ov2, hov2, hR⟩ := bd_some hR
  refine j_callV X (As := [.int 2, .int i1]) (rest := []) (ws2 := [cWB r_ r_n r_k r_h r_e r_x r_q ik, cBal r_h r_hP r_hA ov2 ov1.2.1 z_h, cWho r_n r_nB r_nT r_nS r_nK, cJar cJ r_hA 4 ov1.2.2.1, cPus r_hP r_hPt r_hPw r_hPs ov1.2.2.2.1, cBal r_nB r_nBP r_nBA b_nB se_nB z_nB, cRow r_nS r_nSf r_nSs k_nS, cIar cI r_hPs 8 ov1.2.2.2.2.1, cIar cI r_hPt 8 ov1.2.2.2.2.2.1, cIar cI r_hPw 8 ov1.2.2.2.2.2.2, cJar cJ r_nBA 4 f_nBA, cPus r_nBP r_nBPt r_nBPw r_nBPs k_nBP, cIar cI r_nSf 8 f_nSf, cIar cI r_nSs 8 f_nSs, cIar cI r_nBPs 8 f_nBPs, cIar cI r_nBPt 8 f_nBPt, cIar cI r_nBPw 8 f_nBPw]) (q0 := 1) (ci := 0) (mX0_put l D cI cJ cB cT tt r_h r_hP r_hA hov2) [1] [.inl 0, .inr 0, .inl 2, .inl 3, .inl 4, .inl 5, .inl 6, .inl 7, .inl 8, .inl 9, .inl 10, .inl 11, .inl 12, .inl 13, .inl 14, .inl 15, .inl 16] k_311 k_508 k_309 k_310 rfl rfl k_40 hdX0_put (by decide) (Nat.le_of_ble_eq_true rfl) dX8_goesAsSeen_20 (by decide) rfl rfl (by decide) rfl rfl ?_
  refine j_aload_n X (q := 0) dX8_goesAsSeen_23 rfl ?_
  refine j_get X 0 0 hiX8 k_264 dX8_goesAsSeen_24 rfl rfl (by decide) rfl ?_
  refine j_get X 2 2 hiX7 k_189 dX8_goesAsSeen_27 rfl rfl (by decide) rfl ?_
  obtain ⟨ov3, hov3, hR⟩ := bd_some hR
  refine j_callV X (As := []) (rest := []) (ws2 := [cWB r_ r_n r_k r_h r_e r_x r_q ik, cBal r_h r_hP r_hA ov2 ov1.2.1 z_h, cWho r_n r_nB r_nT r_nS r_nK, cJar cJ r_hA 4 ov1.2.2.1, cPus r_hP r_hPt r_hPw r_hPs ov1.2.2.2.1, cBal r_nB r_nBP r_nBA b_nB se_nB z_nB, cRow r_nS r_nSf r_nSs k_nS, cIar cI r_hPs 8 ov1.2.2.2.2.1, cIar cI r_hPt 8 ov1.2.2.2.2.2.1, cIar cI r_hPw 8 ov1.2.2.2.2.2.2, cJar cJ r_nBA 4 f_nBA, cPus r_nBP r_nBPt r_nBPw r_nBPs k_nBP, cIar cI r_nSf 8 f_nSf, cIar cI r_nSs 8 f_nSs, cIar cI r_nBPs 8 f_nBPs, cIar cI r_nBPt 8 f_nBPt, cIar cI r_nBPw 8 f_nBPw]) (q0 := 6) (ci := 3) (mX3_greatestFirst l D cI cJ cB cT tt r_nS r_nSf r_nSs hov3) [6, 12] [.inl 0, .inl 1, .inl 2, .inl 3, .inl 4, .inl 5, .inr 0, .inl 7, .inl 8, .inl 9, .inl 10, .inl 11, .inr 1, .inl 13, .inl 14, .inl 15, .inl 16] k_564 k_561 k_562 k_563 rfl rfl k_43 hdX3_greatestFirst (by decide) (Nat.le_of_ble_eq_true rfl) dX8_goesAsSeen_30 (by decide) rfl rfl (by decide) rfl rfl ?_
  refine j_istore_n X (lv2 := [(2, .int ov3), (0, .ref r_), (1, .int i1)]) dX8_goesAsSeen_33 (by decide) rfl ?_
  refine j_iconst X (v := 0) dX8_goesAsSeen_34 (by decide) ?_
  refine j_istore_n X (lv2 := [(3, .int 0), (2, .int ov3), (0, .ref r_), (1, .int i1)]) dX8_goesAsSeen_35 (by decide) rfl ?_
  refine j_sub (lv2 := [(0, .ref r_), (2, .int ov3), (3, .int 0)]) [2, 1, 0] rfl ?_
  exact L_36 _ _ _ _ _ _ _ _ _ _ hR

def rmX8_fits : Room := { frames := 5, cells := 0, slots := 0, locals := 103 }
theorem hdX8_fits : yX8_fits.cls ≠ "java/lang/invoke/MethodHandle" ∧ yX8_fits.cls ≠ "java/lang/invoke/VarHandle" ∧ (parseMethodDescriptor yX8_fits.desc).map (fun d => d.parameters.length) = some 1 := by decide +kernel
def fX8_fits_19 (i1 : Int32) (ik : Int32) (z_h : Int32) (b_nB : Nat → Int32) (se_nB : Int64) (z_nB : Int32) (k_nS : Int32) (f_nBA : Nat → Int64) (k_nBP : Int32) (f_nSf : Nat → Int32) (f_nSs : Nat → Int32) (f_nBPs : Nat → Int32) (f_nBPt : Nat → Int32) (f_nBPw : Nat → Int32) : Nat → Int32 → Int32 → Int32 → (Nat → Int32) → Int64 → (Nat → Int64) → Int32 → (Nat → Int32) → (Nat → Int32) → (Nat → Int32) → Option (Int32 × (Nat → Int32) × Int64 × (Nat → Int64) × Int32 × (Nat → Int32) × (Nat → Int32) × (Nat → Int32))
  | 0, _, _, _, _, _, _, _, _, _, _ => none
  | fu + 1, x2, x3, x4, b_h, se_h, f_hA, k_hP, f_hPs, f_hPt, f_hPw =>
    if (32 : Int32) < x4 then (if i1 = 0 then (some (x2, b_h, se_h, f_hA, k_hP, f_hPs, f_hPt, f_hPw)) else (some (x3, b_h, se_h, f_hA, k_hP, f_hPs, f_hPt, f_hPw))) else ((fX8_goesAsSeen x4 ik b_h se_h z_h f_hA k_hP b_nB se_nB z_nB k_nS f_hPs f_hPt f_hPw f_nBA k_nBP f_nSf f_nSs f_nBPs f_nBPt f_nBPw).bind fun ov5 =>
  if ov5.1 = 0 then (lt' (x4 + 1) fun x4v7 =>
  fX8_fits_19 i1 ik z_h b_nB se_nB z_nB k_nS f_nBA k_nBP f_nSf f_nSs f_nBPs f_nBPt f_nBPw fu x2 x3 x4v7 ov5.2.1 ov5.2.2.1 ov5.2.2.2.1 ov5.2.2.2.2.1 ov5.2.2.2.2.2.1 ov5.2.2.2.2.2.2.1 ov5.2.2.2.2.2.2.2) else (lt' (x2 + 1) fun x2v8 =>
  if x2v8 = 1 then (lt' (x4 + 1) fun x4v11 =>
  fX8_fits_19 i1 ik z_h b_nB se_nB z_nB k_nS f_nBA k_nBP f_nSf f_nSs f_nBPs f_nBPt f_nBPw fu x2v8 x4 x4v11 ov5.2.1 ov5.2.2.1 ov5.2.2.2.1 ov5.2.2.2.2.1 ov5.2.2.2.2.2.1 ov5.2.2.2.2.2.2.1 ov5.2.2.2.2.2.2.2) else (lt' (x4 + 1) fun x4v10 =>
  fX8_fits_19 i1 ik z_h b_nB se_nB z_nB k_nS f_nBA k_nBP f_nSf f_nSs f_nBPs f_nBPt f_nBPw fu x2v8 x3 x4v10 ov5.2.1 ov5.2.2.1 ov5.2.2.2.1 ov5.2.2.2.2.1 ov5.2.2.2.2.2.1 ov5.2.2.2.2.2.2.1 ov5.2.2.2.2.2.2.2)))
def fX8_fits (i1 : Int32) (ik : Int32) (b_h : Nat → Int32) (se_h : Int64) (z_h : Int32) (f_hA : Nat → Int64) (k_hP : Int32) (b_nB : Nat → Int32) (se_nB : Int64) (z_nB : Int32) (k_nS : Int32) (f_hPs : Nat → Int32) (f_hPt : Nat → Int32) (f_hPw : Nat → Int32) (f_nBA : Nat → Int64) (k_nBP : Int32) (f_nSf : Nat → Int32) (f_nSs : Nat → Int32) (f_nBPs : Nat → Int32) (f_nBPt : Nat → Int32) (f_nBPw : Nat → Int32) : Option (Int32 × (Nat → Int32) × Int64 × (Nat → Int64) × Int32 × (Nat → Int32) × (Nat → Int32) × (Nat → Int32)) :=
  (fX8_isBetween i1 0 1).bind fun ov1 =>
  if ov1 = 0 then (some ((-1), b_h, se_h, f_hA, k_hP, f_hPs, f_hPt, f_hPw)) else (fX8_fits_19 i1 ik z_h b_nB se_nB z_nB k_nS f_nBA k_nBP f_nSf f_nSs f_nBPs f_nBPt f_nBPw 500 0 (-5) 1 b_h se_h f_hA k_hP f_hPs f_hPt f_hPw)
set_option maxHeartbeats 8000000 in
set_option maxRecDepth 100000 in
theorem mX8_fits (l : Launch) (D : va_G) (cI cJ cB cT : ClassId) (tt : Nat → Nat) (r_ r_n r_k r_h r_e r_x r_q r_hP r_hA r_nB r_nT r_nS r_nK r_hPt r_hPw r_hPs r_nBP r_nBA r_nSf r_nSs r_nBPt r_nBPw r_nBPs : Nat) {i1 : Int32} {ik : Int32} {b_h : Nat → Int32} {se_h : Int64} {z_h : Int32} {f_hA : Nat → Int64} {k_hP : Int32} {b_nB : Nat → Int32} {se_nB : Int64} {z_nB : Int32} {k_nS : Int32} {f_hPs : Nat → Int32} {f_hPt : Nat → Int32} {f_hPw : Nat → Int32} {f_nBA : Nat → Int64} {k_nBP : Int32} {f_nSf : Nat → Int32} {f_nSs : Nat → Int32} {f_nBPs : Nat → Int32} {f_nBPt : Nat → Int32} {f_nBPw : Nat → Int32} {out : Int32 × (Nat → Int32) × Int64 × (Nat → Int64) × Int32 × (Nat → Int32) × (Nat → Int32) × (Nat → Int32)} (h : fX8_fits i1 ik b_h se_h z_h f_hA k_hP b_nB se_nB z_nB k_nS f_hPs f_hPt f_hPw f_nBA k_nBP f_nSf f_nSs f_nBPs f_nBPt f_nBPw = some out) :
    jM l yX8_fits (.code yX8_fits cX8_fits 5 (some .int)) rmX8_fits D (wTy cI cJ cB cT) tt [.ref r_, .int i1] [cWB r_ r_n r_k r_h r_e r_x r_q ik, cBal r_h r_hP r_hA b_h se_h z_h, cWho r_n r_nB r_nT r_nS r_nK, cJar cJ r_hA 4 f_hA, cPus r_hP r_hPt r_hPw r_hPs k_hP, cBal r_nB r_nBP r_nBA b_nB se_nB z_nB, cRow r_nS r_nSf r_nSs k_nS, cIar cI r_hPs 8 f_hPs, cIar cI r_hPt 8 f_hPt, cIar cI r_hPw 8 f_hPw, cJar cJ r_nBA 4 f_nBA, cPus r_nBP r_nBPt r_nBPw r_nBPs k_nBP, cIar cI r_nSf 8 f_nSf, cIar cI r_nSs 8 f_nSs, cIar cI r_nBPs 8 f_nBPs, cIar cI r_nBPt 8 f_nBPt, cIar cI r_nBPw 8 f_nBPw] (some (.int out.1)) [cWB r_ r_n r_k r_h r_e r_x r_q ik, cBal r_h r_hP r_hA out.2.1 out.2.2.1 z_h, cWho r_n r_nB r_nT r_nS r_nK, cJar cJ r_hA 4 out.2.2.2.1, cPus r_hP r_hPt r_hPw r_hPs out.2.2.2.2.1, cBal r_nB r_nBP r_nBA b_nB se_nB z_nB, cRow r_nS r_nSf r_nSs k_nS, cIar cI r_hPs 8 out.2.2.2.2.2.1, cIar cI r_hPt 8 out.2.2.2.2.2.2.1, cIar cI r_hPw 8 out.2.2.2.2.2.2.2, cJar cJ r_nBA 4 f_nBA, cPus r_nBP r_nBPt r_nBPw r_nBPs k_nBP, cIar cI r_nSf 8 f_nSf, cIar cI r_nSs 8 f_nSs, cIar cI r_nBPs 8 f_nBPs, cIar cI r_nBPt 8 f_nBPt, cIar cI r_nBPw 8 f_nBPw] := by
  refine jM.of (by decide) (Nat.le_of_ble_eq_true rfl) ?_
  intro p e s m below meth c A X hr
  have L_19 : ∀ (fuel : Nat) (x2 : Int32) (x3 : Int32) (x4 : Int32) (b_h : Nat → Int32) (se_h : Int64) (f_hA : Nat → Int64) (k_hP : Int32) (f_hPs : Nat → Int32) (f_hPt : Nat → Int32) (f_hPw : Nat → Int32), fX8_fits_19 i1 ik z_h b_nB se_nB z_nB k_nS f_nBA k_nBP f_nSf f_nSs f_nBPs f_nBPt f_nBPw  fuel x2 x3 x4 b_h se_h f_hA k_hP f_hPs f_hPt f_hPw = some out → jW p l e rmX8_fits s m ([.ref r_, .int i1] : List Value).toArray below meth c D A 5 (MQ below (jQ D (some (.int out.1)) [cWB r_ r_n r_k r_h r_e r_x r_q ik, cBal r_h r_hP r_hA out.2.1 out.2.2.1 z_h, cWho r_n r_nB r_nT r_nS r_nK, cJar cJ r_hA 4 out.2.2.2.1, cPus r_hP r_hPt r_hPw r_hPs out.2.2.2.2.1, cBal r_nB r_nBP r_nBA b_nB se_nB z_nB, cRow r_nS r_nSf r_nSs k_nS, cIar cI r_hPs 8 out.2.2.2.2.2.1, cIar cI r_hPt 8 out.2.2.2.2.2.2.1, cIar cI r_hPw 8 out.2.2.2.2.2.2.2, cJar cJ r_nBA 4 f_nBA, cPus r_nBP r_nBPt r_nBPw r_nBPs k_nBP, cIar cI r_nSf 8 f_nSf, cIar cI r_nSs 8 f_nSs, cIar cI r_nBPs 8 f_nBPs, cIar cI r_nBPt 8 f_nBPt, cIar cI r_nBPw 8 f_nBPw] A) ([.ref r_, .int i1] : List Value).toArray s 0 0 A) 0 0 19 [(0, .ref r_), (1, .int i1), (2, .int x2), (3, .int x3), (4, .int x4)] [] [cWB r_ r_n r_k r_h r_e r_x r_q ik, cBal r_h r_hP r_hA b_h se_h z_h, cWho r_n r_nB r_nT r_nS r_nK, cJar cJ r_hA 4 f_hA, cPus r_hP r_hPt r_hPw r_hPs k_hP, cBal r_nB r_nBP r_nBA b_nB se_nB z_nB, cRow r_nS r_nSf r_nSs k_nS, cIar cI r_hPs 8 f_hPs, cIar cI r_hPt 8 f_hPt, cIar cI r_hPw 8 f_hPw, cJar cJ r_nBA 4 f_nBA, cPus r_nBP r_nBPt r_nBPw r_nBPs k_nBP, cIar cI r_nSf 8 f_nSf, cIar cI r_nSs 8 f_nSs, cIar cI r_nBPs 8 f_nBPs, cIar cI r_nBPt 8 f_nBPt, cIar cI r_nBPw 8 f_nBPw] := by
    intro  fuel
    induction fuel with
    | zero =>
      intro x2 x3 x4 b_h se_h f_hA k_hP f_hPs f_hPt f_hPw hR
      rw [fX8_fits_19] at hR
      cases hR
    | succ fu ih =>
      intro x2 x3 x4 b_h se_h f_hA k_hP f_hPs f_hPt f_hPw hR
      rw [fX8_fits_19] at hR
      refine j_iload X (q := 4) dX8_fits_19 rfl ?_
      refine j_bipush X (v := 32) dX8_fits_21 (by decide) ?_
      refine j_icmp_gt X (tgt := 56) dX8_fits_23 (by decide) (fun cv3 => ?_) (fun cv3 => ?_)
      · replace hR := (if_pos cv3).symm.trans hR
        refine j_iload_n X (q := 1) dX8_fits_56 rfl ?_
        refine j_if_ne X (tgt := 64) dX8_fits_57 (by decide) (fun cv4 => ?_) (fun cv4 => ?_)
        · replace hR := (if_neg cv4).symm.trans hR
          refine j_iload_n X (q := 3) dX8_fits_64 rfl ?_
          have hR := Option.some.inj hR
          exact j_iret X hr dX8_fits_65 (by rw [← hR]) (by rw [← hR])
        · replace hR := (if_pos cv4).symm.trans hR
          refine j_iload_n X (q := 2) dX8_fits_60 rfl ?_
          refine j_goto X (tgt := 65) dX8_fits_61 (by decide) ?_
          have hR := Option.some.inj hR
          exact j_iret X hr dX8_fits_65 (by rw [← hR]) (by rw [← hR])
      · replace hR := (if_neg cv3).symm.trans hR
        refine j_aload_n X (q := 0) dX8_fits_26 rfl ?_
        refine j_iload X (q := 4) dX8_fits_27 rfl ?_
        obtain ⟨ov5, hov5, hR⟩ := bd_some hR
        refine j_callV X (As := [.int x4]) (rest := []) (ws2 := [cWB r_ r_n r_k r_h r_e r_x r_q ik, cBal r_h r_hP r_hA ov5.2.1 ov5.2.2.1 z_h, cWho r_n r_nB r_nT r_nS r_nK, cJar cJ r_hA 4 ov5.2.2.2.1, cPus r_hP r_hPt r_hPw r_hPs ov5.2.2.2.2.1, cBal r_nB r_nBP r_nBA b_nB se_nB z_nB, cRow r_nS r_nSf r_nSs k_nS, cIar cI r_hPs 8 ov5.2.2.2.2.2.1, cIar cI r_hPt 8 ov5.2.2.2.2.2.2.1, cIar cI r_hPw 8 ov5.2.2.2.2.2.2.2, cJar cJ r_nBA 4 f_nBA, cPus r_nBP r_nBPt r_nBPw r_nBPs k_nBP, cIar cI r_nSf 8 f_nSf, cIar cI r_nSs 8 f_nSs, cIar cI r_nBPs 8 f_nBPs, cIar cI r_nBPt 8 f_nBPt, cIar cI r_nBPw 8 f_nBPw]) (q0 := 0) (ci := 8) (mX8_goesAsSeen l D cI cJ cB cT tt r_ r_n r_k r_h r_e r_x r_q r_hP r_hA r_nB r_nT r_nS r_nK r_hPt r_hPw r_hPs r_nBP r_nBA r_nSf r_nSs r_nBPt r_nBPw r_nBPs hov5) [0, 1, 2, 3, 4, 5, 6, 7, 8, 9, 10, 11, 12, 13, 14, 15, 16] [.inr 0, .inr 1, .inr 2, .inr 3, .inr 4, .inr 5, .inr 6, .inr 7, .inr 8, .inr 9, .inr 10, .inr 11, .inr 12, .inr 13, .inr 14, .inr 15, .inr 16] k_560 k_557 k_559 k_17 rfl rfl k_38 hdX8_goesAsSeen (by decide) (Nat.le_of_ble_eq_true rfl) dX8_fits_29 (by decide) rfl rfl (by decide) rfl rfl ?_
        refine j_if_eq X (tgt := 50) dX8_fits_32 (by decide) (fun cv6 => ?_) (fun cv6 => ?_)
        · replace hR := (if_pos cv6).symm.trans hR
          obtain ⟨x4v7, ex4v7, hR⟩ := lt_some hR
          refine j_iinc X (k := 4) (v := x4v7) (lv2 := [(4, .int x4v7), (0, .ref r_), (1, .int i1), (2, .int x2), (3, .int x3)]) dX8_fits_50 rfl (by rw [← ex4v7]; rfl) (by decide) rfl ?_
          refine j_goto X (tgt := 19) dX8_fits_53 (by decide) ?_
          refine j_sub (lv2 := [(0, .ref r_), (1, .int i1), (2, .int x2), (3, .int x3), (4, .int x4v7)]) [1, 2, 3, 4, 0] rfl ?_
          exact ih _ _ _ _ _ _ _ _ _ _ hR
        · replace hR := (if_neg cv6).symm.trans hR
          obtain ⟨x2v8, ex2v8, hR⟩ := lt_some hR
          refine j_iinc X (k := 2) (v := x2v8) (lv2 := [(2, .int x2v8), (0, .ref r_), (1, .int i1), (3, .int x3), (4, .int x4)]) dX8_fits_35 rfl (by rw [← ex2v8]; rfl) (by decide) rfl ?_
          refine j_iload_n X (q := 0) dX8_fits_38 rfl ?_
          refine j_iconst X (v := 1) dX8_fits_39 (by decide) ?_
          refine j_icmp_ne X (tgt := 48) dX8_fits_40 (by decide) (fun cv9 => ?_) (fun cv9 => ?_)
          · replace hR := (if_neg cv9).symm.trans hR
            refine j_iload_n X (q := 3) dX8_fits_48 rfl ?_
            refine j_istore_n X (lv2 := [(3, .int x3), (2, .int x2v8), (0, .ref r_), (1, .int i1), (4, .int x4)]) dX8_fits_49 (by decide) rfl ?_
            obtain ⟨x4v10, ex4v10, hR⟩ := lt_some hR
            refine j_iinc X (k := 4) (v := x4v10) (lv2 := [(4, .int x4v10), (3, .int x3), (2, .int x2v8), (0, .ref r_), (1, .int i1)]) dX8_fits_50 rfl (by rw [← ex4v10]; rfl) (by decide) rfl ?_
            refine j_goto X (tgt := 19) dX8_fits_53 (by decide) ?_
            refine j_sub (lv2 := [(0, .ref r_), (1, .int i1), (2, .int x2v8), (3, .int x3), (4, .int x4v10)]) [3, 4, 2, 1, 0] rfl ?_
            exact ih _ _ _ _ _ _ _ _ _ _ hR
          · replace hR := (if_pos cv9).symm.trans hR
            refine j_iload X (q := 4) dX8_fits_43 rfl ?_
            refine j_goto X (tgt := 49) dX8_fits_45 (by decide) ?_
            refine j_istore_n X (lv2 := [(3, .int x4), (2, .int x2v8), (0, .ref r_), (1, .int i1), (4, .int x4)]) dX8_fits_49 (by decide) rfl ?_
            obtain ⟨x4v11, ex4v11, hR⟩ := lt_some hR
            refine j_iinc X (k := 4) (v := x4v11) (lv2 := [(4, .int x4v11), (3, .int x4), (2, .int x2v8), (0, .ref r_), (1, .int i1)]) dX8_fits_50 rfl (by rw [← ex4v11]; rfl) (by decide) rfl ?_
            refine j_goto X (tgt := 19) dX8_fits_53 (by decide) ?_
            refine j_sub (lv2 := [(0, .ref r_), (1, .int i1), (2, .int x2v8), (3, .int x4), (4, .int x4v11)]) [3, 4, 2, 1, 0] rfl ?_
            exact ih _ _ _ _ _ _ _ _ _ _ hR
  refine j_sub (lv2 := [(0, .ref r_), (1, .int i1)]) [0, 1] rfl ?_
  have hR := h
  unfold fX8_fits at hR
  refine j_iload_n X (q := 1) dX8_fits_0 rfl ?_
  refine j_iconst X (v := 0) dX8_fits_1 (by decide) ?_
  refine j_iconst X (v := 1) dX8_fits_2 (by decide) ?_
  obtain ⟨ov1, hov1, hR⟩ := bd_some hR
  refine j_callS X (As := [.int i1, .int 0, .int 1]) (rest := []) (ws2 := [cWB r_ r_n r_k r_h r_e r_x r_q ik, cBal r_h r_hP r_hA b_h se_h z_h, cWho r_n r_nB r_nT r_nS r_nK, cJar cJ r_hA 4 f_hA, cPus r_hP r_hPt r_hPw r_hPs k_hP, cBal r_nB r_nBP r_nBA b_nB se_nB z_nB, cRow r_nS r_nSf r_nSs k_nS, cIar cI r_hPs 8 f_hPs, cIar cI r_hPt 8 f_hPt, cIar cI r_hPw 8 f_hPw, cJar cJ r_nBA 4 f_nBA, cPus r_nBP r_nBPt r_nBPw r_nBPs k_nBP, cIar cI r_nSf 8 f_nSf, cIar cI r_nSs 8 f_nSs, cIar cI r_nBPs 8 f_nBPs, cIar cI r_nBPt 8 f_nBPt, cIar cI r_nBPw 8 f_nBPw]) (mX8_isBetween l D cI cJ cB cT tt  hov1) [] [.inl 0, .inl 1, .inl 2, .inl 3, .inl 4, .inl 5, .inl 6, .inl 7, .inl 8, .inl 9, .inl 10, .inl 11, .inl 12, .inl 13, .inl 14, .inl 15, .inl 16] k_299 k_297 k_298 k_38 hdX8_isBetween (by decide) (Nat.le_of_ble_eq_true rfl) dX8_fits_3 (by decide) rfl rfl (by decide) rfl rfl ?_
  refine j_if_ne X (tgt := 11) dX8_fits_6 (by decide) (fun cv2 => ?_) (fun cv2 => ?_)
  · replace hR := (if_neg cv2).symm.trans hR
    refine j_iconst X (v := 0) dX8_fits_11 (by decide) ?_
    refine j_istore_n X (lv2 := [(2, .int 0), (0, .ref r_), (1, .int i1)]) dX8_fits_12 (by decide) rfl ?_
    refine j_bipush X (v := (-5)) dX8_fits_13 (by decide) ?_
    refine j_istore_n X (lv2 := [(3, .int (-5)), (2, .int 0), (0, .ref r_), (1, .int i1)]) dX8_fits_15 (by decide) rfl ?_
    refine j_iconst X (v := 1) dX8_fits_16 (by decide) ?_
    refine j_istore X (lv2 := [(4, .int 1), (3, .int (-5)), (2, .int 0), (0, .ref r_), (1, .int i1)]) dX8_fits_17 (by decide) rfl ?_
    refine j_sub (lv2 := [(0, .ref r_), (1, .int i1), (2, .int 0), (3, .int (-5)), (4, .int 1)]) [3, 4, 2, 1, 0] rfl ?_
    exact L_19 _ _ _ _ _ _ _ _ _ _ _ hR
  · replace hR := (if_pos cv2).symm.trans hR
    refine j_iconst X (v := (-1)) dX8_fits_9 (by decide) ?_
    have hR := Option.some.inj hR
    exact j_iret X hr dX8_fits_10 (by rw [← hR]) (by rw [← hR])

def rmX8_odds : Room := { frames := 6, cells := 0, slots := 0, locals := 124 }
theorem hdX8_odds : yX8_odds.cls ≠ "java/lang/invoke/MethodHandle" ∧ yX8_odds.cls ≠ "java/lang/invoke/VarHandle" ∧ (parseMethodDescriptor yX8_odds.desc).map (fun d => d.parameters.length) = some 2 := by decide +kernel
def fX8_odds_29 (i1 : Int32) (i2 : Int32) (ik : Int32) (z_h : Int32) (b_nB : Nat → Int32) (se_nB : Int64) (z_nB : Int32) (f_nBA : Nat → Int64) (k_nBP : Int32) (f_nBPs : Nat → Int32) (f_nBPt : Nat → Int32) (f_nBPw : Nat → Int32) : Nat → Int32 → Int32 → Int32 → (Nat → Int32) → Int64 → (Nat → Int32) → (Nat → Int64) → Int32 → (Nat → Int32) → (Nat → Int32) → (Nat → Int32) → Option (Int64 × Int32 × (Nat → Int32) × Int64 × (Nat → Int32) × (Nat → Int64) × Int32 × (Nat → Int32) × (Nat → Int32) × (Nat → Int32))
  | 0, _, _, _, _, _, _, _, _, _, _, _ => none
  | fu + 1, x3, x4, n_e, b_h, se_h, f_ea, f_hA, k_hP, f_hPs, f_hPt, f_hPw =>
    if (20 : Int32) < x4 then ((fX8_partOfFraction x3.toInt64 11 i2).bind fun ov6 =>
  some (ov6, n_e, b_h, se_h, f_ea, f_hA, k_hP, f_hPs, f_hPt, f_hPw)) else ((fX8_listenWith 1 x4 ik n_e b_h se_h z_h f_ea f_hA k_hP b_nB se_nB z_nB f_hPs f_hPt f_hPw f_nBA k_nBP f_nBPs f_nBPt f_nBPw).bind fun ov7 =>
  if ov7.1 < i1 then (lt' (x4 + 4) fun x4v9 =>
  fX8_odds_29 i1 i2 ik z_h b_nB se_nB z_nB f_nBA k_nBP f_nBPs f_nBPt f_nBPw fu x3 x4v9 ov7.1 ov7.2.1 ov7.2.2.1 ov7.2.2.2.1 ov7.2.2.2.2.1 ov7.2.2.2.2.2.1 ov7.2.2.2.2.2.2.1 ov7.2.2.2.2.2.2.2.1 ov7.2.2.2.2.2.2.2.2) else (lt' (x3 + 1) fun x3v10 =>
  lt' (x4 + 4) fun x4v11 =>
  fX8_odds_29 i1 i2 ik z_h b_nB se_nB z_nB f_nBA k_nBP f_nBPs f_nBPt f_nBPw fu x3v10 x4v11 ov7.1 ov7.2.1 ov7.2.2.1 ov7.2.2.2.1 ov7.2.2.2.2.1 ov7.2.2.2.2.2.1 ov7.2.2.2.2.2.2.1 ov7.2.2.2.2.2.2.2.1 ov7.2.2.2.2.2.2.2.2))
def fX8_odds (i1 : Int32) (i2 : Int32) (ik : Int32) (n_e : Int32) (b_h : Nat → Int32) (se_h : Int64) (z_h : Int32) (f_ea : Nat → Int32) (f_hA : Nat → Int64) (k_hP : Int32) (b_nB : Nat → Int32) (se_nB : Int64) (z_nB : Int32) (f_hPs : Nat → Int32) (f_hPt : Nat → Int32) (f_hPw : Nat → Int32) (f_nBA : Nat → Int64) (k_nBP : Int32) (f_nBPs : Nat → Int32) (f_nBPt : Nat → Int32) (f_nBPw : Nat → Int32) : Option (Int64 × Int32 × (Nat → Int32) × Int64 × (Nat → Int32) × (Nat → Int64) × Int32 × (Nat → Int32) × (Nat → Int32) × (Nat → Int32)) :=
  (fX8_isBetween i1 0 99).bind fun ov1 =>
  if ov1 = 0 then (some ((-9223372036854775808), n_e, b_h, se_h, f_ea, f_hA, k_hP, f_hPs, f_hPt, f_hPw)) else ((fX8_isBetween i2 0 1).bind fun ov3 =>
  if ov3 = 0 then (some ((-9223372036854775808), n_e, b_h, se_h, f_ea, f_hA, k_hP, f_hPs, f_hPt, f_hPw)) else (fX8_odds_29 i1 i2 ik z_h b_nB se_nB z_nB f_nBA k_nBP f_nBPs f_nBPt f_nBPw 500 0 (-20) n_e b_h se_h f_ea f_hA k_hP f_hPs f_hPt f_hPw))
set_option maxHeartbeats 8000000 in
set_option maxRecDepth 100000 in
theorem mX8_odds (l : Launch) (D : va_G) (cI cJ cB cT : ClassId) (tt : Nat → Nat) (r_ r_n r_k r_h r_e r_x r_q r_ea r_hP r_hA r_nB r_nT r_nS r_nK r_hPt r_hPw r_hPs r_nBP r_nBA r_nBPt r_nBPw r_nBPs : Nat) {i1 : Int32} {i2 : Int32} {ik : Int32} {n_e : Int32} {b_h : Nat → Int32} {se_h : Int64} {z_h : Int32} {f_ea : Nat → Int32} {f_hA : Nat → Int64} {k_hP : Int32} {b_nB : Nat → Int32} {se_nB : Int64} {z_nB : Int32} {f_hPs : Nat → Int32} {f_hPt : Nat → Int32} {f_hPw : Nat → Int32} {f_nBA : Nat → Int64} {k_nBP : Int32} {f_nBPs : Nat → Int32} {f_nBPt : Nat → Int32} {f_nBPw : Nat → Int32} {out : Int64 × Int32 × (Nat → Int32) × Int64 × (Nat → Int32) × (Nat → Int64) × Int32 × (Nat → Int32) × (Nat → Int32) × (Nat → Int32)} (h : fX8_odds i1 i2 ik n_e b_h se_h z_h f_ea f_hA k_hP b_nB se_nB z_nB f_hPs f_hPt f_hPw f_nBA k_nBP f_nBPs f_nBPt f_nBPw = some out) :
    jM l yX8_odds (.code yX8_odds cX8_odds 5 (some .long)) rmX8_odds D (wTy cI cJ cB cT) tt [.ref r_, .int i1, .int i2] [cWB r_ r_n r_k r_h r_e r_x r_q ik, cHea r_e r_ea n_e, cBal r_h r_hP r_hA b_h se_h z_h, cWho r_n r_nB r_nT r_nS r_nK, cIar cI r_ea 400 f_ea, cJar cJ r_hA 4 f_hA, cPus r_hP r_hPt r_hPw r_hPs k_hP, cBal r_nB r_nBP r_nBA b_nB se_nB z_nB, cIar cI r_hPs 8 f_hPs, cIar cI r_hPt 8 f_hPt, cIar cI r_hPw 8 f_hPw, cJar cJ r_nBA 4 f_nBA, cPus r_nBP r_nBPt r_nBPw r_nBPs k_nBP, cIar cI r_nBPs 8 f_nBPs, cIar cI r_nBPt 8 f_nBPt, cIar cI r_nBPw 8 f_nBPw] (some (.long out.1)) [cWB r_ r_n r_k r_h r_e r_x r_q ik, cHea r_e r_ea out.2.1, cBal r_h r_hP r_hA out.2.2.1 out.2.2.2.1 z_h, cWho r_n r_nB r_nT r_nS r_nK, cIar cI r_ea 400 out.2.2.2.2.1, cJar cJ r_hA 4 out.2.2.2.2.2.1, cPus r_hP r_hPt r_hPw r_hPs out.2.2.2.2.2.2.1, cBal r_nB r_nBP r_nBA b_nB se_nB z_nB, cIar cI r_hPs 8 out.2.2.2.2.2.2.2.1, cIar cI r_hPt 8 out.2.2.2.2.2.2.2.2.1, cIar cI r_hPw 8 out.2.2.2.2.2.2.2.2.2, cJar cJ r_nBA 4 f_nBA, cPus r_nBP r_nBPt r_nBPw r_nBPs k_nBP, cIar cI r_nBPs 8 f_nBPs, cIar cI r_nBPt 8 f_nBPt, cIar cI r_nBPw 8 f_nBPw] := by
  refine jM.of (by decide) (Nat.le_of_ble_eq_true rfl) ?_
  intro p e s m below meth c A X hr
  have L_29 : ∀ (fuel : Nat) (x3 : Int32) (x4 : Int32) (n_e : Int32) (b_h : Nat → Int32) (se_h : Int64) (f_ea : Nat → Int32) (f_hA : Nat → Int64) (k_hP : Int32) (f_hPs : Nat → Int32) (f_hPt : Nat → Int32) (f_hPw : Nat → Int32), fX8_odds_29 i1 i2 ik z_h b_nB se_nB z_nB f_nBA k_nBP f_nBPs f_nBPt f_nBPw  fuel x3 x4 n_e b_h se_h f_ea f_hA k_hP f_hPs f_hPt f_hPw = some out → jW p l e rmX8_odds s m ([.ref r_, .int i1, .int i2] : List Value).toArray below meth c D A 5 (MQ below (jQ D (some (.long out.1)) [cWB r_ r_n r_k r_h r_e r_x r_q ik, cHea r_e r_ea out.2.1, cBal r_h r_hP r_hA out.2.2.1 out.2.2.2.1 z_h, cWho r_n r_nB r_nT r_nS r_nK, cIar cI r_ea 400 out.2.2.2.2.1, cJar cJ r_hA 4 out.2.2.2.2.2.1, cPus r_hP r_hPt r_hPw r_hPs out.2.2.2.2.2.2.1, cBal r_nB r_nBP r_nBA b_nB se_nB z_nB, cIar cI r_hPs 8 out.2.2.2.2.2.2.2.1, cIar cI r_hPt 8 out.2.2.2.2.2.2.2.2.1, cIar cI r_hPw 8 out.2.2.2.2.2.2.2.2.2, cJar cJ r_nBA 4 f_nBA, cPus r_nBP r_nBPt r_nBPw r_nBPs k_nBP, cIar cI r_nBPs 8 f_nBPs, cIar cI r_nBPt 8 f_nBPt, cIar cI r_nBPw 8 f_nBPw] A) ([.ref r_, .int i1, .int i2] : List Value).toArray s 0 0 A) 0 0 29 [(0, .ref r_), (1, .int i1), (2, .int i2), (3, .int x3), (4, .int x4)] [] [cWB r_ r_n r_k r_h r_e r_x r_q ik, cHea r_e r_ea n_e, cBal r_h r_hP r_hA b_h se_h z_h, cWho r_n r_nB r_nT r_nS r_nK, cIar cI r_ea 400 f_ea, cJar cJ r_hA 4 f_hA, cPus r_hP r_hPt r_hPw r_hPs k_hP, cBal r_nB r_nBP r_nBA b_nB se_nB z_nB, cIar cI r_hPs 8 f_hPs, cIar cI r_hPt 8 f_hPt, cIar cI r_hPw 8 f_hPw, cJar cJ r_nBA 4 f_nBA, cPus r_nBP r_nBPt r_nBPw r_nBPs k_nBP, cIar cI r_nBPs 8 f_nBPs, cIar cI r_nBPt 8 f_nBPt, cIar cI r_nBPw 8 f_nBPw] := by
    intro  fuel
    induction fuel with
    | zero =>
      intro x3 x4 n_e b_h se_h f_ea f_hA k_hP f_hPs f_hPt f_hPw hR
      rw [fX8_odds_29] at hR
      cases hR
    | succ fu ih =>
      intro x3 x4 n_e b_h se_h f_ea f_hA k_hP f_hPs f_hPt f_hPw hR
      rw [fX8_odds_29] at hR
      refine j_iload X (q := 4) dX8_odds_29 rfl ?_
      refine j_bipush X (v := 20) dX8_odds_31 (by decide) ?_
      refine j_icmp_gt X (tgt := 63) dX8_odds_33 (by decide) (fun cv5 => ?_) (fun cv5 => ?_)
      · replace hR := (if_pos cv5).symm.trans hR
        refine j_iload_n X (q := 3) dX8_odds_63 rfl ?_
        refine j_i2l X dX8_odds_64 ?_
        refine j_ldc2 X k_574 dX8_odds_65 ?_
        refine j_iload_n X (q := 2) dX8_odds_68 rfl ?_
        obtain ⟨ov6, hov6, hR⟩ := bd_some hR
        refine j_callS X (As := [.long x3.toInt64, .long 11, .int i2]) (rest := []) (ws2 := [cWB r_ r_n r_k r_h r_e r_x r_q ik, cHea r_e r_ea n_e, cBal r_h r_hP r_hA b_h se_h z_h, cWho r_n r_nB r_nT r_nS r_nK, cIar cI r_ea 400 f_ea, cJar cJ r_hA 4 f_hA, cPus r_hP r_hPt r_hPw r_hPs k_hP, cBal r_nB r_nBP r_nBA b_nB se_nB z_nB, cIar cI r_hPs 8 f_hPs, cIar cI r_hPt 8 f_hPt, cIar cI r_hPw 8 f_hPw, cJar cJ r_nBA 4 f_nBA, cPus r_nBP r_nBPt r_nBPw r_nBPs k_nBP, cIar cI r_nBPs 8 f_nBPs, cIar cI r_nBPt 8 f_nBPt, cIar cI r_nBPw 8 f_nBPw]) (mX8_partOfFraction l D cI cJ cB cT tt  hov6) [] [.inl 0, .inl 1, .inl 2, .inl 3, .inl 4, .inl 5, .inl 6, .inl 7, .inl 8, .inl 9, .inl 10, .inl 11, .inl 12, .inl 13, .inl 14, .inl 15] k_407 k_405 k_406 k_38 hdX8_partOfFraction (by decide) (Nat.le_of_ble_eq_true rfl) dX8_odds_69 (by decide) rfl rfl (by decide) rfl rfl ?_
        have hR := Option.some.inj hR
        exact j_lret X hr dX8_odds_72 (by rw [← hR]) (by rw [← hR])
      · replace hR := (if_neg cv5).symm.trans hR
        refine j_aload_n X (q := 0) dX8_odds_36 rfl ?_
        refine j_iconst X (v := 1) dX8_odds_37 (by decide) ?_
        refine j_iload X (q := 4) dX8_odds_38 rfl ?_
        obtain ⟨ov7, hov7, hR⟩ := bd_some hR
        refine j_callV X (As := [.int 1, .int x4]) (rest := []) (ws2 := [cWB r_ r_n r_k r_h r_e r_x r_q ik, cHea r_e r_ea ov7.1, cBal r_h r_hP r_hA ov7.2.1 ov7.2.2.1 z_h, cWho r_n r_nB r_nT r_nS r_nK, cIar cI r_ea 400 ov7.2.2.2.1, cJar cJ r_hA 4 ov7.2.2.2.2.1, cPus r_hP r_hPt r_hPw r_hPs ov7.2.2.2.2.2.1, cBal r_nB r_nBP r_nBA b_nB se_nB z_nB, cIar cI r_hPs 8 ov7.2.2.2.2.2.2.1, cIar cI r_hPt 8 ov7.2.2.2.2.2.2.2.1, cIar cI r_hPw 8 ov7.2.2.2.2.2.2.2.2, cJar cJ r_nBA 4 f_nBA, cPus r_nBP r_nBPt r_nBPw r_nBPs k_nBP, cIar cI r_nBPs 8 f_nBPs, cIar cI r_nBPt 8 f_nBPt, cIar cI r_nBPw 8 f_nBPw]) (q0 := 0) (ci := 8) (mX8_listenWith l D cI cJ cB cT tt r_ r_n r_k r_h r_e r_x r_q r_ea r_hP r_hA r_nB r_nT r_nS r_nK r_hPt r_hPw r_hPs r_nBP r_nBA r_nBPt r_nBPw r_nBPs hov7) [0, 1, 2, 3, 4, 5, 6, 7, 8, 9, 10, 11, 12, 13, 14, 15] [.inr 0, .inr 1, .inr 2, .inr 3, .inr 4, .inr 5, .inr 6, .inr 7, .inr 8, .inr 9, .inr 10, .inr 11, .inr 12, .inr 13, .inr 14, .inr 15] k_507 k_504 k_506 k_15 rfl rfl k_38 hdX8_listenWith (by decide) (Nat.le_of_ble_eq_true rfl) dX8_odds_40 (by decide) rfl rfl (by decide) rfl rfl ?_
        refine j_aload_n X (q := 0) dX8_odds_43 rfl ?_
        refine j_get X 0 4 hiX8 k_268 dX8_odds_44 rfl rfl (by decide) rfl ?_
        refine j_get X 1 1 hiX1 k_211 dX8_odds_47 rfl rfl (by decide) rfl ?_
        refine j_iload_n X (q := 1) dX8_odds_50 rfl ?_
        refine j_icmp_lt X (tgt := 57) dX8_odds_51 (by decide) (fun cv8 => ?_) (fun cv8 => ?_)
        · replace hR := (if_pos cv8).symm.trans hR
          obtain ⟨x4v9, ex4v9, hR⟩ := lt_some hR
          refine j_iinc X (k := 4) (v := x4v9) (lv2 := [(4, .int x4v9), (0, .ref r_), (1, .int i1), (2, .int i2), (3, .int x3)]) dX8_odds_57 rfl (by rw [← ex4v9]; rfl) (by decide) rfl ?_
          refine j_goto X (tgt := 29) dX8_odds_60 (by decide) ?_
          refine j_sub (lv2 := [(0, .ref r_), (1, .int i1), (2, .int i2), (3, .int x3), (4, .int x4v9)]) [1, 2, 3, 4, 0] rfl ?_
          exact ih _ _ _ _ _ _ _ _ _ _ _ hR
        · replace hR := (if_neg cv8).symm.trans hR
          obtain ⟨x3v10, ex3v10, hR⟩ := lt_some hR
          refine j_iinc X (k := 3) (v := x3v10) (lv2 := [(3, .int x3v10), (0, .ref r_), (1, .int i1), (2, .int i2), (4, .int x4)]) dX8_odds_54 rfl (by rw [← ex3v10]; rfl) (by decide) rfl ?_
          obtain ⟨x4v11, ex4v11, hR⟩ := lt_some hR
          refine j_iinc X (k := 4) (v := x4v11) (lv2 := [(4, .int x4v11), (3, .int x3v10), (0, .ref r_), (1, .int i1), (2, .int i2)]) dX8_odds_57 rfl (by rw [← ex4v11]; rfl) (by decide) rfl ?_
          refine j_goto X (tgt := 29) dX8_odds_60 (by decide) ?_
          refine j_sub (lv2 := [(0, .ref r_), (1, .int i1), (2, .int i2), (3, .int x3v10), (4, .int x4v11)]) [2, 3, 4, 1, 0] rfl ?_
          exact ih _ _ _ _ _ _ _ _ _ _ _ hR
  refine j_sub (lv2 := [(0, .ref r_), (1, .int i1), (2, .int i2)]) [0, 1, 2] rfl ?_
  have hR := h
  unfold fX8_odds at hR
  refine j_iload_n X (q := 1) dX8_odds_0 rfl ?_
  refine j_iconst X (v := 0) dX8_odds_1 (by decide) ?_
  refine j_bipush X (v := 99) dX8_odds_2 (by decide) ?_
  obtain ⟨ov1, hov1, hR⟩ := bd_some hR
  refine j_callS X (As := [.int i1, .int 0, .int 99]) (rest := []) (ws2 := [cWB r_ r_n r_k r_h r_e r_x r_q ik, cHea r_e r_ea n_e, cBal r_h r_hP r_hA b_h se_h z_h, cWho r_n r_nB r_nT r_nS r_nK, cIar cI r_ea 400 f_ea, cJar cJ r_hA 4 f_hA, cPus r_hP r_hPt r_hPw r_hPs k_hP, cBal r_nB r_nBP r_nBA b_nB se_nB z_nB, cIar cI r_hPs 8 f_hPs, cIar cI r_hPt 8 f_hPt, cIar cI r_hPw 8 f_hPw, cJar cJ r_nBA 4 f_nBA, cPus r_nBP r_nBPt r_nBPw r_nBPs k_nBP, cIar cI r_nBPs 8 f_nBPs, cIar cI r_nBPt 8 f_nBPt, cIar cI r_nBPw 8 f_nBPw]) (mX8_isBetween l D cI cJ cB cT tt  hov1) [] [.inl 0, .inl 1, .inl 2, .inl 3, .inl 4, .inl 5, .inl 6, .inl 7, .inl 8, .inl 9, .inl 10, .inl 11, .inl 12, .inl 13, .inl 14, .inl 15] k_299 k_297 k_298 k_38 hdX8_isBetween (by decide) (Nat.le_of_ble_eq_true rfl) dX8_odds_4 (by decide) rfl rfl (by decide) rfl rfl ?_
  refine j_if_eq X (tgt := 19) dX8_odds_7 (by decide) (fun cv2 => ?_) (fun cv2 => ?_)
  · replace hR := (if_pos cv2).symm.trans hR
    refine j_ldc2 X k_399 dX8_odds_19 ?_
    have hR := Option.some.inj hR
    exact j_lret X hr dX8_odds_22 (by rw [← hR]) (by rw [← hR])
  · replace hR := (if_neg cv2).symm.trans hR
    refine j_iload_n X (q := 2) dX8_odds_10 rfl ?_
    refine j_iconst X (v := 0) dX8_odds_11 (by decide) ?_
    refine j_iconst X (v := 1) dX8_odds_12 (by decide) ?_
    obtain ⟨ov3, hov3, hR⟩ := bd_some hR
    refine j_callS X (As := [.int i2, .int 0, .int 1]) (rest := []) (ws2 := [cWB r_ r_n r_k r_h r_e r_x r_q ik, cHea r_e r_ea n_e, cBal r_h r_hP r_hA b_h se_h z_h, cWho r_n r_nB r_nT r_nS r_nK, cIar cI r_ea 400 f_ea, cJar cJ r_hA 4 f_hA, cPus r_hP r_hPt r_hPw r_hPs k_hP, cBal r_nB r_nBP r_nBA b_nB se_nB z_nB, cIar cI r_hPs 8 f_hPs, cIar cI r_hPt 8 f_hPt, cIar cI r_hPw 8 f_hPw, cJar cJ r_nBA 4 f_nBA, cPus r_nBP r_nBPt r_nBPw r_nBPs k_nBP, cIar cI r_nBPs 8 f_nBPs, cIar cI r_nBPt 8 f_nBPt, cIar cI r_nBPw 8 f_nBPw]) (mX8_isBetween l D cI cJ cB cT tt  hov3) [] [.inl 0, .inl 1, .inl 2, .inl 3, .inl 4, .inl 5, .inl 6, .inl 7, .inl 8, .inl 9, .inl 10, .inl 11, .inl 12, .inl 13, .inl 14, .inl 15] k_299 k_297 k_298 k_38 hdX8_isBetween (by decide) (Nat.le_of_ble_eq_true rfl) dX8_odds_13 (by decide) rfl rfl (by decide) rfl rfl ?_
    refine j_if_ne X (tgt := 23) dX8_odds_16 (by decide) (fun cv4 => ?_) (fun cv4 => ?_)
    · replace hR := (if_neg cv4).symm.trans hR
      refine j_iconst X (v := 0) dX8_odds_23 (by decide) ?_
      refine j_istore_n X (lv2 := [(3, .int 0), (0, .ref r_), (1, .int i1), (2, .int i2)]) dX8_odds_24 (by decide) rfl ?_
      refine j_bipush X (v := (-20)) dX8_odds_25 (by decide) ?_
      refine j_istore X (lv2 := [(4, .int (-20)), (3, .int 0), (0, .ref r_), (1, .int i1), (2, .int i2)]) dX8_odds_27 (by decide) rfl ?_
      refine j_sub (lv2 := [(0, .ref r_), (1, .int i1), (2, .int i2), (3, .int 0), (4, .int (-20))]) [2, 3, 4, 1, 0] rfl ?_
      exact L_29 _ _ _ _ _ _ _ _ _ _ _ _ hR
    · replace hR := (if_pos cv4).symm.trans hR
      refine j_ldc2 X k_399 dX8_odds_19 ?_
      have hR := Option.some.inj hR
      exact j_lret X hr dX8_odds_22 (by rw [← hR]) (by rw [← hR])

def rmX8_mean : Room := { frames := 6, cells := 0, slots := 0, locals := 122 }
theorem hdX8_mean : yX8_mean.cls ≠ "java/lang/invoke/MethodHandle" ∧ yX8_mean.cls ≠ "java/lang/invoke/VarHandle" ∧ (parseMethodDescriptor yX8_mean.desc).map (fun d => d.parameters.length) = some 1 := by decide +kernel
def fX8_mean (i1 : Int32) (ik : Int32) (n_e : Int32) (b_h : Nat → Int32) (se_h : Int64) (z_h : Int32) (f_ea : Nat → Int32) (f_hA : Nat → Int64) (k_hP : Int32) (b_nB : Nat → Int32) (se_nB : Int64) (z_nB : Int32) (f_hPs : Nat → Int32) (f_hPt : Nat → Int32) (f_hPw : Nat → Int32) (f_nBA : Nat → Int64) (k_nBP : Int32) (f_nBPs : Nat → Int32) (f_nBPt : Nat → Int32) (f_nBPw : Nat → Int32) : Option (Int64 × Int32 × (Nat → Int32) × Int64 × (Nat → Int32) × (Nat → Int64) × Int32 × (Nat → Int32) × (Nat → Int32) × (Nat → Int32)) :=
  (fX8_listenFromNow ik n_e b_h se_h z_h f_ea f_hA k_hP b_nB se_nB z_nB f_hPs f_hPt f_hPw f_nBA k_nBP f_nBPs f_nBPt f_nBPw).bind fun ov1 =>
  (fX1_gaps ov1.1).bind fun ov2 =>
  if ov2 = 0 then (some ((-9223372036854775808), ov1.1, ov1.2.1, ov1.2.2.1, ov1.2.2.2.1, ov1.2.2.2.2.1, ov1.2.2.2.2.2.1, ov1.2.2.2.2.2.2.1, ov1.2.2.2.2.2.2.2.1, ov1.2.2.2.2.2.2.2.2)) else ((fX1_beatAt ov2 ov1.1 ov1.2.2.2.1).bind fun ov4 =>
  (fX1_beatAt 0 ov1.1 ov1.2.2.2.1).bind fun ov5 =>
  (fX8_partOfFraction ((ov4 - ov5).toInt64) ov2.toInt64 i1).bind fun ov6 =>
  some (ov6, ov1.1, ov1.2.1, ov1.2.2.1, ov1.2.2.2.1, ov1.2.2.2.2.1, ov1.2.2.2.2.2.1, ov1.2.2.2.2.2.2.1, ov1.2.2.2.2.2.2.2.1, ov1.2.2.2.2.2.2.2.2))
set_option maxHeartbeats 8000000 in
set_option maxRecDepth 100000 in
theorem mX8_mean (l : Launch) (D : va_G) (cI cJ cB cT : ClassId) (tt : Nat → Nat) (r_ r_n r_k r_h r_e r_x r_q r_ea r_hP r_hA r_nB r_nT r_nS r_nK r_hPt r_hPw r_hPs r_nBP r_nBA r_nBPt r_nBPw r_nBPs : Nat) {i1 : Int32} {ik : Int32} {n_e : Int32} {b_h : Nat → Int32} {se_h : Int64} {z_h : Int32} {f_ea : Nat → Int32} {f_hA : Nat → Int64} {k_hP : Int32} {b_nB : Nat → Int32} {se_nB : Int64} {z_nB : Int32} {f_hPs : Nat → Int32} {f_hPt : Nat → Int32} {f_hPw : Nat → Int32} {f_nBA : Nat → Int64} {k_nBP : Int32} {f_nBPs : Nat → Int32} {f_nBPt : Nat → Int32} {f_nBPw : Nat → Int32} {out : Int64 × Int32 × (Nat → Int32) × Int64 × (Nat → Int32) × (Nat → Int64) × Int32 × (Nat → Int32) × (Nat → Int32) × (Nat → Int32)} (h : fX8_mean i1 ik n_e b_h se_h z_h f_ea f_hA k_hP b_nB se_nB z_nB f_hPs f_hPt f_hPw f_nBA k_nBP f_nBPs f_nBPt f_nBPw = some out) :
    jM l yX8_mean (.code yX8_mean cX8_mean 3 (some .long)) rmX8_mean D (wTy cI cJ cB cT) tt [.ref r_, .int i1] [cWB r_ r_n r_k r_h r_e r_x r_q ik, cHea r_e r_ea n_e, cBal r_h r_hP r_hA b_h se_h z_h, cWho r_n r_nB r_nT r_nS r_nK, cIar cI r_ea 400 f_ea, cJar cJ r_hA 4 f_hA, cPus r_hP r_hPt r_hPw r_hPs k_hP, cBal r_nB r_nBP r_nBA b_nB se_nB z_nB, cIar cI r_hPs 8 f_hPs, cIar cI r_hPt 8 f_hPt, cIar cI r_hPw 8 f_hPw, cJar cJ r_nBA 4 f_nBA, cPus r_nBP r_nBPt r_nBPw r_nBPs k_nBP, cIar cI r_nBPs 8 f_nBPs, cIar cI r_nBPt 8 f_nBPt, cIar cI r_nBPw 8 f_nBPw] (some (.long out.1)) [cWB r_ r_n r_k r_h r_e r_x r_q ik, cHea r_e r_ea out.2.1, cBal r_h r_hP r_hA out.2.2.1 out.2.2.2.1 z_h, cWho r_n r_nB r_nT r_nS r_nK, cIar cI r_ea 400 out.2.2.2.2.1, cJar cJ r_hA 4 out.2.2.2.2.2.1, cPus r_hP r_hPt r_hPw r_hPs out.2.2.2.2.2.2.1, cBal r_nB r_nBP r_nBA b_nB se_nB z_nB, cIar cI r_hPs 8 out.2.2.2.2.2.2.2.1, cIar cI r_hPt 8 out.2.2.2.2.2.2.2.2.1, cIar cI r_hPw 8 out.2.2.2.2.2.2.2.2.2, cJar cJ r_nBA 4 f_nBA, cPus r_nBP r_nBPt r_nBPw r_nBPs k_nBP, cIar cI r_nBPs 8 f_nBPs, cIar cI r_nBPt 8 f_nBPt, cIar cI r_nBPw 8 f_nBPw] := by
  refine jM.of (by decide) (Nat.le_of_ble_eq_true rfl) ?_
  intro p e s m below meth c A X hr
  refine j_sub (lv2 := [(0, .ref r_), (1, .int i1)]) [0, 1] rfl ?_
  have hR := h
  unfold fX8_mean at hR
  refine j_aload_n X (q := 0) dX8_mean_0 rfl ?_
  obtain ⟨ov1, hov1, hR⟩ := bd_some hR
  refine j_callV X (As := []) (rest := []) (ws2 := [cWB r_ r_n r_k r_h r_e r_x r_q ik, cHea r_e r_ea ov1.1, cBal r_h r_hP r_hA ov1.2.1 ov1.2.2.1 z_h, cWho r_n r_nB r_nT r_nS r_nK, cIar cI r_ea 400 ov1.2.2.2.1, cJar cJ r_hA 4 ov1.2.2.2.2.1, cPus r_hP r_hPt r_hPw r_hPs ov1.2.2.2.2.2.1, cBal r_nB r_nBP r_nBA b_nB se_nB z_nB, cIar cI r_hPs 8 ov1.2.2.2.2.2.2.1, cIar cI r_hPt 8 ov1.2.2.2.2.2.2.2.1, cIar cI r_hPw 8 ov1.2.2.2.2.2.2.2.2, cJar cJ r_nBA 4 f_nBA, cPus r_nBP r_nBPt r_nBPw r_nBPs k_nBP, cIar cI r_nBPs 8 f_nBPs, cIar cI r_nBPt 8 f_nBPt, cIar cI r_nBPw 8 f_nBPw]) (q0 := 0) (ci := 8) (mX8_listenFromNow l D cI cJ cB cT tt r_ r_n r_k r_h r_e r_x r_q r_ea r_hP r_hA r_nB r_nT r_nS r_nK r_hPt r_hPw r_hPs r_nBP r_nBA r_nBPt r_nBPw r_nBPs hov1) [0, 1, 2, 3, 4, 5, 6, 7, 8, 9, 10, 11, 12, 13, 14, 15] [.inr 0, .inr 1, .inr 2, .inr 3, .inr 4, .inr 5, .inr 6, .inr 7, .inr 8, .inr 9, .inr 10, .inr 11, .inr 12, .inr 13, .inr 14, .inr 15] k_486 k_483 k_485 k_13 rfl rfl k_38 hdX8_listenFromNow (by decide) (Nat.le_of_ble_eq_true rfl) dX8_mean_1 (by decide) rfl rfl (by decide) rfl rfl ?_
  refine j_aload_n X (q := 0) dX8_mean_4 rfl ?_
  refine j_get X 0 4 hiX8 k_268 dX8_mean_5 rfl rfl (by decide) rfl ?_
  obtain ⟨ov2, hov2, hR⟩ := bd_some hR
  refine j_callV X (As := []) (rest := []) (ws2 := [cWB r_ r_n r_k r_h r_e r_x r_q ik, cHea r_e r_ea ov1.1, cBal r_h r_hP r_hA ov1.2.1 ov1.2.2.1 z_h, cWho r_n r_nB r_nT r_nS r_nK, cIar cI r_ea 400 ov1.2.2.2.1, cJar cJ r_hA 4 ov1.2.2.2.2.1, cPus r_hP r_hPt r_hPw r_hPs ov1.2.2.2.2.2.1, cBal r_nB r_nBP r_nBA b_nB se_nB z_nB, cIar cI r_hPs 8 ov1.2.2.2.2.2.2.1, cIar cI r_hPt 8 ov1.2.2.2.2.2.2.2.1, cIar cI r_hPw 8 ov1.2.2.2.2.2.2.2.2, cJar cJ r_nBA 4 f_nBA, cPus r_nBP r_nBPt r_nBPw r_nBPs k_nBP, cIar cI r_nBPs 8 f_nBPs, cIar cI r_nBPt 8 f_nBPt, cIar cI r_nBPw 8 f_nBPw]) (q0 := 1) (ci := 1) (mX1_gaps l D cI cJ cB cT tt r_e r_ea hov2) [1] [.inl 0, .inr 0, .inl 2, .inl 3, .inl 4, .inl 5, .inl 6, .inl 7, .inl 8, .inl 9, .inl 10, .inl 11, .inl 12, .inl 13, .inl 14, .inl 15] k_516 k_527 k_514 k_515 rfl rfl k_44 hdX1_gaps (by decide) (Nat.le_of_ble_eq_true rfl) dX8_mean_8 (by decide) rfl rfl (by decide) rfl rfl ?_
  refine j_istore_n X (lv2 := [(2, .int ov2), (0, .ref r_), (1, .int i1)]) dX8_mean_11 (by decide) rfl ?_
  refine j_iload_n X (q := 0) dX8_mean_12 rfl ?_
  refine j_if_ne X (tgt := 20) dX8_mean_13 (by decide) (fun cv3 => ?_) (fun cv3 => ?_)
  · replace hR := (if_neg cv3).symm.trans hR
    refine j_aload_n X (q := 1) dX8_mean_20 rfl ?_
    refine j_get X 0 4 hiX8 k_268 dX8_mean_21 rfl rfl (by decide) rfl ?_
    refine j_iload_n X (q := 0) dX8_mean_24 rfl ?_
    obtain ⟨ov4, hov4, hR⟩ := bd_some hR
    refine j_callV X (As := [.int ov2]) (rest := []) (ws2 := [cWB r_ r_n r_k r_h r_e r_x r_q ik, cHea r_e r_ea ov1.1, cBal r_h r_hP r_hA ov1.2.1 ov1.2.2.1 z_h, cWho r_n r_nB r_nT r_nS r_nK, cIar cI r_ea 400 ov1.2.2.2.1, cJar cJ r_hA 4 ov1.2.2.2.2.1, cPus r_hP r_hPt r_hPw r_hPs ov1.2.2.2.2.2.1, cBal r_nB r_nBP r_nBA b_nB se_nB z_nB, cIar cI r_hPs 8 ov1.2.2.2.2.2.2.1, cIar cI r_hPt 8 ov1.2.2.2.2.2.2.2.1, cIar cI r_hPw 8 ov1.2.2.2.2.2.2.2.2, cJar cJ r_nBA 4 f_nBA, cPus r_nBP r_nBPt r_nBPw r_nBPs k_nBP, cIar cI r_nBPs 8 f_nBPs, cIar cI r_nBPt 8 f_nBPt, cIar cI r_nBPw 8 f_nBPw]) (q0 := 1) (ci := 1) (mX1_beatAt l D cI cJ cB cT tt r_e r_ea hov4) [1, 4] [.inl 0, .inr 0, .inl 2, .inl 3, .inr 1, .inl 5, .inl 6, .inl 7, .inl 8, .inl 9, .inl 10, .inl 11, .inl 12, .inl 13, .inl 14, .inl 15] k_495 k_492 k_493 k_494 rfl rfl k_44 hdX1_beatAt (by decide) (Nat.le_of_ble_eq_true rfl) dX8_mean_25 (by decide) rfl rfl (by decide) rfl rfl ?_
    refine j_aload_n X (q := 1) dX8_mean_28 rfl ?_
    refine j_get X 0 4 hiX8 k_268 dX8_mean_29 rfl rfl (by decide) rfl ?_
    refine j_iconst X (v := 0) dX8_mean_32 (by decide) ?_
    obtain ⟨ov5, hov5, hR⟩ := bd_some hR
    refine j_callV X (As := [.int 0]) (rest := [.int ov4]) (ws2 := [cWB r_ r_n r_k r_h r_e r_x r_q ik, cHea r_e r_ea ov1.1, cBal r_h r_hP r_hA ov1.2.1 ov1.2.2.1 z_h, cWho r_n r_nB r_nT r_nS r_nK, cIar cI r_ea 400 ov1.2.2.2.1, cJar cJ r_hA 4 ov1.2.2.2.2.1, cPus r_hP r_hPt r_hPw r_hPs ov1.2.2.2.2.2.1, cBal r_nB r_nBP r_nBA b_nB se_nB z_nB, cIar cI r_hPs 8 ov1.2.2.2.2.2.2.1, cIar cI r_hPt 8 ov1.2.2.2.2.2.2.2.1, cIar cI r_hPw 8 ov1.2.2.2.2.2.2.2.2, cJar cJ r_nBA 4 f_nBA, cPus r_nBP r_nBPt r_nBPw r_nBPs k_nBP, cIar cI r_nBPs 8 f_nBPs, cIar cI r_nBPt 8 f_nBPt, cIar cI r_nBPw 8 f_nBPw]) (q0 := 1) (ci := 1) (mX1_beatAt l D cI cJ cB cT tt r_e r_ea hov5) [1, 4] [.inl 0, .inr 0, .inl 2, .inl 3, .inr 1, .inl 5, .inl 6, .inl 7, .inl 8, .inl 9, .inl 10, .inl 11, .inl 12, .inl 13, .inl 14, .inl 15] k_495 k_492 k_493 k_494 rfl rfl k_44 hdX1_beatAt (by decide) (Nat.le_of_ble_eq_true rfl) dX8_mean_33 (by decide) rfl rfl (by decide) rfl rfl ?_
    refine j_isub X dX8_mean_36 ?_
    refine j_i2l X dX8_mean_37 ?_
    refine j_iload_n X (q := 0) dX8_mean_38 rfl ?_
    refine j_i2l X dX8_mean_39 ?_
    refine j_iload_n X (q := 2) dX8_mean_40 rfl ?_
    obtain ⟨ov6, hov6, hR⟩ := bd_some hR
    refine j_callS X (As := [.long ((ov4 - ov5).toInt64), .long ov2.toInt64, .int i1]) (rest := []) (ws2 := [cWB r_ r_n r_k r_h r_e r_x r_q ik, cHea r_e r_ea ov1.1, cBal r_h r_hP r_hA ov1.2.1 ov1.2.2.1 z_h, cWho r_n r_nB r_nT r_nS r_nK, cIar cI r_ea 400 ov1.2.2.2.1, cJar cJ r_hA 4 ov1.2.2.2.2.1, cPus r_hP r_hPt r_hPw r_hPs ov1.2.2.2.2.2.1, cBal r_nB r_nBP r_nBA b_nB se_nB z_nB, cIar cI r_hPs 8 ov1.2.2.2.2.2.2.1, cIar cI r_hPt 8 ov1.2.2.2.2.2.2.2.1, cIar cI r_hPw 8 ov1.2.2.2.2.2.2.2.2, cJar cJ r_nBA 4 f_nBA, cPus r_nBP r_nBPt r_nBPw r_nBPs k_nBP, cIar cI r_nBPs 8 f_nBPs, cIar cI r_nBPt 8 f_nBPt, cIar cI r_nBPw 8 f_nBPw]) (mX8_partOfFraction l D cI cJ cB cT tt  hov6) [] [.inl 0, .inl 1, .inl 2, .inl 3, .inl 4, .inl 5, .inl 6, .inl 7, .inl 8, .inl 9, .inl 10, .inl 11, .inl 12, .inl 13, .inl 14, .inl 15] k_407 k_405 k_406 k_38 hdX8_partOfFraction (by decide) (Nat.le_of_ble_eq_true rfl) dX8_mean_41 (by decide) rfl rfl (by decide) rfl rfl ?_
    have hR := Option.some.inj hR
    exact j_lret X hr dX8_mean_44 (by rw [← hR]) (by rw [← hR])
  · replace hR := (if_pos cv3).symm.trans hR
    refine j_ldc2 X k_399 dX8_mean_16 ?_
    have hR := Option.some.inj hR
    exact j_lret X hr dX8_mean_19 (by rw [← hR]) (by rw [← hR])

def rmX8_book : Room := { frames := 1, cells := 0, slots := 0, locals := 22 }
theorem hdX8_book : yX8_book.cls ≠ "java/lang/invoke/MethodHandle" ∧ yX8_book.cls ≠ "java/lang/invoke/VarHandle" ∧ (parseMethodDescriptor yX8_book.desc).map (fun d => d.parameters.length) = some 2 := by decide +kernel
def fX8_book (i1 : Int32) (i2 : Int32) (ik : Int32) (k_nK : Int32) (f_nKf : Nat → Int32) (f_nKs : Nat → Int32) : Option (Int32 × Int32 × (Nat → Int32) × (Nat → Int32)) :=
  if i1 = (-1) then (some (0, 0, f_nKf, f_nKs)) else ((fX8_isBetween i1 0 99).bind fun ov2 =>
  if ov2 = 0 then (some ((-2), k_nK, f_nKf, f_nKs)) else ((fX8_isBetween i2 0 400).bind fun ov4 =>
  if ov4 = 0 then (some ((-2), k_nK, f_nKf, f_nKs)) else (if k_nK < 8 then ((fX3_add i1 i2 k_nK f_nKf f_nKs).bind fun ov7 =>
  some (ov7.1, ov7.1, ov7.2.1, ov7.2.2)) else (some ((-4), k_nK, f_nKf, f_nKs)))))
set_option maxHeartbeats 8000000 in
set_option maxRecDepth 100000 in
theorem mX8_book (l : Launch) (D : va_G) (cI cJ cB cT : ClassId) (tt : Nat → Nat) (r_ r_n r_k r_h r_e r_x r_q r_nB r_nT r_nS r_nK r_nKf r_nKs : Nat) {i1 : Int32} {i2 : Int32} {ik : Int32} {k_nK : Int32} {f_nKf : Nat → Int32} {f_nKs : Nat → Int32} {out : Int32 × Int32 × (Nat → Int32) × (Nat → Int32)} (h : fX8_book i1 i2 ik k_nK f_nKf f_nKs = some out) :
    jM l yX8_book (.code yX8_book cX8_book 3 (some .int)) rmX8_book D (wTy cI cJ cB cT) tt [.ref r_, .int i1, .int i2] [cWB r_ r_n r_k r_h r_e r_x r_q ik, cWho r_n r_nB r_nT r_nS r_nK, cRow r_nK r_nKf r_nKs k_nK, cIar cI r_nKf 8 f_nKf, cIar cI r_nKs 8 f_nKs] (some (.int out.1)) [cWB r_ r_n r_k r_h r_e r_x r_q ik, cWho r_n r_nB r_nT r_nS r_nK, cRow r_nK r_nKf r_nKs out.2.1, cIar cI r_nKf 8 out.2.2.1, cIar cI r_nKs 8 out.2.2.2] := by
  refine jM.of (by decide) (Nat.le_of_ble_eq_true rfl) ?_
  intro p e s m below meth c A X hr
  refine j_sub (lv2 := [(0, .ref r_), (1, .int i1), (2, .int i2)]) [0, 1, 2] rfl ?_
  have hR := h
  unfold fX8_book at hR
  refine j_iload_n X (q := 1) dX8_book_0 rfl ?_
  refine j_iconst X (v := (-1)) dX8_book_1 (by decide) ?_
  refine j_icmp_ne X (tgt := 18) dX8_book_2 (by decide) (fun cv1 => ?_) (fun cv1 => ?_)
  · replace hR := (if_neg cv1).symm.trans hR
    refine j_iload_n X (q := 1) dX8_book_18 rfl ?_
    refine j_iconst X (v := 0) dX8_book_19 (by decide) ?_
    refine j_bipush X (v := 99) dX8_book_20 (by decide) ?_
    obtain ⟨ov2, hov2, hR⟩ := bd_some hR
    refine j_callS X (As := [.int i1, .int 0, .int 99]) (rest := []) (ws2 := [cWB r_ r_n r_k r_h r_e r_x r_q ik, cWho r_n r_nB r_nT r_nS r_nK, cRow r_nK r_nKf r_nKs k_nK, cIar cI r_nKf 8 f_nKf, cIar cI r_nKs 8 f_nKs]) (mX8_isBetween l D cI cJ cB cT tt  hov2) [] [.inl 0, .inl 1, .inl 2, .inl 3, .inl 4] k_299 k_297 k_298 k_38 hdX8_isBetween (by decide) (Nat.le_of_ble_eq_true rfl) dX8_book_22 (by decide) rfl rfl (by decide) rfl rfl ?_
    refine j_if_eq X (tgt := 39) dX8_book_25 (by decide) (fun cv3 => ?_) (fun cv3 => ?_)
    · replace hR := (if_pos cv3).symm.trans hR
      refine j_bipush X (v := (-2)) dX8_book_39 (by decide) ?_
      have hR := Option.some.inj hR
      exact j_iret X hr dX8_book_41 (by rw [← hR]) (by rw [← hR])
    · replace hR := (if_neg cv3).symm.trans hR
      refine j_iload_n X (q := 2) dX8_book_28 rfl ?_
      refine j_iconst X (v := 0) dX8_book_29 (by decide) ?_
      refine j_sipush X (v := 400) dX8_book_30 (by decide) ?_
      obtain ⟨ov4, hov4, hR⟩ := bd_some hR
      refine j_callS X (As := [.int i2, .int 0, .int 400]) (rest := []) (ws2 := [cWB r_ r_n r_k r_h r_e r_x r_q ik, cWho r_n r_nB r_nT r_nS r_nK, cRow r_nK r_nKf r_nKs k_nK, cIar cI r_nKf 8 f_nKf, cIar cI r_nKs 8 f_nKs]) (mX8_isBetween l D cI cJ cB cT tt  hov4) [] [.inl 0, .inl 1, .inl 2, .inl 3, .inl 4] k_299 k_297 k_298 k_38 hdX8_isBetween (by decide) (Nat.le_of_ble_eq_true rfl) dX8_book_33 (by decide) rfl rfl (by decide) rfl rfl ?_
      refine j_if_ne X (tgt := 42) dX8_book_36 (by decide) (fun cv5 => ?_) (fun cv5 => ?_)
      · replace hR := (if_neg cv5).symm.trans hR
        refine j_aload_n X (q := 0) dX8_book_42 rfl ?_
        refine j_get X 0 0 hiX8 k_264 dX8_book_43 rfl rfl (by decide) rfl ?_
        refine j_get X 1 3 hiX7 k_191 dX8_book_46 rfl rfl (by decide) rfl ?_
        refine j_get X 2 2 hiX3 k_176 dX8_book_49 rfl rfl (by decide) rfl ?_
        refine j_bipush X (v := 8) dX8_book_52 (by decide) ?_
        refine j_icmp_lt X (tgt := 60) dX8_book_54 (by decide) (fun cv6 => ?_) (fun cv6 => ?_)
        · replace hR := (if_pos cv6).symm.trans hR
          refine j_aload_n X (q := 0) dX8_book_60 rfl ?_
          refine j_get X 0 0 hiX8 k_264 dX8_book_61 rfl rfl (by decide) rfl ?_
          refine j_get X 1 3 hiX7 k_191 dX8_book_64 rfl rfl (by decide) rfl ?_
          refine j_iload_n X (q := 1) dX8_book_67 rfl ?_
          refine j_iload_n X (q := 2) dX8_book_68 rfl ?_
          obtain ⟨ov7, hov7, hR⟩ := bd_some hR
          refine j_callV X (As := [.int i1, .int i2]) (rest := []) (ws2 := [cWB r_ r_n r_k r_h r_e r_x r_q ik, cWho r_n r_nB r_nT r_nS r_nK, cRow r_nK r_nKf r_nKs ov7.1, cIar cI r_nKf 8 ov7.2.1, cIar cI r_nKs 8 ov7.2.2]) (q0 := 2) (ci := 3) (mX3_add l D cI cJ cB cT tt r_nK r_nKf r_nKs hov7) [2, 3, 4] [.inl 0, .inl 1, .inr 0, .inr 1, .inr 2] k_552 k_549 k_550 k_551 rfl rfl k_43 hdX3_add (by decide) (Nat.le_of_ble_eq_true rfl) dX8_book_69 (by decide) rfl rfl (by decide) rfl rfl ?_
          refine j_aload_n X (q := 0) dX8_book_72 rfl ?_
          refine j_get X 0 0 hiX8 k_264 dX8_book_73 rfl rfl (by decide) rfl ?_
          refine j_get X 1 3 hiX7 k_191 dX8_book_76 rfl rfl (by decide) rfl ?_
          refine j_get X 2 2 hiX3 k_176 dX8_book_79 rfl rfl (by decide) rfl ?_
          have hR := Option.some.inj hR
          exact j_iret X hr dX8_book_82 (by rw [← hR]) (by rw [← hR])
        · replace hR := (if_neg cv6).symm.trans hR
          refine j_bipush X (v := (-4)) dX8_book_57 (by decide) ?_
          have hR := Option.some.inj hR
          exact j_iret X hr dX8_book_59 (by rw [← hR]) (by rw [← hR])
      · replace hR := (if_pos cv5).symm.trans hR
        refine j_bipush X (v := (-2)) dX8_book_39 (by decide) ?_
        have hR := Option.some.inj hR
        exact j_iret X hr dX8_book_41 (by rw [← hR]) (by rw [← hR])
  · replace hR := (if_pos cv1).symm.trans hR
    refine j_aload_n X (q := 0) dX8_book_5 rfl ?_
    refine j_get X 0 0 hiX8 k_264 dX8_book_6 rfl rfl (by decide) rfl ?_
    refine j_get X 1 3 hiX7 k_191 dX8_book_9 rfl rfl (by decide) rfl ?_
    refine j_iconst X (v := 0) dX8_book_12 (by decide) ?_
    refine j_put X (ws2 := [cWB r_ r_n r_k r_h r_e r_x r_q ik, cWho r_n r_nB r_nT r_nS r_nK, cRow r_nK r_nKf r_nKs 0, cIar cI r_nKf 8 f_nKf, cIar cI r_nKs 8 f_nKs]) 2 2 hiX3 tyX3_ok nmX3 k_176 dX8_book_13 rfl rfl (by decide) (by decide) rfl rfl (Nat.le_of_ble_eq_true rfl) rfl ?_
    refine j_iconst X (v := 0) dX8_book_16 (by decide) ?_
    have hR := Option.some.inj hR
    exact j_iret X hr dX8_book_17 (by rw [← hR]) (by rw [← hR])

def rmX8_looked : Room := { frames := 6, cells := 0, slots := 0, locals := 122 }
theorem hdX8_looked : yX8_looked.cls ≠ "java/lang/invoke/MethodHandle" ∧ yX8_looked.cls ≠ "java/lang/invoke/VarHandle" ∧ (parseMethodDescriptor yX8_looked.desc).map (fun d => d.parameters.length) = some 0 := by decide +kernel
def fX8_looked_6 (ik : Int32) (z_h : Int32) (b_nB : Nat → Int32) (se_nB : Int64) (z_nB : Int32) (k_nK : Int32) (f_nBA : Nat → Int64) (k_nBP : Int32) (f_nKf : Nat → Int32) (f_nKs : Nat → Int32) (f_nBPs : Nat → Int32) (f_nBPt : Nat → Int32) (f_nBPw : Nat → Int32) : Nat → Int32 → Int32 → (Nat → Int32) → Int64 → (Nat → Int32) → (Nat → Int64) → Int32 → (Nat → Int32) → (Nat → Int32) → (Nat → Int32) → Option (Int32 × Int32 × (Nat → Int32) × Int64 × (Nat → Int32) × (Nat → Int64) × Int32 × (Nat → Int32) × (Nat → Int32) × (Nat → Int32))
  | 0, _, _, _, _, _, _, _, _, _, _ => none
  | fu + 1, x1, n_e, b_h, se_h, f_ea, f_hA, k_hP, f_hPs, f_hPt, f_hPw =>
    if k_nK ≤ x1 then (some ((-5), n_e, b_h, se_h, f_ea, f_hA, k_hP, f_hPs, f_hPt, f_hPw)) else (if (8 : Int32) ≤ x1 then (some ((-5), n_e, b_h, se_h, f_ea, f_hA, k_hP, f_hPs, f_hPt, f_hPw)) else (gd (inb x1 8) ((fX1_beatAt (f_nKf x1.toNatClampNeg) n_e f_ea).bind fun ov5 =>
  gd (inb x1 8) (if ov5 = (f_nKs x1.toNatClampNeg) then (lt' (x1 + 1) fun x1v8 =>
  fX8_looked_6 ik z_h b_nB se_nB z_nB k_nK f_nBA k_nBP f_nKf f_nKs f_nBPs f_nBPt f_nBPw fu x1v8 n_e b_h se_h f_ea f_hA k_hP f_hPs f_hPt f_hPw) else (some (x1, n_e, b_h, se_h, f_ea, f_hA, k_hP, f_hPs, f_hPt, f_hPw))))))
def fX8_looked (ik : Int32) (n_e : Int32) (b_h : Nat → Int32) (se_h : Int64) (z_h : Int32) (f_ea : Nat → Int32) (f_hA : Nat → Int64) (k_hP : Int32) (b_nB : Nat → Int32) (se_nB : Int64) (z_nB : Int32) (k_nK : Int32) (f_hPs : Nat → Int32) (f_hPt : Nat → Int32) (f_hPw : Nat → Int32) (f_nBA : Nat → Int64) (k_nBP : Int32) (f_nKf : Nat → Int32) (f_nKs : Nat → Int32) (f_nBPs : Nat → Int32) (f_nBPt : Nat → Int32) (f_nBPw : Nat → Int32) : Option (Int32 × Int32 × (Nat → Int32) × Int64 × (Nat → Int32) × (Nat → Int64) × Int32 × (Nat → Int32) × (Nat → Int32) × (Nat → Int32)) :=
  (fX8_listenFromNow ik n_e b_h se_h z_h f_ea f_hA k_hP b_nB se_nB z_nB f_hPs f_hPt f_hPw f_nBA k_nBP f_nBPs f_nBPt f_nBPw).bind fun ov1 =>
  fX8_looked_6 ik z_h b_nB se_nB z_nB k_nK f_nBA k_nBP f_nKf f_nKs f_nBPs f_nBPt f_nBPw 500 0 ov1.1 ov1.2.1 ov1.2.2.1 ov1.2.2.2.1 ov1.2.2.2.2.1 ov1.2.2.2.2.2.1 ov1.2.2.2.2.2.2.1 ov1.2.2.2.2.2.2.2.1 ov1.2.2.2.2.2.2.2.2
set_option maxHeartbeats 8000000 in
set_option maxRecDepth 100000 in
theorem mX8_looked (l : Launch) (D : va_G) (cI cJ cB cT : ClassId) (tt : Nat → Nat) (r_ r_n r_k r_h r_e r_x r_q r_ea r_hP r_hA r_nB r_nT r_nS r_nK r_hPt r_hPw r_hPs r_nBP r_nBA r_nKf r_nKs r_nBPt r_nBPw r_nBPs : Nat)  {ik : Int32} {n_e : Int32} {b_h : Nat → Int32} {se_h : Int64} {z_h : Int32} {f_ea : Nat → Int32} {f_hA : Nat → Int64} {k_hP : Int32} {b_nB : Nat → Int32} {se_nB : Int64} {z_nB : Int32} {k_nK : Int32} {f_hPs : Nat → Int32} {f_hPt : Nat → Int32} {f_hPw : Nat → Int32} {f_nBA : Nat → Int64} {k_nBP : Int32} {f_nKf : Nat → Int32} {f_nKs : Nat → Int32} {f_nBPs : Nat → Int32} {f_nBPt : Nat → Int32} {f_nBPw : Nat → Int32} {out : Int32 × Int32 × (Nat → Int32) × Int64 × (Nat → Int32) × (Nat → Int64) × Int32 × (Nat → Int32) × (Nat → Int32) × (Nat → Int32)} (h : fX8_looked ik n_e b_h se_h z_h f_ea f_hA k_hP b_nB se_nB z_nB k_nK f_hPs f_hPt f_hPw f_nBA k_nBP f_nKf f_nKs f_nBPs f_nBPt f_nBPw = some out) :
    jM l yX8_looked (.code yX8_looked cX8_looked 2 (some .int)) rmX8_looked D (wTy cI cJ cB cT) tt [.ref r_] [cWB r_ r_n r_k r_h r_e r_x r_q ik, cHea r_e r_ea n_e, cBal r_h r_hP r_hA b_h se_h z_h, cWho r_n r_nB r_nT r_nS r_nK, cIar cI r_ea 400 f_ea, cJar cJ r_hA 4 f_hA, cPus r_hP r_hPt r_hPw r_hPs k_hP, cBal r_nB r_nBP r_nBA b_nB se_nB z_nB, cRow r_nK r_nKf r_nKs k_nK, cIar cI r_hPs 8 f_hPs, cIar cI r_hPt 8 f_hPt, cIar cI r_hPw 8 f_hPw, cJar cJ r_nBA 4 f_nBA, cPus r_nBP r_nBPt r_nBPw r_nBPs k_nBP, cIar cI r_nKf 8 f_nKf, cIar cI r_nKs 8 f_nKs, cIar cI r_nBPs 8 f_nBPs, cIar cI r_nBPt 8 f_nBPt, cIar cI r_nBPw 8 f_nBPw] (some (.int out.1)) [cWB r_ r_n r_k r_h r_e r_x r_q ik, cHea r_e r_ea out.2.1, cBal r_h r_hP r_hA out.2.2.1 out.2.2.2.1 z_h, cWho r_n r_nB r_nT r_nS r_nK, cIar cI r_ea 400 out.2.2.2.2.1, cJar cJ r_hA 4 out.2.2.2.2.2.1, cPus r_hP r_hPt r_hPw r_hPs out.2.2.2.2.2.2.1, cBal r_nB r_nBP r_nBA b_nB se_nB z_nB, cRow r_nK r_nKf r_nKs k_nK, cIar cI r_hPs 8 out.2.2.2.2.2.2.2.1, cIar cI r_hPt 8 out.2.2.2.2.2.2.2.2.1, cIar cI r_hPw 8 out.2.2.2.2.2.2.2.2.2, cJar cJ r_nBA 4 f_nBA, cPus r_nBP r_nBPt r_nBPw r_nBPs k_nBP, cIar cI r_nKf 8 f_nKf, cIar cI r_nKs 8 f_nKs, cIar cI r_nBPs 8 f_nBPs, cIar cI r_nBPt 8 f_nBPt, cIar cI r_nBPw 8 f_nBPw] := by
  refine jM.of (by decide) (Nat.le_of_ble_eq_true rfl) ?_
  intro p e s m below meth c A X hr
  have L_6 : ∀ (fuel : Nat) (x1 : Int32) (n_e : Int32) (b_h : Nat → Int32) (se_h : Int64) (f_ea : Nat → Int32) (f_hA : Nat → Int64) (k_hP : Int32) (f_hPs : Nat → Int32) (f_hPt : Nat → Int32) (f_hPw : Nat → Int32), fX8_looked_6 ik z_h b_nB se_nB z_nB k_nK f_nBA k_nBP f_nKf f_nKs f_nBPs f_nBPt f_nBPw  fuel x1 n_e b_h se_h f_ea f_hA k_hP f_hPs f_hPt f_hPw = some out → jW p l e rmX8_looked s m ([.ref r_] : List Value).toArray below meth c D A 2 (MQ below (jQ D (some (.int out.1)) [cWB r_ r_n r_k r_h r_e r_x r_q ik, cHea r_e r_ea out.2.1, cBal r_h r_hP r_hA out.2.2.1 out.2.2.2.1 z_h, cWho r_n r_nB r_nT r_nS r_nK, cIar cI r_ea 400 out.2.2.2.2.1, cJar cJ r_hA 4 out.2.2.2.2.2.1, cPus r_hP r_hPt r_hPw r_hPs out.2.2.2.2.2.2.1, cBal r_nB r_nBP r_nBA b_nB se_nB z_nB, cRow r_nK r_nKf r_nKs k_nK, cIar cI r_hPs 8 out.2.2.2.2.2.2.2.1, cIar cI r_hPt 8 out.2.2.2.2.2.2.2.2.1, cIar cI r_hPw 8 out.2.2.2.2.2.2.2.2.2, cJar cJ r_nBA 4 f_nBA, cPus r_nBP r_nBPt r_nBPw r_nBPs k_nBP, cIar cI r_nKf 8 f_nKf, cIar cI r_nKs 8 f_nKs, cIar cI r_nBPs 8 f_nBPs, cIar cI r_nBPt 8 f_nBPt, cIar cI r_nBPw 8 f_nBPw] A) ([.ref r_] : List Value).toArray s 0 0 A) 0 0 6 [(0, .ref r_), (1, .int x1)] [] [cWB r_ r_n r_k r_h r_e r_x r_q ik, cHea r_e r_ea n_e, cBal r_h r_hP r_hA b_h se_h z_h, cWho r_n r_nB r_nT r_nS r_nK, cIar cI r_ea 400 f_ea, cJar cJ r_hA 4 f_hA, cPus r_hP r_hPt r_hPw r_hPs k_hP, cBal r_nB r_nBP r_nBA b_nB se_nB z_nB, cRow r_nK r_nKf r_nKs k_nK, cIar cI r_hPs 8 f_hPs, cIar cI r_hPt 8 f_hPt, cIar cI r_hPw 8 f_hPw, cJar cJ r_nBA 4 f_nBA, cPus r_nBP r_nBPt r_nBPw r_nBPs k_nBP, cIar cI r_nKf 8 f_nKf, cIar cI r_nKs 8 f_nKs, cIar cI r_nBPs 8 f_nBPs, cIar cI r_nBPt 8 f_nBPt, cIar cI r_nBPw 8 f_nBPw] := by
    intro  fuel
    induction fuel with
    | zero =>
      intro x1 n_e b_h se_h f_ea f_hA k_hP f_hPs f_hPt f_hPw hR
      rw [fX8_looked_6] at hR
      cases hR
    | succ fu ih =>
      intro x1 n_e b_h se_h f_ea f_hA k_hP f_hPs f_hPt f_hPw hR
      rw [fX8_looked_6] at hR
      refine j_iload_n X (q := 1) dX8_looked_6 rfl ?_
      refine j_aload_n X (q := 0) dX8_looked_7 rfl ?_
      refine j_get X 0 0 hiX8 k_264 dX8_looked_8 rfl rfl (by decide) rfl ?_
      refine j_get X 3 3 hiX7 k_191 dX8_looked_11 rfl rfl (by decide) rfl ?_
      refine j_get X 8 2 hiX3 k_176 dX8_looked_14 rfl rfl (by decide) rfl ?_
      refine j_icmp_ge X (tgt := 77) dX8_looked_17 (by decide) (fun cv2 => ?_) (fun cv2 => ?_)
      · replace hR := (if_pos cv2).symm.trans hR
        refine j_bipush X (v := (-5)) dX8_looked_77 (by decide) ?_
        have hR := Option.some.inj hR
        exact j_iret X hr dX8_looked_79 (by rw [← hR]) (by rw [← hR])
      · replace hR := (if_neg cv2).symm.trans hR
        refine j_iload_n X (q := 1) dX8_looked_20 rfl ?_
        refine j_aload_n X (q := 0) dX8_looked_21 rfl ?_
        refine j_get X 0 0 hiX8 k_264 dX8_looked_22 rfl rfl (by decide) rfl ?_
        refine j_get X 3 3 hiX7 k_191 dX8_looked_25 rfl rfl (by decide) rfl ?_
        refine j_get X 8 0 hiX3 k_172 dX8_looked_28 rfl rfl (by decide) rfl ?_
        refine j_alen X (v := 8) 14 0 dX8_looked_31 rfl rfl rfl ?_
        refine j_icmp_ge X (tgt := 77) dX8_looked_32 (by decide) (fun cv3 => ?_) (fun cv3 => ?_)
        · replace hR := (if_pos cv3).symm.trans hR
          refine j_bipush X (v := (-5)) dX8_looked_77 (by decide) ?_
          have hR := Option.some.inj hR
          exact j_iret X hr dX8_looked_79 (by rw [← hR]) (by rw [← hR])
        · replace hR := (if_neg cv3).symm.trans hR
          refine j_aload_n X (q := 0) dX8_looked_35 rfl ?_
          refine j_get X 0 4 hiX8 k_268 dX8_looked_36 rfl rfl (by decide) rfl ?_
          refine j_aload_n X (q := 0) dX8_looked_39 rfl ?_
          refine j_get X 0 0 hiX8 k_264 dX8_looked_40 rfl rfl (by decide) rfl ?_
          refine j_get X 3 3 hiX7 k_191 dX8_looked_43 rfl rfl (by decide) rfl ?_
          refine j_get X 8 0 hiX3 k_172 dX8_looked_46 rfl rfl (by decide) rfl ?_
          refine j_iload_n X (q := 1) dX8_looked_49 rfl ?_
          obtain ⟨gv4, hR⟩ := gd_some hR
          refine j_iald X 14 0 rfl dX8_looked_50 rfl rfl gv4 ?_
          obtain ⟨ov5, hov5, hR⟩ := bd_some hR
          refine j_callV X (As := [.int (f_nKf x1.toNatClampNeg)]) (rest := []) (ws2 := [cWB r_ r_n r_k r_h r_e r_x r_q ik, cHea r_e r_ea n_e, cBal r_h r_hP r_hA b_h se_h z_h, cWho r_n r_nB r_nT r_nS r_nK, cIar cI r_ea 400 f_ea, cJar cJ r_hA 4 f_hA, cPus r_hP r_hPt r_hPw r_hPs k_hP, cBal r_nB r_nBP r_nBA b_nB se_nB z_nB, cRow r_nK r_nKf r_nKs k_nK, cIar cI r_hPs 8 f_hPs, cIar cI r_hPt 8 f_hPt, cIar cI r_hPw 8 f_hPw, cJar cJ r_nBA 4 f_nBA, cPus r_nBP r_nBPt r_nBPw r_nBPs k_nBP, cIar cI r_nKf 8 f_nKf, cIar cI r_nKs 8 f_nKs, cIar cI r_nBPs 8 f_nBPs, cIar cI r_nBPt 8 f_nBPt, cIar cI r_nBPw 8 f_nBPw]) (q0 := 1) (ci := 1) (mX1_beatAt l D cI cJ cB cT tt r_e r_ea hov5) [1, 4] [.inl 0, .inr 0, .inl 2, .inl 3, .inr 1, .inl 5, .inl 6, .inl 7, .inl 8, .inl 9, .inl 10, .inl 11, .inl 12, .inl 13, .inl 14, .inl 15, .inl 16, .inl 17, .inl 18] k_495 k_492 k_493 k_494 rfl rfl k_44 hdX1_beatAt (by decide) (Nat.le_of_ble_eq_true rfl) dX8_looked_51 (by decide) rfl rfl (by decide) rfl rfl ?_
          refine j_aload_n X (q := 0) dX8_looked_54 rfl ?_
          refine j_get X 0 0 hiX8 k_264 dX8_looked_55 rfl rfl (by decide) rfl ?_
          refine j_get X 3 3 hiX7 k_191 dX8_looked_58 rfl rfl (by decide) rfl ?_
          refine j_get X 8 1 hiX3 k_174 dX8_looked_61 rfl rfl (by decide) rfl ?_
          refine j_iload_n X (q := 1) dX8_looked_64 rfl ?_
          obtain ⟨gv6, hR⟩ := gd_some hR
          refine j_iald X 15 0 rfl dX8_looked_65 rfl rfl gv6 ?_
          refine j_icmp_eq X (tgt := 71) dX8_looked_66 (by decide) (fun cv7 => ?_) (fun cv7 => ?_)
          · replace hR := (if_pos cv7).symm.trans hR
            obtain ⟨x1v8, ex1v8, hR⟩ := lt_some hR
            refine j_iinc X (k := 1) (v := x1v8) (lv2 := [(1, .int x1v8), (0, .ref r_)]) dX8_looked_71 rfl (by rw [← ex1v8]; rfl) (by decide) rfl ?_
            refine j_goto X (tgt := 6) dX8_looked_74 (by decide) ?_
            refine j_sub (lv2 := [(0, .ref r_), (1, .int x1v8)]) [1, 0] rfl ?_
            exact ih _ _ _ _ _ _ _ _ _ _ hR
          · replace hR := (if_neg cv7).symm.trans hR
            refine j_iload_n X (q := 1) dX8_looked_69 rfl ?_
            have hR := Option.some.inj hR
            exact j_iret X hr dX8_looked_70 (by rw [← hR]) (by rw [← hR])
  refine j_sub (lv2 := [(0, .ref r_)]) [0] rfl ?_
  have hR := h
  unfold fX8_looked at hR
  refine j_aload_n X (q := 0) dX8_looked_0 rfl ?_
  obtain ⟨ov1, hov1, hR⟩ := bd_some hR
  refine j_callV X (As := []) (rest := []) (ws2 := [cWB r_ r_n r_k r_h r_e r_x r_q ik, cHea r_e r_ea ov1.1, cBal r_h r_hP r_hA ov1.2.1 ov1.2.2.1 z_h, cWho r_n r_nB r_nT r_nS r_nK, cIar cI r_ea 400 ov1.2.2.2.1, cJar cJ r_hA 4 ov1.2.2.2.2.1, cPus r_hP r_hPt r_hPw r_hPs ov1.2.2.2.2.2.1, cBal r_nB r_nBP r_nBA b_nB se_nB z_nB, cRow r_nK r_nKf r_nKs k_nK, cIar cI r_hPs 8 ov1.2.2.2.2.2.2.1, cIar cI r_hPt 8 ov1.2.2.2.2.2.2.2.1, cIar cI r_hPw 8 ov1.2.2.2.2.2.2.2.2, cJar cJ r_nBA 4 f_nBA, cPus r_nBP r_nBPt r_nBPw r_nBPs k_nBP, cIar cI r_nKf 8 f_nKf, cIar cI r_nKs 8 f_nKs, cIar cI r_nBPs 8 f_nBPs, cIar cI r_nBPt 8 f_nBPt, cIar cI r_nBPw 8 f_nBPw]) (q0 := 0) (ci := 8) (mX8_listenFromNow l D cI cJ cB cT tt r_ r_n r_k r_h r_e r_x r_q r_ea r_hP r_hA r_nB r_nT r_nS r_nK r_hPt r_hPw r_hPs r_nBP r_nBA r_nBPt r_nBPw r_nBPs hov1) [0, 1, 2, 3, 4, 5, 6, 7, 9, 10, 11, 12, 13, 16, 17, 18] [.inr 0, .inr 1, .inr 2, .inr 3, .inr 4, .inr 5, .inr 6, .inr 7, .inl 8, .inr 8, .inr 9, .inr 10, .inr 11, .inr 12, .inl 14, .inl 15, .inr 13, .inr 14, .inr 15] k_486 k_483 k_485 k_13 rfl rfl k_38 hdX8_listenFromNow (by decide) (Nat.le_of_ble_eq_true rfl) dX8_looked_1 (by decide) rfl rfl (by decide) rfl rfl ?_
  refine j_iconst X (v := 0) dX8_looked_4 (by decide) ?_
  refine j_istore_n X (lv2 := [(1, .int 0), (0, .ref r_)]) dX8_looked_5 (by decide) rfl ?_
  refine j_sub (lv2 := [(0, .ref r_), (1, .int 0)]) [1, 0] rfl ?_
  exact L_6 _ _ _ _ _ _ _ _ _ _ _ hR

def rmX8_tapeAt : Room := { frames := 0, cells := 0, slots := 0, locals := 0 }
theorem hdX8_tapeAt : yX8_tapeAt.cls ≠ "java/lang/invoke/MethodHandle" ∧ yX8_tapeAt.cls ≠ "java/lang/invoke/VarHandle" ∧ (parseMethodDescriptor yX8_tapeAt.desc).map (fun d => d.parameters.length) = some 1 := by decide +kernel
def fX8_tapeAt (i1 : Int32) (ik : Int32) (f_q : Nat → Option Nat) : Option (Option Nat) :=
  if i1 < 0 then (some none) else (if (6 : Int32) ≤ i1 then (some none) else (gd (inb i1 6) (some (f_q i1.toNatClampNeg))))
set_option maxHeartbeats 8000000 in
set_option maxRecDepth 100000 in
theorem mX8_tapeAt (l : Launch) (D : va_G) (cI cJ cB cT : ClassId) (tt : Nat → Nat) (r_ r_n r_k r_h r_e r_x r_q : Nat) {i1 : Int32} {ik : Int32} {f_q : Nat → Option Nat} {out : Option Nat} (h : fX8_tapeAt i1 ik f_q = some out) :
    jM l yX8_tapeAt (.code yX8_tapeAt cX8_tapeAt 2 (some (.object "WatchBeats$Tape"))) rmX8_tapeAt D (wTy cI cJ cB cT) tt [.ref r_, .int i1] [cWB r_ r_n r_k r_h r_e r_x r_q ik, cQar cT r_q 6 f_q] (some (va_rf out)) [cWB r_ r_n r_k r_h r_e r_x r_q ik, cQar cT r_q 6 f_q] := by
  refine jM.of (by decide) (Nat.le_of_ble_eq_true rfl) ?_
  intro p e s m below meth c A X hr
  refine j_sub (lv2 := [(0, .ref r_), (1, .int i1)]) [0, 1] rfl ?_
  have hR := h
  unfold fX8_tapeAt at hR
  refine j_iload_n X (q := 1) dX8_tapeAt_0 rfl ?_
  refine j_if_lt X (tgt := 22) dX8_tapeAt_1 (by decide) (fun cv1 => ?_) (fun cv1 => ?_)
  · replace hR := (if_pos cv1).symm.trans hR
    refine j_null X dX8_tapeAt_22 ?_
    have hR := Option.some.inj hR
    exact j_aret X hr (v := none) dX8_tapeAt_23 (by rw [← hR]) rfl
  · replace hR := (if_neg cv1).symm.trans hR
    refine j_iload_n X (q := 1) dX8_tapeAt_4 rfl ?_
    refine j_aload_n X (q := 0) dX8_tapeAt_5 rfl ?_
    refine j_get X 0 6 hiX8 k_270 dX8_tapeAt_6 rfl rfl (by decide) rfl ?_
    refine j_alen X (v := 6) 1 3 dX8_tapeAt_9 rfl rfl rfl ?_
    refine j_icmp_ge X (tgt := 22) dX8_tapeAt_10 (by decide) (fun cv2 => ?_) (fun cv2 => ?_)
    · replace hR := (if_pos cv2).symm.trans hR
      refine j_null X dX8_tapeAt_22 ?_
      have hR := Option.some.inj hR
      exact j_aret X hr (v := none) dX8_tapeAt_23 (by rw [← hR]) rfl
    · replace hR := (if_neg cv2).symm.trans hR
      refine j_aload_n X (q := 0) dX8_tapeAt_13 rfl ?_
      refine j_get X 0 6 hiX8 k_270 dX8_tapeAt_14 rfl rfl (by decide) rfl ?_
      refine j_iload_n X (q := 1) dX8_tapeAt_17 rfl ?_
      obtain ⟨gv3, hR⟩ := gd_some hR
      refine j_aldq X 1 3 dX8_tapeAt_18 rfl rfl gv3 ?_
      refine j_goto X (tgt := 23) dX8_tapeAt_19 (by decide) ?_
      have hR := Option.some.inj hR
      exact j_aret X hr (v := f_q i1.toNatClampNeg) dX8_tapeAt_23 (by rw [← hR]) rfl

def rmX8_judgement : Room := { frames := 1, cells := 0, slots := 0, locals := 21 }
theorem hdX8_judgement : yX8_judgement.cls ≠ "java/lang/invoke/MethodHandle" ∧ yX8_judgement.cls ≠ "java/lang/invoke/VarHandle" ∧ (parseMethodDescriptor yX8_judgement.desc).map (fun d => d.parameters.length) = some 2 := by decide +kernel
def fX8_judgement_2 (i2 : Int32) (ik : Int32) (so_1 : Int32) (si_1 : Int32) (n_e : Int32) (f_1i : Nat → Int64) (f_ea : Nat → Int32) : Nat → Int32 → Option (Int32)
  | 0, _ => none
  | fu + 1, x3 =>
    if n_e ≤ x3 then (some (-5)) else (if i2 < 0 then (some ((100 : Int32) + x3)) else (if (si_1 - x3) ≤ i2 then (some ((100 : Int32) + x3)) else ((fX4_has (i2 + x3) so_1 si_1 f_1i).bind fun ov4 =>
  if ov4 = 0 then (some ((100 : Int32) + x3)) else (gd (inb (i2 + x3) 60) ((fX1_beatAt x3 n_e f_ea).bind fun ov7 =>
  if (lg_cmp (f_1i (i2 + x3).toNatClampNeg) ov7.toInt64) = 0 then (lt' (x3 + 1) fun x3v9 =>
  fX8_judgement_2 i2 ik so_1 si_1 n_e f_1i f_ea fu x3v9) else (some x3))))))
def fX8_judgement (i2 : Int32) (ik : Int32) (so_1 : Int32) (si_1 : Int32) (n_e : Int32) (f_1i : Nat → Int64) (f_ea : Nat → Int32) : Option (Int32) :=
  fX8_judgement_2 i2 ik so_1 si_1 n_e f_1i f_ea 500 0
set_option maxHeartbeats 8000000 in
set_option maxRecDepth 100000 in
theorem mX8_judgement (l : Launch) (D : va_G) (cI cJ cB cT : ClassId) (tt : Nat → Nat) (r_ r_n r_k r_h r_e r_x r_q r_1 r_1i r_ea : Nat) {i2 : Int32} {ik : Int32} {so_1 : Int32} {si_1 : Int32} {n_e : Int32} {f_1i : Nat → Int64} {f_ea : Nat → Int32} {out : Int32} (h : fX8_judgement i2 ik so_1 si_1 n_e f_1i f_ea = some out) :
    jM l yX8_judgement (.code yX8_judgement cX8_judgement 4 (some .int)) rmX8_judgement D (wTy cI cJ cB cT) tt [.ref r_, .ref r_1, .int i2] [cWB r_ r_n r_k r_h r_e r_x r_q ik, cTap r_1 r_1i so_1 si_1, cHea r_e r_ea n_e, cJar cJ r_1i 60 f_1i, cIar cI r_ea 400 f_ea] (some (.int out)) [cWB r_ r_n r_k r_h r_e r_x r_q ik, cTap r_1 r_1i so_1 si_1, cHea r_e r_ea n_e, cJar cJ r_1i 60 f_1i, cIar cI r_ea 400 f_ea] := by
  refine jM.of (by decide) (Nat.le_of_ble_eq_true rfl) ?_
  intro p e s m below meth c A X hr
  have L_2 : ∀ (fuel : Nat) (x3 : Int32), fX8_judgement_2 i2 ik so_1 si_1 n_e f_1i f_ea  fuel x3 = some out → jW p l e rmX8_judgement s m ([.ref r_, .ref r_1, .int i2] : List Value).toArray below meth c D A 4 (MQ below (jQ D (some (.int out)) [cWB r_ r_n r_k r_h r_e r_x r_q ik, cTap r_1 r_1i so_1 si_1, cHea r_e r_ea n_e, cJar cJ r_1i 60 f_1i, cIar cI r_ea 400 f_ea] A) ([.ref r_, .ref r_1, .int i2] : List Value).toArray s 0 0 A) 0 0 2 [(0, .ref r_), (1, .ref r_1), (2, .int i2), (3, .int x3)] [] [cWB r_ r_n r_k r_h r_e r_x r_q ik, cTap r_1 r_1i so_1 si_1, cHea r_e r_ea n_e, cJar cJ r_1i 60 f_1i, cIar cI r_ea 400 f_ea] := by
    intro  fuel
    induction fuel with
    | zero =>
      intro x3 hR
      rw [fX8_judgement_2] at hR
      cases hR
    | succ fu ih =>
      intro x3 hR
      rw [fX8_judgement_2] at hR
      refine j_iload_n X (q := 3) dX8_judgement_2 rfl ?_
      refine j_aload_n X (q := 0) dX8_judgement_3 rfl ?_
      refine j_get X 0 4 hiX8 k_268 dX8_judgement_4 rfl rfl (by decide) rfl ?_
      refine j_get X 2 1 hiX1 k_211 dX8_judgement_7 rfl rfl (by decide) rfl ?_
      refine j_icmp_ge X (tgt := 71) dX8_judgement_10 (by decide) (fun cv1 => ?_) (fun cv1 => ?_)
      · replace hR := (if_pos cv1).symm.trans hR
        refine j_bipush X (v := (-5)) dX8_judgement_71 (by decide) ?_
        have hR := Option.some.inj hR
        exact j_iret X hr dX8_judgement_73 (by rw [← hR]) rfl
      · replace hR := (if_neg cv1).symm.trans hR
        refine j_iload_n X (q := 2) dX8_judgement_13 rfl ?_
        refine j_if_lt X (tgt := 37) dX8_judgement_14 (by decide) (fun cv2 => ?_) (fun cv2 => ?_)
        · replace hR := (if_pos cv2).symm.trans hR
          refine j_bipush X (v := 100) dX8_judgement_37 (by decide) ?_
          refine j_iload_n X (q := 3) dX8_judgement_39 rfl ?_
          refine j_iadd X dX8_judgement_40 ?_
          have hR := Option.some.inj hR
          exact j_iret X hr dX8_judgement_41 (by rw [← hR]) rfl
        · replace hR := (if_neg cv2).symm.trans hR
          refine j_iload_n X (q := 2) dX8_judgement_17 rfl ?_
          refine j_aload_n X (q := 1) dX8_judgement_18 rfl ?_
          refine j_get X 1 1 hiX4 k_254 dX8_judgement_19 rfl rfl (by decide) rfl ?_
          refine j_iload_n X (q := 3) dX8_judgement_22 rfl ?_
          refine j_isub X dX8_judgement_23 ?_
          refine j_icmp_ge X (tgt := 37) dX8_judgement_24 (by decide) (fun cv3 => ?_) (fun cv3 => ?_)
          · replace hR := (if_pos cv3).symm.trans hR
            refine j_bipush X (v := 100) dX8_judgement_37 (by decide) ?_
            refine j_iload_n X (q := 3) dX8_judgement_39 rfl ?_
            refine j_iadd X dX8_judgement_40 ?_
            have hR := Option.some.inj hR
            exact j_iret X hr dX8_judgement_41 (by rw [← hR]) rfl
          · replace hR := (if_neg cv3).symm.trans hR
            refine j_aload_n X (q := 1) dX8_judgement_27 rfl ?_
            refine j_iload_n X (q := 2) dX8_judgement_28 rfl ?_
            refine j_iload_n X (q := 3) dX8_judgement_29 rfl ?_
            refine j_iadd X dX8_judgement_30 ?_
            obtain ⟨ov4, hov4, hR⟩ := bd_some hR
            refine j_callV X (As := [.int (i2 + x3)]) (rest := []) (ws2 := [cWB r_ r_n r_k r_h r_e r_x r_q ik, cTap r_1 r_1i so_1 si_1, cHea r_e r_ea n_e, cJar cJ r_1i 60 f_1i, cIar cI r_ea 400 f_ea]) (q0 := 1) (ci := 4) (mX4_has l D cI cJ cB cT tt r_1 r_1i hov4) [1, 3] [.inl 0, .inr 0, .inl 2, .inr 1, .inl 4] k_602 k_599 k_600 k_601 rfl rfl k_46 hdX4_has (by decide) (Nat.le_of_ble_eq_true rfl) dX8_judgement_31 (by decide) rfl rfl (by decide) rfl rfl ?_
            refine j_if_ne X (tgt := 42) dX8_judgement_34 (by decide) (fun cv5 => ?_) (fun cv5 => ?_)
            · replace hR := (if_neg cv5).symm.trans hR
              refine j_aload_n X (q := 1) dX8_judgement_42 rfl ?_
              refine j_get X 1 2 hiX4 k_256 dX8_judgement_43 rfl rfl (by decide) rfl ?_
              refine j_iload_n X (q := 2) dX8_judgement_46 rfl ?_
              refine j_iload_n X (q := 3) dX8_judgement_47 rfl ?_
              refine j_iadd X dX8_judgement_48 ?_
              obtain ⟨gv6, hR⟩ := gd_some hR
              refine j_lald X 3 1 rfl dX8_judgement_49 rfl rfl gv6 ?_
              refine j_aload_n X (q := 0) dX8_judgement_50 rfl ?_
              refine j_get X 0 4 hiX8 k_268 dX8_judgement_51 rfl rfl (by decide) rfl ?_
              refine j_iload_n X (q := 3) dX8_judgement_54 rfl ?_
              obtain ⟨ov7, hov7, hR⟩ := bd_some hR
              refine j_callV X (As := [.int x3]) (rest := [.long (f_1i (i2 + x3).toNatClampNeg)]) (ws2 := [cWB r_ r_n r_k r_h r_e r_x r_q ik, cTap r_1 r_1i so_1 si_1, cHea r_e r_ea n_e, cJar cJ r_1i 60 f_1i, cIar cI r_ea 400 f_ea]) (q0 := 2) (ci := 1) (mX1_beatAt l D cI cJ cB cT tt r_e r_ea hov7) [2, 4] [.inl 0, .inl 1, .inr 0, .inl 3, .inr 1] k_495 k_492 k_493 k_494 rfl rfl k_44 hdX1_beatAt (by decide) (Nat.le_of_ble_eq_true rfl) dX8_judgement_55 (by decide) rfl rfl (by decide) rfl rfl ?_
              refine j_i2l X dX8_judgement_58 ?_
              refine j_lcmp X dX8_judgement_59 ?_
              refine j_if_eq X (tgt := 65) dX8_judgement_60 (by decide) (fun cv8 => ?_) (fun cv8 => ?_)
              · replace hR := (if_pos cv8).symm.trans hR
                obtain ⟨x3v9, ex3v9, hR⟩ := lt_some hR
                refine j_iinc X (k := 3) (v := x3v9) (lv2 := [(3, .int x3v9), (0, .ref r_), (1, .ref r_1), (2, .int i2)]) dX8_judgement_65 rfl (by rw [← ex3v9]; rfl) (by decide) rfl ?_
                refine j_goto X (tgt := 2) dX8_judgement_68 (by decide) ?_
                refine j_sub (lv2 := [(0, .ref r_), (1, .ref r_1), (2, .int i2), (3, .int x3v9)]) [1, 2, 3, 0] rfl ?_
                exact ih _ hR
              · replace hR := (if_neg cv8).symm.trans hR
                refine j_iload_n X (q := 3) dX8_judgement_63 rfl ?_
                have hR := Option.some.inj hR
                exact j_iret X hr dX8_judgement_64 (by rw [← hR]) rfl
            · replace hR := (if_pos cv5).symm.trans hR
              refine j_bipush X (v := 100) dX8_judgement_37 (by decide) ?_
              refine j_iload_n X (q := 3) dX8_judgement_39 rfl ?_
              refine j_iadd X dX8_judgement_40 ?_
              have hR := Option.some.inj hR
              exact j_iret X hr dX8_judgement_41 (by rw [← hR]) rfl
  refine j_sub (lv2 := [(0, .ref r_), (1, .ref r_1), (2, .int i2)]) [0, 1, 2] rfl ?_
  have hR := h
  unfold fX8_judgement at hR
  refine j_iconst X (v := 0) dX8_judgement_0 (by decide) ?_
  refine j_istore_n X (lv2 := [(3, .int 0), (0, .ref r_), (1, .ref r_1), (2, .int i2)]) dX8_judgement_1 (by decide) rfl ?_
  refine j_sub (lv2 := [(0, .ref r_), (1, .ref r_1), (2, .int i2), (3, .int 0)]) [1, 2, 3, 0] rfl ?_
  exact L_2 _ _ hR

def rmX8_judge : Room := { frames := 6, cells := 0, slots := 0, locals := 122 }
theorem hdX8_judge : yX8_judge.cls ≠ "java/lang/invoke/MethodHandle" ∧ yX8_judge.cls ≠ "java/lang/invoke/VarHandle" ∧ (parseMethodDescriptor yX8_judge.desc).map (fun d => d.parameters.length) = some 2 := by decide +kernel
def fX8_judge (r_p : Nat) (i1 : Int32) (i2 : Int32) (ik : Int32) (n_e : Int32) (b_h : Nat → Int32) (se_h : Int64) (z_h : Int32) (so_p : Int32) (si_p : Int32) (f_q : Nat → Option Nat) (f_ea : Nat → Int32) (f_hA : Nat → Int64) (k_hP : Int32) (b_nB : Nat → Int32) (se_nB : Int64) (z_nB : Int32) (f_pi : Nat → Int64) (f_hPs : Nat → Int32) (f_hPt : Nat → Int32) (f_hPw : Nat → Int32) (f_nBA : Nat → Int64) (k_nBP : Int32) (f_nBPs : Nat → Int32) (f_nBPt : Nat → Int32) (f_nBPw : Nat → Int32) : Option (Int32 × Int32 × (Nat → Int32) × Int64 × (Nat → Int32) × (Nat → Int64) × Int32 × (Nat → Int32) × (Nat → Int32) × (Nat → Int32)) :=
  (fX8_tapeAt i1 ik f_q).bind fun ov1 =>
  oq ov1 (some ((-1), n_e, b_h, se_h, f_ea, f_hA, k_hP, f_hPs, f_hPt, f_hPw)) r_p (if so_p = 1 then ((fX8_listenFromNow ik n_e b_h se_h z_h f_ea f_hA k_hP b_nB se_nB z_nB f_hPs f_hPt f_hPw f_nBA k_nBP f_nBPs f_nBPt f_nBPw).bind fun ov4 =>
  (fX8_judgement i2 ik so_p si_p ov4.1 f_pi ov4.2.2.2.1).bind fun ov5 =>
  some (ov5, ov4.1, ov4.2.1, ov4.2.2.1, ov4.2.2.2.1, ov4.2.2.2.2.1, ov4.2.2.2.2.2.1, ov4.2.2.2.2.2.2.1, ov4.2.2.2.2.2.2.2.1, ov4.2.2.2.2.2.2.2.2)) else (if so_p = (-1) then ((fX8_listenFromNow ik n_e b_h se_h z_h f_ea f_hA k_hP b_nB se_nB z_nB f_hPs f_hPt f_hPw f_nBA k_nBP f_nBPs f_nBPt f_nBPw).bind fun ov7 =>
  (fX8_judgement i2 ik so_p si_p ov7.1 f_pi ov7.2.2.2.1).bind fun ov8 =>
  some (ov8, ov7.1, ov7.2.1, ov7.2.2.1, ov7.2.2.2.1, ov7.2.2.2.2.1, ov7.2.2.2.2.2.1, ov7.2.2.2.2.2.2.1, ov7.2.2.2.2.2.2.2.1, ov7.2.2.2.2.2.2.2.2)) else (some ((-12), n_e, b_h, se_h, f_ea, f_hA, k_hP, f_hPs, f_hPt, f_hPw))))
set_option maxHeartbeats 8000000 in
set_option maxRecDepth 100000 in
theorem mX8_judge (l : Launch) (D : va_G) (cI cJ cB cT : ClassId) (tt : Nat → Nat) (r_ r_n r_k r_h r_e r_x r_q r_ea r_hP r_hA r_nB r_nT r_nS r_nK r_p r_pi r_hPt r_hPw r_hPs r_nBP r_nBA r_nBPt r_nBPw r_nBPs : Nat) {i1 : Int32} {i2 : Int32} {ik : Int32} {n_e : Int32} {b_h : Nat → Int32} {se_h : Int64} {z_h : Int32} {so_p : Int32} {si_p : Int32} {f_q : Nat → Option Nat} {f_ea : Nat → Int32} {f_hA : Nat → Int64} {k_hP : Int32} {b_nB : Nat → Int32} {se_nB : Int64} {z_nB : Int32} {f_pi : Nat → Int64} {f_hPs : Nat → Int32} {f_hPt : Nat → Int32} {f_hPw : Nat → Int32} {f_nBA : Nat → Int64} {k_nBP : Int32} {f_nBPs : Nat → Int32} {f_nBPt : Nat → Int32} {f_nBPw : Nat → Int32} {out : Int32 × Int32 × (Nat → Int32) × Int64 × (Nat → Int32) × (Nat → Int64) × Int32 × (Nat → Int32) × (Nat → Int32) × (Nat → Int32)} (h : fX8_judge r_p i1 i2 ik n_e b_h se_h z_h so_p si_p f_q f_ea f_hA k_hP b_nB se_nB z_nB f_pi f_hPs f_hPt f_hPw f_nBA k_nBP f_nBPs f_nBPt f_nBPw = some out) :
    jM l yX8_judge (.code yX8_judge cX8_judge 4 (some .int)) rmX8_judge D (wTy cI cJ cB cT) tt [.ref r_, .int i1, .int i2] [cWB r_ r_n r_k r_h r_e r_x r_q ik, cHea r_e r_ea n_e, cBal r_h r_hP r_hA b_h se_h z_h, cWho r_n r_nB r_nT r_nS r_nK, cTap r_p r_pi so_p si_p, cQar cT r_q 6 f_q, cIar cI r_ea 400 f_ea, cJar cJ r_hA 4 f_hA, cPus r_hP r_hPt r_hPw r_hPs k_hP, cBal r_nB r_nBP r_nBA b_nB se_nB z_nB, cJar cJ r_pi 60 f_pi, cIar cI r_hPs 8 f_hPs, cIar cI r_hPt 8 f_hPt, cIar cI r_hPw 8 f_hPw, cJar cJ r_nBA 4 f_nBA, cPus r_nBP r_nBPt r_nBPw r_nBPs k_nBP, cIar cI r_nBPs 8 f_nBPs, cIar cI r_nBPt 8 f_nBPt, cIar cI r_nBPw 8 f_nBPw] (some (.int out.1)) [cWB r_ r_n r_k r_h r_e r_x r_q ik, cHea r_e r_ea out.2.1, cBal r_h r_hP r_hA out.2.2.1 out.2.2.2.1 z_h, cWho r_n r_nB r_nT r_nS r_nK, cTap r_p r_pi so_p si_p, cQar cT r_q 6 f_q, cIar cI r_ea 400 out.2.2.2.2.1, cJar cJ r_hA 4 out.2.2.2.2.2.1, cPus r_hP r_hPt r_hPw r_hPs out.2.2.2.2.2.2.1, cBal r_nB r_nBP r_nBA b_nB se_nB z_nB, cJar cJ r_pi 60 f_pi, cIar cI r_hPs 8 out.2.2.2.2.2.2.2.1, cIar cI r_hPt 8 out.2.2.2.2.2.2.2.2.1, cIar cI r_hPw 8 out.2.2.2.2.2.2.2.2.2, cJar cJ r_nBA 4 f_nBA, cPus r_nBP r_nBPt r_nBPw r_nBPs k_nBP, cIar cI r_nBPs 8 f_nBPs, cIar cI r_nBPt 8 f_nBPt, cIar cI r_nBPw 8 f_nBPw] := by
  refine jM.of (by decide) (Nat.le_of_ble_eq_true rfl) ?_
  intro p e s m below meth c A X hr
  refine j_sub (lv2 := [(0, .ref r_), (1, .int i1), (2, .int i2)]) [0, 1, 2] rfl ?_
  have hR := h
  unfold fX8_judge at hR
  refine j_aload_n X (q := 0) dX8_judge_0 rfl ?_
  refine j_iload_n X (q := 1) dX8_judge_1 rfl ?_
  obtain ⟨ov1, hov1, hR⟩ := bd_some hR
  refine j_callV X (As := [.int i1]) (rest := []) (ws2 := [cWB r_ r_n r_k r_h r_e r_x r_q ik, cHea r_e r_ea n_e, cBal r_h r_hP r_hA b_h se_h z_h, cWho r_n r_nB r_nT r_nS r_nK, cTap r_p r_pi so_p si_p, cQar cT r_q 6 f_q, cIar cI r_ea 400 f_ea, cJar cJ r_hA 4 f_hA, cPus r_hP r_hPt r_hPw r_hPs k_hP, cBal r_nB r_nBP r_nBA b_nB se_nB z_nB, cJar cJ r_pi 60 f_pi, cIar cI r_hPs 8 f_hPs, cIar cI r_hPt 8 f_hPt, cIar cI r_hPw 8 f_hPw, cJar cJ r_nBA 4 f_nBA, cPus r_nBP r_nBPt r_nBPw r_nBPs k_nBP, cIar cI r_nBPs 8 f_nBPs, cIar cI r_nBPt 8 f_nBPt, cIar cI r_nBPw 8 f_nBPw]) (q0 := 0) (ci := 8) (mX8_tapeAt l D cI cJ cB cT tt r_ r_n r_k r_h r_e r_x r_q hov1) [0, 5] [.inr 0, .inl 1, .inl 2, .inl 3, .inl 4, .inr 1, .inl 6, .inl 7, .inl 8, .inl 9, .inl 10, .inl 11, .inl 12, .inl 13, .inl 14, .inl 15, .inl 16, .inl 17, .inl 18] k_594 k_591 k_593 k_18 rfl rfl k_38 hdX8_tapeAt (by decide) (Nat.le_of_ble_eq_true rfl) dX8_judge_2 (by decide) rfl rfl (by decide) rfl rfl ?_
  rcases oq_some hR with ⟨qv2, hR⟩ | ⟨qv2, hR⟩
  · refine j_eq (congrArg (fun z => va_rf z :: _) qv2) rfl ?_
    refine j_astore_nN X (lv2 := [(3, .null), (0, .ref r_), (1, .int i1), (2, .int i2)]) dX8_judge_5 (by decide) rfl ?_
    refine j_aload_nN X (q := 0) dX8_judge_6 rfl ?_
    refine j_ifnonnullN X dX8_judge_7 ?_
    refine j_iconst X (v := (-1)) dX8_judge_10 (by decide) ?_
    have hR := Option.some.inj hR
    exact j_iret X hr dX8_judge_11 (by rw [← hR]) (by rw [← hR])
  · refine j_eq (congrArg (fun z => va_rf z :: _) qv2) rfl ?_
    refine j_astore_n X (lv2 := [(3, .ref r_p), (0, .ref r_), (1, .int i1), (2, .int i2)]) dX8_judge_5 (by decide) rfl ?_
    refine j_aload_n X (q := 0) dX8_judge_6 rfl ?_
    refine j_ifnonnull X (tgt := 12) dX8_judge_7 (by decide) ?_
    refine j_aload_n X (q := 0) dX8_judge_12 rfl ?_
    refine j_get X 4 0 hiX4 k_252 dX8_judge_13 rfl rfl (by decide) rfl ?_
    refine j_iconst X (v := 1) dX8_judge_16 (by decide) ?_
    refine j_icmp_eq X (tgt := 31) dX8_judge_17 (by decide) (fun cv3 => ?_) (fun cv3 => ?_)
    · replace hR := (if_pos cv3).symm.trans hR
      refine j_aload_n X (q := 1) dX8_judge_31 rfl ?_
      obtain ⟨ov4, hov4, hR⟩ := bd_some hR
      refine j_callV X (As := []) (rest := []) (ws2 := [cWB r_ r_n r_k r_h r_e r_x r_q ik, cHea r_e r_ea ov4.1, cBal r_h r_hP r_hA ov4.2.1 ov4.2.2.1 z_h, cWho r_n r_nB r_nT r_nS r_nK, cTap r_p r_pi so_p si_p, cQar cT r_q 6 f_q, cIar cI r_ea 400 ov4.2.2.2.1, cJar cJ r_hA 4 ov4.2.2.2.2.1, cPus r_hP r_hPt r_hPw r_hPs ov4.2.2.2.2.2.1, cBal r_nB r_nBP r_nBA b_nB se_nB z_nB, cJar cJ r_pi 60 f_pi, cIar cI r_hPs 8 ov4.2.2.2.2.2.2.1, cIar cI r_hPt 8 ov4.2.2.2.2.2.2.2.1, cIar cI r_hPw 8 ov4.2.2.2.2.2.2.2.2, cJar cJ r_nBA 4 f_nBA, cPus r_nBP r_nBPt r_nBPw r_nBPs k_nBP, cIar cI r_nBPs 8 f_nBPs, cIar cI r_nBPt 8 f_nBPt, cIar cI r_nBPw 8 f_nBPw]) (q0 := 0) (ci := 8) (mX8_listenFromNow l D cI cJ cB cT tt r_ r_n r_k r_h r_e r_x r_q r_ea r_hP r_hA r_nB r_nT r_nS r_nK r_hPt r_hPw r_hPs r_nBP r_nBA r_nBPt r_nBPw r_nBPs hov4) [0, 1, 2, 3, 6, 7, 8, 9, 11, 12, 13, 14, 15, 16, 17, 18] [.inr 0, .inr 1, .inr 2, .inr 3, .inl 4, .inl 5, .inr 4, .inr 5, .inr 6, .inr 7, .inl 10, .inr 8, .inr 9, .inr 10, .inr 11, .inr 12, .inr 13, .inr 14, .inr 15] k_486 k_483 k_485 k_13 rfl rfl k_38 hdX8_listenFromNow (by decide) (Nat.le_of_ble_eq_true rfl) dX8_judge_32 (by decide) rfl rfl (by decide) rfl rfl ?_
      refine j_aload_n X (q := 1) dX8_judge_35 rfl ?_
      refine j_aload_n X (q := 0) dX8_judge_36 rfl ?_
      refine j_iload_n X (q := 3) dX8_judge_37 rfl ?_
      obtain ⟨ov5, hov5, hR⟩ := bd_some hR
      refine j_callV X (As := [.ref r_p, .int i2]) (rest := []) (ws2 := [cWB r_ r_n r_k r_h r_e r_x r_q ik, cHea r_e r_ea ov4.1, cBal r_h r_hP r_hA ov4.2.1 ov4.2.2.1 z_h, cWho r_n r_nB r_nT r_nS r_nK, cTap r_p r_pi so_p si_p, cQar cT r_q 6 f_q, cIar cI r_ea 400 ov4.2.2.2.1, cJar cJ r_hA 4 ov4.2.2.2.2.1, cPus r_hP r_hPt r_hPw r_hPs ov4.2.2.2.2.2.1, cBal r_nB r_nBP r_nBA b_nB se_nB z_nB, cJar cJ r_pi 60 f_pi, cIar cI r_hPs 8 ov4.2.2.2.2.2.2.1, cIar cI r_hPt 8 ov4.2.2.2.2.2.2.2.1, cIar cI r_hPw 8 ov4.2.2.2.2.2.2.2.2, cJar cJ r_nBA 4 f_nBA, cPus r_nBP r_nBPt r_nBPw r_nBPs k_nBP, cIar cI r_nBPs 8 f_nBPs, cIar cI r_nBPt 8 f_nBPt, cIar cI r_nBPw 8 f_nBPw]) (q0 := 0) (ci := 8) (mX8_judgement l D cI cJ cB cT tt r_ r_n r_k r_h r_e r_x r_q r_p r_pi r_ea hov5) [0, 4, 1, 10, 6] [.inr 0, .inr 2, .inl 2, .inl 3, .inr 1, .inl 5, .inr 4, .inl 7, .inl 8, .inl 9, .inr 3, .inl 11, .inl 12, .inl 13, .inl 14, .inl 15, .inl 16, .inl 17, .inl 18] k_598 k_595 k_597 k_19 rfl rfl k_38 hdX8_judgement (by decide) (Nat.le_of_ble_eq_true rfl) dX8_judge_38 (by decide) rfl rfl (by decide) rfl rfl ?_
      have hR := Option.some.inj hR
      exact j_iret X hr dX8_judge_41 (by rw [← hR]) (by rw [← hR])
    · replace hR := (if_neg cv3).symm.trans hR
      refine j_aload_n X (q := 0) dX8_judge_20 rfl ?_
      refine j_get X 4 0 hiX4 k_252 dX8_judge_21 rfl rfl (by decide) rfl ?_
      refine j_iconst X (v := (-1)) dX8_judge_24 (by decide) ?_
      refine j_icmp_eq X (tgt := 31) dX8_judge_25 (by decide) (fun cv6 => ?_) (fun cv6 => ?_)
      · replace hR := (if_pos cv6).symm.trans hR
        refine j_aload_n X (q := 1) dX8_judge_31 rfl ?_
        obtain ⟨ov7, hov7, hR⟩ := bd_some hR
        refine j_callV X (As := []) (rest := []) (ws2 := [cWB r_ r_n r_k r_h r_e r_x r_q ik, cHea r_e r_ea ov7.1, cBal r_h r_hP r_hA ov7.2.1 ov7.2.2.1 z_h, cWho r_n r_nB r_nT r_nS r_nK, cTap r_p r_pi so_p si_p, cQar cT r_q 6 f_q, cIar cI r_ea 400 ov7.2.2.2.1, cJar cJ r_hA 4 ov7.2.2.2.2.1, cPus r_hP r_hPt r_hPw r_hPs ov7.2.2.2.2.2.1, cBal r_nB r_nBP r_nBA b_nB se_nB z_nB, cJar cJ r_pi 60 f_pi, cIar cI r_hPs 8 ov7.2.2.2.2.2.2.1, cIar cI r_hPt 8 ov7.2.2.2.2.2.2.2.1, cIar cI r_hPw 8 ov7.2.2.2.2.2.2.2.2, cJar cJ r_nBA 4 f_nBA, cPus r_nBP r_nBPt r_nBPw r_nBPs k_nBP, cIar cI r_nBPs 8 f_nBPs, cIar cI r_nBPt 8 f_nBPt, cIar cI r_nBPw 8 f_nBPw]) (q0 := 0) (ci := 8) (mX8_listenFromNow l D cI cJ cB cT tt r_ r_n r_k r_h r_e r_x r_q r_ea r_hP r_hA r_nB r_nT r_nS r_nK r_hPt r_hPw r_hPs r_nBP r_nBA r_nBPt r_nBPw r_nBPs hov7) [0, 1, 2, 3, 6, 7, 8, 9, 11, 12, 13, 14, 15, 16, 17, 18] [.inr 0, .inr 1, .inr 2, .inr 3, .inl 4, .inl 5, .inr 4, .inr 5, .inr 6, .inr 7, .inl 10, .inr 8, .inr 9, .inr 10, .inr 11, .inr 12, .inr 13, .inr 14, .inr 15] k_486 k_483 k_485 k_13 rfl rfl k_38 hdX8_listenFromNow (by decide) (Nat.le_of_ble_eq_true rfl) dX8_judge_32 (by decide) rfl rfl (by decide) rfl rfl ?_
        refine j_aload_n X (q := 1) dX8_judge_35 rfl ?_
        refine j_aload_n X (q := 0) dX8_judge_36 rfl ?_
        refine j_iload_n X (q := 3) dX8_judge_37 rfl ?_
        obtain ⟨ov8, hov8, hR⟩ := bd_some hR
        refine j_callV X (As := [.ref r_p, .int i2]) (rest := []) (ws2 := [cWB r_ r_n r_k r_h r_e r_x r_q ik, cHea r_e r_ea ov7.1, cBal r_h r_hP r_hA ov7.2.1 ov7.2.2.1 z_h, cWho r_n r_nB r_nT r_nS r_nK, cTap r_p r_pi so_p si_p, cQar cT r_q 6 f_q, cIar cI r_ea 400 ov7.2.2.2.1, cJar cJ r_hA 4 ov7.2.2.2.2.1, cPus r_hP r_hPt r_hPw r_hPs ov7.2.2.2.2.2.1, cBal r_nB r_nBP r_nBA b_nB se_nB z_nB, cJar cJ r_pi 60 f_pi, cIar cI r_hPs 8 ov7.2.2.2.2.2.2.1, cIar cI r_hPt 8 ov7.2.2.2.2.2.2.2.1, cIar cI r_hPw 8 ov7.2.2.2.2.2.2.2.2, cJar cJ r_nBA 4 f_nBA, cPus r_nBP r_nBPt r_nBPw r_nBPs k_nBP, cIar cI r_nBPs 8 f_nBPs, cIar cI r_nBPt 8 f_nBPt, cIar cI r_nBPw 8 f_nBPw]) (q0 := 0) (ci := 8) (mX8_judgement l D cI cJ cB cT tt r_ r_n r_k r_h r_e r_x r_q r_p r_pi r_ea hov8) [0, 4, 1, 10, 6] [.inr 0, .inr 2, .inl 2, .inl 3, .inr 1, .inl 5, .inr 4, .inl 7, .inl 8, .inl 9, .inr 3, .inl 11, .inl 12, .inl 13, .inl 14, .inl 15, .inl 16, .inl 17, .inl 18] k_598 k_595 k_597 k_19 rfl rfl k_38 hdX8_judgement (by decide) (Nat.le_of_ble_eq_true rfl) dX8_judge_38 (by decide) rfl rfl (by decide) rfl rfl ?_
        have hR := Option.some.inj hR
        exact j_iret X hr dX8_judge_41 (by rw [← hR]) (by rw [← hR])
      · replace hR := (if_neg cv6).symm.trans hR
        refine j_bipush X (v := (-12)) dX8_judge_28 (by decide) ?_
        have hR := Option.some.inj hR
        exact j_iret X hr dX8_judge_30 (by rw [← hR]) (by rw [← hR])

def rmX8_image : Room := { frames := 3, cells := 0, slots := 0, locals := 65 }
theorem hdX8_image : yX8_image.cls ≠ "java/lang/invoke/MethodHandle" ∧ yX8_image.cls ≠ "java/lang/invoke/VarHandle" ∧ (parseMethodDescriptor yX8_image.desc).map (fun d => d.parameters.length) = some 0 := by decide +kernel
def fX8_image (ik : Int32) (b_kB : Nat → Int32) (se_kB : Int64) (z_kB : Int32) (k_kK : Int32) (k_kS : Int32) (k_kT : Int32) (b_nB : Nat → Int32) (se_nB : Int64) (z_nB : Int32) (k_nK : Int32) (k_nS : Int32) (k_nT : Int32) (f_kBA : Nat → Int64) (k_kBP : Int32) (f_kKf : Nat → Int32) (f_kKs : Nat → Int32) (f_kSf : Nat → Int32) (f_kSs : Nat → Int32) (f_kTf : Nat → Int32) (f_nBA : Nat → Int64) (k_nBP : Int32) (f_nKf : Nat → Int32) (f_nKs : Nat → Int32) (f_nSf : Nat → Int32) (f_nSs : Nat → Int32) (f_nTf : Nat → Int32) (f_kBPs : Nat → Int32) (f_kBPt : Nat → Int32) (f_kBPw : Nat → Int32) (f_nBPs : Nat → Int32) (f_nBPt : Nat → Int32) (f_nBPw : Nat → Int32) : Option (Int32 × Int32 × (Nat → Int32) × Int64 × Int32 × Int32 × Int32 × (Nat → Int64) × Int32 × (Nat → Int32) × (Nat → Int32) × (Nat → Int32) × (Nat → Int32) × (Nat → Int32) × (Nat → Int32) × (Nat → Int32) × (Nat → Int32)) :=
  (fX7_copy b_kB se_kB z_kB k_kK k_kS k_kT b_nB se_nB z_nB k_nK k_nS k_nT f_kBA k_kBP f_kKf f_kKs f_kSf f_kSs f_kTf f_nBA k_nBP f_nKf f_nKs f_nSf f_nSs f_nTf f_kBPs f_kBPt f_kBPw f_nBPs f_nBPt f_nBPw).bind fun ov1 =>
  some (b_nB 9, 1, ov1.1, ov1.2.1, ov1.2.2.1, ov1.2.2.2.1, ov1.2.2.2.2.1, ov1.2.2.2.2.2.1, ov1.2.2.2.2.2.2.1, ov1.2.2.2.2.2.2.2.1, ov1.2.2.2.2.2.2.2.2.1, ov1.2.2.2.2.2.2.2.2.2.1, ov1.2.2.2.2.2.2.2.2.2.2.1, ov1.2.2.2.2.2.2.2.2.2.2.2.1, ov1.2.2.2.2.2.2.2.2.2.2.2.2.1, ov1.2.2.2.2.2.2.2.2.2.2.2.2.2.1, ov1.2.2.2.2.2.2.2.2.2.2.2.2.2.2)
set_option maxHeartbeats 8000000 in
set_option maxRecDepth 100000 in
theorem mX8_image (l : Launch) (D : va_G) (cI cJ cB cT : ClassId) (tt : Nat → Nat) (r_ r_n r_k r_h r_e r_x r_q r_kB r_kT r_kS r_kK r_nB r_nT r_nS r_nK r_kBP r_kBA r_kKf r_kKs r_kSf r_kSs r_kTf r_nBP r_nBA r_nKf r_nKs r_nSf r_nSs r_nTf r_kBPt r_kBPw r_kBPs r_nBPt r_nBPw r_nBPs : Nat)  {ik : Int32} {b_kB : Nat → Int32} {se_kB : Int64} {z_kB : Int32} {k_kK : Int32} {k_kS : Int32} {k_kT : Int32} {b_nB : Nat → Int32} {se_nB : Int64} {z_nB : Int32} {k_nK : Int32} {k_nS : Int32} {k_nT : Int32} {f_kBA : Nat → Int64} {k_kBP : Int32} {f_kKf : Nat → Int32} {f_kKs : Nat → Int32} {f_kSf : Nat → Int32} {f_kSs : Nat → Int32} {f_kTf : Nat → Int32} {f_nBA : Nat → Int64} {k_nBP : Int32} {f_nKf : Nat → Int32} {f_nKs : Nat → Int32} {f_nSf : Nat → Int32} {f_nSs : Nat → Int32} {f_nTf : Nat → Int32} {f_kBPs : Nat → Int32} {f_kBPt : Nat → Int32} {f_kBPw : Nat → Int32} {f_nBPs : Nat → Int32} {f_nBPt : Nat → Int32} {f_nBPw : Nat → Int32} {out : Int32 × Int32 × (Nat → Int32) × Int64 × Int32 × Int32 × Int32 × (Nat → Int64) × Int32 × (Nat → Int32) × (Nat → Int32) × (Nat → Int32) × (Nat → Int32) × (Nat → Int32) × (Nat → Int32) × (Nat → Int32) × (Nat → Int32)} (h : fX8_image ik b_kB se_kB z_kB k_kK k_kS k_kT b_nB se_nB z_nB k_nK k_nS k_nT f_kBA k_kBP f_kKf f_kKs f_kSf f_kSs f_kTf f_nBA k_nBP f_nKf f_nKs f_nSf f_nSs f_nTf f_kBPs f_kBPt f_kBPw f_nBPs f_nBPt f_nBPw = some out) :
    jM l yX8_image (.code yX8_image cX8_image 1 (some .int)) rmX8_image D (wTy cI cJ cB cT) tt [.ref r_] [cWB r_ r_n r_k r_h r_e r_x r_q ik, cWho r_k r_kB r_kT r_kS r_kK, cWho r_n r_nB r_nT r_nS r_nK, cBal r_kB r_kBP r_kBA b_kB se_kB z_kB, cRow r_kK r_kKf r_kKs k_kK, cRow r_kS r_kSf r_kSs k_kS, cTra r_kT r_kTf k_kT, cBal r_nB r_nBP r_nBA b_nB se_nB z_nB, cRow r_nK r_nKf r_nKs k_nK, cRow r_nS r_nSf r_nSs k_nS, cTra r_nT r_nTf k_nT, cJar cJ r_kBA 4 f_kBA, cPus r_kBP r_kBPt r_kBPw r_kBPs k_kBP, cIar cI r_kKf 8 f_kKf, cIar cI r_kKs 8 f_kKs, cIar cI r_kSf 8 f_kSf, cIar cI r_kSs 8 f_kSs, cIar cI r_kTf 4 f_kTf, cJar cJ r_nBA 4 f_nBA, cPus r_nBP r_nBPt r_nBPw r_nBPs k_nBP, cIar cI r_nKf 8 f_nKf, cIar cI r_nKs 8 f_nKs, cIar cI r_nSf 8 f_nSf, cIar cI r_nSs 8 f_nSs, cIar cI r_nTf 4 f_nTf, cIar cI r_kBPs 8 f_kBPs, cIar cI r_kBPt 8 f_kBPt, cIar cI r_kBPw 8 f_kBPw, cIar cI r_nBPs 8 f_nBPs, cIar cI r_nBPt 8 f_nBPt, cIar cI r_nBPw 8 f_nBPw] (some (.int out.1)) [cWB r_ r_n r_k r_h r_e r_x r_q out.2.1, cWho r_k r_kB r_kT r_kS r_kK, cWho r_n r_nB r_nT r_nS r_nK, cBal r_kB r_kBP r_kBA out.2.2.1 out.2.2.2.1 z_kB, cRow r_kK r_kKf r_kKs out.2.2.2.2.1, cRow r_kS r_kSf r_kSs out.2.2.2.2.2.1, cTra r_kT r_kTf out.2.2.2.2.2.2.1, cBal r_nB r_nBP r_nBA b_nB se_nB z_nB, cRow r_nK r_nKf r_nKs k_nK, cRow r_nS r_nSf r_nSs k_nS, cTra r_nT r_nTf k_nT, cJar cJ r_kBA 4 out.2.2.2.2.2.2.2.1, cPus r_kBP r_kBPt r_kBPw r_kBPs out.2.2.2.2.2.2.2.2.1, cIar cI r_kKf 8 out.2.2.2.2.2.2.2.2.2.1, cIar cI r_kKs 8 out.2.2.2.2.2.2.2.2.2.2.1, cIar cI r_kSf 8 out.2.2.2.2.2.2.2.2.2.2.2.1, cIar cI r_kSs 8 out.2.2.2.2.2.2.2.2.2.2.2.2.1, cIar cI r_kTf 4 out.2.2.2.2.2.2.2.2.2.2.2.2.2.1, cJar cJ r_nBA 4 f_nBA, cPus r_nBP r_nBPt r_nBPw r_nBPs k_nBP, cIar cI r_nKf 8 f_nKf, cIar cI r_nKs 8 f_nKs, cIar cI r_nSf 8 f_nSf, cIar cI r_nSs 8 f_nSs, cIar cI r_nTf 4 f_nTf, cIar cI r_kBPs 8 out.2.2.2.2.2.2.2.2.2.2.2.2.2.2.1, cIar cI r_kBPt 8 out.2.2.2.2.2.2.2.2.2.2.2.2.2.2.2.1, cIar cI r_kBPw 8 out.2.2.2.2.2.2.2.2.2.2.2.2.2.2.2.2, cIar cI r_nBPs 8 f_nBPs, cIar cI r_nBPt 8 f_nBPt, cIar cI r_nBPw 8 f_nBPw] := by
  refine jM.of (by decide) (Nat.le_of_ble_eq_true rfl) ?_
  intro p e s m below meth c A X hr
  refine j_sub (lv2 := [(0, .ref r_)]) [0] rfl ?_
  have hR := h
  unfold fX8_image at hR
  refine j_aload_n X (q := 0) dX8_image_0 rfl ?_
  refine j_get X 0 1 hiX8 k_265 dX8_image_1 rfl rfl (by decide) rfl ?_
  refine j_aload_n X (q := 0) dX8_image_4 rfl ?_
  refine j_get X 0 0 hiX8 k_264 dX8_image_5 rfl rfl (by decide) rfl ?_
  obtain ⟨ov1, hov1, hR⟩ := bd_some hR
  refine j_callV X (As := [.ref r_n]) (rest := []) (ws2 := [cWB r_ r_n r_k r_h r_e r_x r_q ik, cWho r_k r_kB r_kT r_kS r_kK, cWho r_n r_nB r_nT r_nS r_nK, cBal r_kB r_kBP r_kBA ov1.1 ov1.2.1 z_kB, cRow r_kK r_kKf r_kKs ov1.2.2.1, cRow r_kS r_kSf r_kSs ov1.2.2.2.1, cTra r_kT r_kTf ov1.2.2.2.2.1, cBal r_nB r_nBP r_nBA b_nB se_nB z_nB, cRow r_nK r_nKf r_nKs k_nK, cRow r_nS r_nSf r_nSs k_nS, cTra r_nT r_nTf k_nT, cJar cJ r_kBA 4 ov1.2.2.2.2.2.1, cPus r_kBP r_kBPt r_kBPw r_kBPs ov1.2.2.2.2.2.2.1, cIar cI r_kKf 8 ov1.2.2.2.2.2.2.2.1, cIar cI r_kKs 8 ov1.2.2.2.2.2.2.2.2.1, cIar cI r_kSf 8 ov1.2.2.2.2.2.2.2.2.2.1, cIar cI r_kSs 8 ov1.2.2.2.2.2.2.2.2.2.2.1, cIar cI r_kTf 4 ov1.2.2.2.2.2.2.2.2.2.2.2.1, cJar cJ r_nBA 4 f_nBA, cPus r_nBP r_nBPt r_nBPw r_nBPs k_nBP, cIar cI r_nKf 8 f_nKf, cIar cI r_nKs 8 f_nKs, cIar cI r_nSf 8 f_nSf, cIar cI r_nSs 8 f_nSs, cIar cI r_nTf 4 f_nTf, cIar cI r_kBPs 8 ov1.2.2.2.2.2.2.2.2.2.2.2.2.1, cIar cI r_kBPt 8 ov1.2.2.2.2.2.2.2.2.2.2.2.2.2.1, cIar cI r_kBPw 8 ov1.2.2.2.2.2.2.2.2.2.2.2.2.2.2, cIar cI r_nBPs 8 f_nBPs, cIar cI r_nBPt 8 f_nBPt, cIar cI r_nBPw 8 f_nBPw]) (q0 := 1) (ci := 7) (mX7_copy l D cI cJ cB cT tt r_k r_kB r_kT r_kS r_kK r_n r_nB r_nT r_nS r_nK r_kBP r_kBA r_kKf r_kKs r_kSf r_kSs r_kTf r_nBP r_nBA r_nKf r_nKs r_nSf r_nSs r_nTf r_kBPt r_kBPw r_kBPs r_nBPt r_nBPw r_nBPs hov1) [1, 2, 3, 4, 5, 6, 7, 8, 9, 10, 11, 12, 13, 14, 15, 16, 17, 18, 19, 20, 21, 22, 23, 24, 25, 26, 27, 28, 29, 30] [.inl 0, .inr 0, .inr 1, .inr 2, .inr 3, .inr 4, .inr 5, .inr 6, .inr 7, .inr 8, .inr 9, .inr 10, .inr 11, .inr 12, .inr 13, .inr 14, .inr 15, .inr 16, .inr 17, .inr 18, .inr 19, .inr 20, .inr 21, .inr 22, .inr 23, .inr 24, .inr 25, .inr 26, .inr 27, .inr 28, .inr 29] k_610 k_607 k_608 k_609 rfl rfl k_39 hdX7_copy (by decide) (Nat.le_of_ble_eq_true rfl) dX8_image_8 (by decide) rfl rfl (by decide) rfl rfl ?_
  refine j_aload_n X (q := 0) dX8_image_11 rfl ?_
  refine j_iconst X (v := 1) dX8_image_12 (by decide) ?_
  refine j_put X (ws2 := [cWB r_ r_n r_k r_h r_e r_x r_q 1, cWho r_k r_kB r_kT r_kS r_kK, cWho r_n r_nB r_nT r_nS r_nK, cBal r_kB r_kBP r_kBA ov1.1 ov1.2.1 z_kB, cRow r_kK r_kKf r_kKs ov1.2.2.1, cRow r_kS r_kSf r_kSs ov1.2.2.2.1, cTra r_kT r_kTf ov1.2.2.2.2.1, cBal r_nB r_nBP r_nBA b_nB se_nB z_nB, cRow r_nK r_nKf r_nKs k_nK, cRow r_nS r_nSf r_nSs k_nS, cTra r_nT r_nTf k_nT, cJar cJ r_kBA 4 ov1.2.2.2.2.2.1, cPus r_kBP r_kBPt r_kBPw r_kBPs ov1.2.2.2.2.2.2.1, cIar cI r_kKf 8 ov1.2.2.2.2.2.2.2.1, cIar cI r_kKs 8 ov1.2.2.2.2.2.2.2.2.1, cIar cI r_kSf 8 ov1.2.2.2.2.2.2.2.2.2.1, cIar cI r_kSs 8 ov1.2.2.2.2.2.2.2.2.2.2.1, cIar cI r_kTf 4 ov1.2.2.2.2.2.2.2.2.2.2.2.1, cJar cJ r_nBA 4 f_nBA, cPus r_nBP r_nBPt r_nBPw r_nBPs k_nBP, cIar cI r_nKf 8 f_nKf, cIar cI r_nKs 8 f_nKs, cIar cI r_nSf 8 f_nSf, cIar cI r_nSs 8 f_nSs, cIar cI r_nTf 4 f_nTf, cIar cI r_kBPs 8 ov1.2.2.2.2.2.2.2.2.2.2.2.2.1, cIar cI r_kBPt 8 ov1.2.2.2.2.2.2.2.2.2.2.2.2.2.1, cIar cI r_kBPw 8 ov1.2.2.2.2.2.2.2.2.2.2.2.2.2.2, cIar cI r_nBPs 8 f_nBPs, cIar cI r_nBPt 8 f_nBPt, cIar cI r_nBPw 8 f_nBPw]) 0 2 hiX8 tyX8_ok nmX8 k_266 dX8_image_13 rfl rfl (by decide) (by decide) rfl rfl (Nat.le_of_ble_eq_true rfl) rfl ?_
  refine j_aload_n X (q := 0) dX8_image_16 rfl ?_
  refine j_get X 0 0 hiX8 k_264 dX8_image_17 rfl rfl (by decide) rfl ?_
  refine j_get X 2 0 hiX7 k_185 dX8_image_20 rfl rfl (by decide) rfl ?_
  refine j_get X 7 6 hiX0 k_108 dX8_image_23 rfl rfl (by decide) rfl ?_
  have hR := Option.some.inj hR
  exact j_iret X hr dX8_image_26 (by rw [← hR]) (by rw [← hR])

def rmX8_undo : Room := { frames := 3, cells := 0, slots := 0, locals := 65 }
theorem hdX8_undo : yX8_undo.cls ≠ "java/lang/invoke/MethodHandle" ∧ yX8_undo.cls ≠ "java/lang/invoke/VarHandle" ∧ (parseMethodDescriptor yX8_undo.desc).map (fun d => d.parameters.length) = some 0 := by decide +kernel
def fX8_undo (ik : Int32) (b_kB : Nat → Int32) (se_kB : Int64) (z_kB : Int32) (k_kK : Int32) (k_kS : Int32) (k_kT : Int32) (b_nB : Nat → Int32) (se_nB : Int64) (z_nB : Int32) (k_nK : Int32) (k_nS : Int32) (k_nT : Int32) (f_kBA : Nat → Int64) (k_kBP : Int32) (f_kKf : Nat → Int32) (f_kKs : Nat → Int32) (f_kSf : Nat → Int32) (f_kSs : Nat → Int32) (f_kTf : Nat → Int32) (f_nBA : Nat → Int64) (k_nBP : Int32) (f_nKf : Nat → Int32) (f_nKs : Nat → Int32) (f_nSf : Nat → Int32) (f_nSs : Nat → Int32) (f_nTf : Nat → Int32) (f_kBPs : Nat → Int32) (f_kBPt : Nat → Int32) (f_kBPw : Nat → Int32) (f_nBPs : Nat → Int32) (f_nBPt : Nat → Int32) (f_nBPw : Nat → Int32) : Option (Int32 × (Nat → Int32) × Int64 × Int32 × Int32 × Int32 × (Nat → Int64) × Int32 × (Nat → Int32) × (Nat → Int32) × (Nat → Int32) × (Nat → Int32) × (Nat → Int32) × (Nat → Int32) × (Nat → Int32) × (Nat → Int32)) :=
  if ik = 0 then (some ((-3), b_nB, se_nB, k_nK, k_nS, k_nT, f_nBA, k_nBP, f_nKf, f_nKs, f_nSf, f_nSs, f_nTf, f_nBPs, f_nBPt, f_nBPw)) else ((fX7_copy b_nB se_nB z_nB k_nK k_nS k_nT b_kB se_kB z_kB k_kK k_kS k_kT f_nBA k_nBP f_nKf f_nKs f_nSf f_nSs f_nTf f_kBA k_kBP f_kKf f_kKs f_kSf f_kSs f_kTf f_nBPs f_nBPt f_nBPw f_kBPs f_kBPt f_kBPw).bind fun ov2 =>
  some (ov2.1 9, ov2.1, ov2.2.1, ov2.2.2.1, ov2.2.2.2.1, ov2.2.2.2.2.1, ov2.2.2.2.2.2.1, ov2.2.2.2.2.2.2.1, ov2.2.2.2.2.2.2.2.1, ov2.2.2.2.2.2.2.2.2.1, ov2.2.2.2.2.2.2.2.2.2.1, ov2.2.2.2.2.2.2.2.2.2.2.1, ov2.2.2.2.2.2.2.2.2.2.2.2.1, ov2.2.2.2.2.2.2.2.2.2.2.2.2.1, ov2.2.2.2.2.2.2.2.2.2.2.2.2.2.1, ov2.2.2.2.2.2.2.2.2.2.2.2.2.2.2))
set_option maxHeartbeats 8000000 in
set_option maxRecDepth 100000 in
theorem mX8_undo (l : Launch) (D : va_G) (cI cJ cB cT : ClassId) (tt : Nat → Nat) (r_ r_n r_k r_h r_e r_x r_q r_kB r_kT r_kS r_kK r_nB r_nT r_nS r_nK r_kBP r_kBA r_kKf r_kKs r_kSf r_kSs r_kTf r_nBP r_nBA r_nKf r_nKs r_nSf r_nSs r_nTf r_kBPt r_kBPw r_kBPs r_nBPt r_nBPw r_nBPs : Nat)  {ik : Int32} {b_kB : Nat → Int32} {se_kB : Int64} {z_kB : Int32} {k_kK : Int32} {k_kS : Int32} {k_kT : Int32} {b_nB : Nat → Int32} {se_nB : Int64} {z_nB : Int32} {k_nK : Int32} {k_nS : Int32} {k_nT : Int32} {f_kBA : Nat → Int64} {k_kBP : Int32} {f_kKf : Nat → Int32} {f_kKs : Nat → Int32} {f_kSf : Nat → Int32} {f_kSs : Nat → Int32} {f_kTf : Nat → Int32} {f_nBA : Nat → Int64} {k_nBP : Int32} {f_nKf : Nat → Int32} {f_nKs : Nat → Int32} {f_nSf : Nat → Int32} {f_nSs : Nat → Int32} {f_nTf : Nat → Int32} {f_kBPs : Nat → Int32} {f_kBPt : Nat → Int32} {f_kBPw : Nat → Int32} {f_nBPs : Nat → Int32} {f_nBPt : Nat → Int32} {f_nBPw : Nat → Int32} {out : Int32 × (Nat → Int32) × Int64 × Int32 × Int32 × Int32 × (Nat → Int64) × Int32 × (Nat → Int32) × (Nat → Int32) × (Nat → Int32) × (Nat → Int32) × (Nat → Int32) × (Nat → Int32) × (Nat → Int32) × (Nat → Int32)} (h : fX8_undo ik b_kB se_kB z_kB k_kK k_kS k_kT b_nB se_nB z_nB k_nK k_nS k_nT f_kBA k_kBP f_kKf f_kKs f_kSf f_kSs f_kTf f_nBA k_nBP f_nKf f_nKs f_nSf f_nSs f_nTf f_kBPs f_kBPt f_kBPw f_nBPs f_nBPt f_nBPw = some out) :
    jM l yX8_undo (.code yX8_undo cX8_undo 1 (some .int)) rmX8_undo D (wTy cI cJ cB cT) tt [.ref r_] [cWB r_ r_n r_k r_h r_e r_x r_q ik, cWho r_k r_kB r_kT r_kS r_kK, cWho r_n r_nB r_nT r_nS r_nK, cBal r_kB r_kBP r_kBA b_kB se_kB z_kB, cRow r_kK r_kKf r_kKs k_kK, cRow r_kS r_kSf r_kSs k_kS, cTra r_kT r_kTf k_kT, cBal r_nB r_nBP r_nBA b_nB se_nB z_nB, cRow r_nK r_nKf r_nKs k_nK, cRow r_nS r_nSf r_nSs k_nS, cTra r_nT r_nTf k_nT, cJar cJ r_kBA 4 f_kBA, cPus r_kBP r_kBPt r_kBPw r_kBPs k_kBP, cIar cI r_kKf 8 f_kKf, cIar cI r_kKs 8 f_kKs, cIar cI r_kSf 8 f_kSf, cIar cI r_kSs 8 f_kSs, cIar cI r_kTf 4 f_kTf, cJar cJ r_nBA 4 f_nBA, cPus r_nBP r_nBPt r_nBPw r_nBPs k_nBP, cIar cI r_nKf 8 f_nKf, cIar cI r_nKs 8 f_nKs, cIar cI r_nSf 8 f_nSf, cIar cI r_nSs 8 f_nSs, cIar cI r_nTf 4 f_nTf, cIar cI r_kBPs 8 f_kBPs, cIar cI r_kBPt 8 f_kBPt, cIar cI r_kBPw 8 f_kBPw, cIar cI r_nBPs 8 f_nBPs, cIar cI r_nBPt 8 f_nBPt, cIar cI r_nBPw 8 f_nBPw] (some (.int out.1)) [cWB r_ r_n r_k r_h r_e r_x r_q ik, cWho r_k r_kB r_kT r_kS r_kK, cWho r_n r_nB r_nT r_nS r_nK, cBal r_kB r_kBP r_kBA b_kB se_kB z_kB, cRow r_kK r_kKf r_kKs k_kK, cRow r_kS r_kSf r_kSs k_kS, cTra r_kT r_kTf k_kT, cBal r_nB r_nBP r_nBA out.2.1 out.2.2.1 z_nB, cRow r_nK r_nKf r_nKs out.2.2.2.1, cRow r_nS r_nSf r_nSs out.2.2.2.2.1, cTra r_nT r_nTf out.2.2.2.2.2.1, cJar cJ r_kBA 4 f_kBA, cPus r_kBP r_kBPt r_kBPw r_kBPs k_kBP, cIar cI r_kKf 8 f_kKf, cIar cI r_kKs 8 f_kKs, cIar cI r_kSf 8 f_kSf, cIar cI r_kSs 8 f_kSs, cIar cI r_kTf 4 f_kTf, cJar cJ r_nBA 4 out.2.2.2.2.2.2.1, cPus r_nBP r_nBPt r_nBPw r_nBPs out.2.2.2.2.2.2.2.1, cIar cI r_nKf 8 out.2.2.2.2.2.2.2.2.1, cIar cI r_nKs 8 out.2.2.2.2.2.2.2.2.2.1, cIar cI r_nSf 8 out.2.2.2.2.2.2.2.2.2.2.1, cIar cI r_nSs 8 out.2.2.2.2.2.2.2.2.2.2.2.1, cIar cI r_nTf 4 out.2.2.2.2.2.2.2.2.2.2.2.2.1, cIar cI r_kBPs 8 f_kBPs, cIar cI r_kBPt 8 f_kBPt, cIar cI r_kBPw 8 f_kBPw, cIar cI r_nBPs 8 out.2.2.2.2.2.2.2.2.2.2.2.2.2.1, cIar cI r_nBPt 8 out.2.2.2.2.2.2.2.2.2.2.2.2.2.2.1, cIar cI r_nBPw 8 out.2.2.2.2.2.2.2.2.2.2.2.2.2.2.2] := by
  refine jM.of (by decide) (Nat.le_of_ble_eq_true rfl) ?_
  intro p e s m below meth c A X hr
  refine j_sub (lv2 := [(0, .ref r_)]) [0] rfl ?_
  have hR := h
  unfold fX8_undo at hR
  refine j_aload_n X (q := 0) dX8_undo_0 rfl ?_
  refine j_get X 0 2 hiX8 k_266 dX8_undo_1 rfl rfl (by decide) rfl ?_
  refine j_if_ne X (tgt := 10) dX8_undo_4 (by decide) (fun cv1 => ?_) (fun cv1 => ?_)
  · replace hR := (if_neg cv1).symm.trans hR
    refine j_aload_n X (q := 0) dX8_undo_10 rfl ?_
    refine j_get X 0 0 hiX8 k_264 dX8_undo_11 rfl rfl (by decide) rfl ?_
    refine j_aload_n X (q := 0) dX8_undo_14 rfl ?_
    refine j_get X 0 1 hiX8 k_265 dX8_undo_15 rfl rfl (by decide) rfl ?_
    obtain ⟨ov2, hov2, hR⟩ := bd_some hR
    refine j_callV X (As := [.ref r_k]) (rest := []) (ws2 := [cWB r_ r_n r_k r_h r_e r_x r_q ik, cWho r_k r_kB r_kT r_kS r_kK, cWho r_n r_nB r_nT r_nS r_nK, cBal r_kB r_kBP r_kBA b_kB se_kB z_kB, cRow r_kK r_kKf r_kKs k_kK, cRow r_kS r_kSf r_kSs k_kS, cTra r_kT r_kTf k_kT, cBal r_nB r_nBP r_nBA ov2.1 ov2.2.1 z_nB, cRow r_nK r_nKf r_nKs ov2.2.2.1, cRow r_nS r_nSf r_nSs ov2.2.2.2.1, cTra r_nT r_nTf ov2.2.2.2.2.1, cJar cJ r_kBA 4 f_kBA, cPus r_kBP r_kBPt r_kBPw r_kBPs k_kBP, cIar cI r_kKf 8 f_kKf, cIar cI r_kKs 8 f_kKs, cIar cI r_kSf 8 f_kSf, cIar cI r_kSs 8 f_kSs, cIar cI r_kTf 4 f_kTf, cJar cJ r_nBA 4 ov2.2.2.2.2.2.1, cPus r_nBP r_nBPt r_nBPw r_nBPs ov2.2.2.2.2.2.2.1, cIar cI r_nKf 8 ov2.2.2.2.2.2.2.2.1, cIar cI r_nKs 8 ov2.2.2.2.2.2.2.2.2.1, cIar cI r_nSf 8 ov2.2.2.2.2.2.2.2.2.2.1, cIar cI r_nSs 8 ov2.2.2.2.2.2.2.2.2.2.2.1, cIar cI r_nTf 4 ov2.2.2.2.2.2.2.2.2.2.2.2.1, cIar cI r_kBPs 8 f_kBPs, cIar cI r_kBPt 8 f_kBPt, cIar cI r_kBPw 8 f_kBPw, cIar cI r_nBPs 8 ov2.2.2.2.2.2.2.2.2.2.2.2.2.1, cIar cI r_nBPt 8 ov2.2.2.2.2.2.2.2.2.2.2.2.2.2.1, cIar cI r_nBPw 8 ov2.2.2.2.2.2.2.2.2.2.2.2.2.2.2]) (q0 := 2) (ci := 7) (mX7_copy l D cI cJ cB cT tt r_n r_nB r_nT r_nS r_nK r_k r_kB r_kT r_kS r_kK r_nBP r_nBA r_nKf r_nKs r_nSf r_nSs r_nTf r_kBP r_kBA r_kKf r_kKs r_kSf r_kSs r_kTf r_nBPt r_nBPw r_nBPs r_kBPt r_kBPw r_kBPs hov2) [2, 1, 7, 8, 9, 10, 3, 4, 5, 6, 18, 19, 20, 21, 22, 23, 24, 11, 12, 13, 14, 15, 16, 17, 28, 29, 30, 25, 26, 27] [.inl 0, .inr 1, .inr 0, .inr 6, .inr 7, .inr 8, .inr 9, .inr 2, .inr 3, .inr 4, .inr 5, .inr 17, .inr 18, .inr 19, .inr 20, .inr 21, .inr 22, .inr 23, .inr 10, .inr 11, .inr 12, .inr 13, .inr 14, .inr 15, .inr 16, .inr 27, .inr 28, .inr 29, .inr 24, .inr 25, .inr 26] k_610 k_607 k_608 k_609 rfl rfl k_39 hdX7_copy (by decide) (Nat.le_of_ble_eq_true rfl) dX8_undo_18 (by decide) rfl rfl (by decide) rfl rfl ?_
    refine j_aload_n X (q := 0) dX8_undo_21 rfl ?_
    refine j_get X 0 0 hiX8 k_264 dX8_undo_22 rfl rfl (by decide) rfl ?_
    refine j_get X 2 0 hiX7 k_185 dX8_undo_25 rfl rfl (by decide) rfl ?_
    refine j_get X 7 6 hiX0 k_108 dX8_undo_28 rfl rfl (by decide) rfl ?_
    have hR := Option.some.inj hR
    exact j_iret X hr dX8_undo_31 (by rw [← hR]) (by rw [← hR])
  · replace hR := (if_pos cv1).symm.trans hR
    refine j_bipush X (v := (-3)) dX8_undo_7 (by decide) ?_
    have hR := Option.some.inj hR
    exact j_iret X hr dX8_undo_9 (by rw [← hR]) (by rw [← hR])

def rmX8_count : Room := { frames := 0, cells := 0, slots := 0, locals := 0 }
theorem hdX8_count : yX8_count.cls ≠ "java/lang/invoke/MethodHandle" ∧ yX8_count.cls ≠ "java/lang/invoke/VarHandle" ∧ (parseMethodDescriptor yX8_count.desc).map (fun d => d.parameters.length) = some 1 := by decide +kernel
def fX8_count (i1 : Int32) (ik : Int32) (le_x : Int32) (cl_x : Int32) (k_nK : Int32) (k_nS : Int32) : Option (Int32) :=
  if i1 = 0 then (some k_nS) else (if i1 = 1 then (some k_nK) else (if i1 = 2 then (some le_x) else (some (-2))))
set_option maxHeartbeats 8000000 in
set_option maxRecDepth 100000 in
theorem mX8_count (l : Launch) (D : va_G) (cI cJ cB cT : ClassId) (tt : Nat → Nat) (r_ r_n r_k r_h r_e r_x r_q r_nB r_nT r_nS r_nK r_xs r_xw r_xm r_nKf r_nKs r_nSf r_nSs : Nat) {i1 : Int32} {ik : Int32} {le_x : Int32} {cl_x : Int32} {k_nK : Int32} {k_nS : Int32} {out : Int32} (h : fX8_count i1 ik le_x cl_x k_nK k_nS = some out) :
    jM l yX8_count (.code yX8_count cX8_count 2 (some .int)) rmX8_count D (wTy cI cJ cB cT) tt [.ref r_, .int i1] [cWB r_ r_n r_k r_h r_e r_x r_q ik, cWho r_n r_nB r_nT r_nS r_nK, cTex r_x r_xs r_xw r_xm le_x cl_x, cRow r_nK r_nKf r_nKs k_nK, cRow r_nS r_nSf r_nSs k_nS] (some (.int out)) [cWB r_ r_n r_k r_h r_e r_x r_q ik, cWho r_n r_nB r_nT r_nS r_nK, cTex r_x r_xs r_xw r_xm le_x cl_x, cRow r_nK r_nKf r_nKs k_nK, cRow r_nS r_nSf r_nSs k_nS] := by
  refine jM.of (by decide) (Nat.le_of_ble_eq_true rfl) ?_
  intro p e s m below meth c A X hr
  refine j_sub (lv2 := [(0, .ref r_), (1, .int i1)]) [0, 1] rfl ?_
  have hR := h
  unfold fX8_count at hR
  refine j_iload_n X (q := 1) dX8_count_0 rfl ?_
  by_cases cv1 : i1 = 0
  · replace hR := (if_pos cv1).symm.trans hR
    refine j_tableIn X (tgt := 28) dX8_count_1 (by rw [cv1]; decide) (by rw [cv1]; decide) (by rw [cv1]; rfl) (by decide) ?_
    refine j_aload_n X (q := 0) dX8_count_28 rfl ?_
    refine j_get X 0 0 hiX8 k_264 dX8_count_29 rfl rfl (by decide) rfl ?_
    refine j_get X 1 2 hiX7 k_189 dX8_count_32 rfl rfl (by decide) rfl ?_
    refine j_get X 4 2 hiX3 k_176 dX8_count_35 rfl rfl (by decide) rfl ?_
    have hR := Option.some.inj hR
    exact j_iret X hr dX8_count_38 (by rw [← hR]) rfl
  · replace hR := (if_neg cv1).symm.trans hR
    by_cases cv2 : i1 = 1
    · replace hR := (if_pos cv2).symm.trans hR
      refine j_tableIn X (tgt := 39) dX8_count_1 (by rw [cv2]; decide) (by rw [cv2]; decide) (by rw [cv2]; rfl) (by decide) ?_
      refine j_aload_n X (q := 0) dX8_count_39 rfl ?_
      refine j_get X 0 0 hiX8 k_264 dX8_count_40 rfl rfl (by decide) rfl ?_
      refine j_get X 1 3 hiX7 k_191 dX8_count_43 rfl rfl (by decide) rfl ?_
      refine j_get X 3 2 hiX3 k_176 dX8_count_46 rfl rfl (by decide) rfl ?_
      have hR := Option.some.inj hR
      exact j_iret X hr dX8_count_49 (by rw [← hR]) rfl
    · replace hR := (if_neg cv2).symm.trans hR
      by_cases cv3 : i1 = 2
      · replace hR := (if_pos cv3).symm.trans hR
        refine j_tableIn X (tgt := 50) dX8_count_1 (by rw [cv3]; decide) (by rw [cv3]; decide) (by rw [cv3]; rfl) (by decide) ?_
        refine j_aload_n X (q := 0) dX8_count_50 rfl ?_
        refine j_get X 0 5 hiX8 k_269 dX8_count_51 rfl rfl (by decide) rfl ?_
        refine j_get X 2 1 hiX5 k_225 dX8_count_54 rfl rfl (by decide) rfl ?_
        have hR := Option.some.inj hR
        exact j_iret X hr dX8_count_57 (by rw [← hR]) rfl
      · replace hR := (if_neg cv3).symm.trans hR
        refine j_tableOut X (tgt := 58) dX8_count_1 (by have hcv1 := lv_neT cv1 (a := 0) rfl; have hcv2 := lv_neT cv2 (a := 1) rfl; have hcv3 := lv_neT cv3 (a := 2) rfl; omega) (by decide) ?_
        refine j_bipush X (v := (-2)) dX8_count_58 (by decide) ?_
        have hR := Option.some.inj hR
        exact j_iret X hr dX8_count_60 (by rw [← hR]) rfl

def rmX8_tape : Room := { frames := 1, cells := 0, slots := 0, locals := 23 }
theorem hdX8_tape : yX8_tape.cls ≠ "java/lang/invoke/MethodHandle" ∧ yX8_tape.cls ≠ "java/lang/invoke/VarHandle" ∧ (parseMethodDescriptor yX8_tape.desc).map (fun d => d.parameters.length) = some 3 := by decide +kernel
def fX8_tape (r_p : Nat) (i1 : Int32) (i2 : Int32) (i3 : Int32) (ik : Int32) (so_p : Int32) (si_p : Int32) (f_q : Nat → Option Nat) (f_pi : Nat → Int64) : Option (Int32 × Int32 × Int32 × (Nat → Int64)) :=
  (fX8_tapeAt i1 ik f_q).bind fun ov1 =>
  oq ov1 (some ((-1), so_p, si_p, f_pi)) r_p (if i2 = (-1) then ((fX4_clear (-1) 0 so_p si_p f_pi).bind fun ov9 =>
  some (1, ov9.1, ov9.2.1, ov9.2.2)) else ((fX8_isBetween i2 0 4).bind fun ov4 =>
  if ov4 = 0 then (some ((-2), so_p, si_p, f_pi)) else (if i3 ≤ 60 then (if (0 : Int32) ≤ i3 then ((fX4_clear i2 i3 so_p si_p f_pi).bind fun ov8 =>
  some (1, ov8.1, ov8.2.1, ov8.2.2)) else (some ((-14), so_p, si_p, f_pi))) else (some ((-2), so_p, si_p, f_pi)))))
set_option maxHeartbeats 8000000 in
set_option maxRecDepth 100000 in
theorem mX8_tape (l : Launch) (D : va_G) (cI cJ cB cT : ClassId) (tt : Nat → Nat) (r_ r_n r_k r_h r_e r_x r_q r_p r_pi : Nat) {i1 : Int32} {i2 : Int32} {i3 : Int32} {ik : Int32} {so_p : Int32} {si_p : Int32} {f_q : Nat → Option Nat} {f_pi : Nat → Int64} {out : Int32 × Int32 × Int32 × (Nat → Int64)} (h : fX8_tape r_p i1 i2 i3 ik so_p si_p f_q f_pi = some out) :
    jM l yX8_tape (.code yX8_tape cX8_tape 5 (some .int)) rmX8_tape D (wTy cI cJ cB cT) tt [.ref r_, .int i1, .int i2, .int i3] [cWB r_ r_n r_k r_h r_e r_x r_q ik, cTap r_p r_pi so_p si_p, cQar cT r_q 6 f_q, cJar cJ r_pi 60 f_pi] (some (.int out.1)) [cWB r_ r_n r_k r_h r_e r_x r_q ik, cTap r_p r_pi out.2.1 out.2.2.1, cQar cT r_q 6 f_q, cJar cJ r_pi 60 out.2.2.2] := by
  refine jM.of (by decide) (Nat.le_of_ble_eq_true rfl) ?_
  intro p e s m below meth c A X hr
  refine j_sub (lv2 := [(0, .ref r_), (1, .int i1), (2, .int i2), (3, .int i3)]) [0, 1, 2, 3] rfl ?_
  have hR := h
  unfold fX8_tape at hR
  refine j_aload_n X (q := 0) dX8_tape_0 rfl ?_
  refine j_iload_n X (q := 1) dX8_tape_1 rfl ?_
  obtain ⟨ov1, hov1, hR⟩ := bd_some hR
  refine j_callV X (As := [.int i1]) (rest := []) (ws2 := [cWB r_ r_n r_k r_h r_e r_x r_q ik, cTap r_p r_pi so_p si_p, cQar cT r_q 6 f_q, cJar cJ r_pi 60 f_pi]) (q0 := 0) (ci := 8) (mX8_tapeAt l D cI cJ cB cT tt r_ r_n r_k r_h r_e r_x r_q hov1) [0, 2] [.inr 0, .inl 1, .inr 1, .inl 3] k_594 k_591 k_593 k_18 rfl rfl k_38 hdX8_tapeAt (by decide) (Nat.le_of_ble_eq_true rfl) dX8_tape_2 (by decide) rfl rfl (by decide) rfl rfl ?_
  rcases oq_some hR with ⟨qv2, hR⟩ | ⟨qv2, hR⟩
  · refine j_eq (congrArg (fun z => va_rf z :: _) qv2) rfl ?_
    refine j_astoreN X (lv2 := [(4, .null), (0, .ref r_), (1, .int i1), (2, .int i2), (3, .int i3)]) dX8_tape_5 (by decide) rfl ?_
    refine j_aloadN X (q := 0) dX8_tape_7 rfl ?_
    refine j_ifnonnullN X dX8_tape_9 ?_
    refine j_iconst X (v := (-1)) dX8_tape_12 (by decide) ?_
    have hR := Option.some.inj hR
    exact j_iret X hr dX8_tape_13 (by rw [← hR]) (by rw [← hR])
  · refine j_eq (congrArg (fun z => va_rf z :: _) qv2) rfl ?_
    refine j_astore X (lv2 := [(4, .ref r_p), (0, .ref r_), (1, .int i1), (2, .int i2), (3, .int i3)]) dX8_tape_5 (by decide) rfl ?_
    refine j_aload X (q := 0) dX8_tape_7 rfl ?_
    refine j_ifnonnull X (tgt := 14) dX8_tape_9 (by decide) ?_
    refine j_iload_n X (q := 3) dX8_tape_14 rfl ?_
    refine j_iconst X (v := (-1)) dX8_tape_15 (by decide) ?_
    refine j_icmp_ne X (tgt := 28) dX8_tape_16 (by decide) (fun cv3 => ?_) (fun cv3 => ?_)
    · replace hR := (if_neg cv3).symm.trans hR
      refine j_iload_n X (q := 3) dX8_tape_28 rfl ?_
      refine j_iconst X (v := 0) dX8_tape_29 (by decide) ?_
      refine j_iconst X (v := 4) dX8_tape_30 (by decide) ?_
      obtain ⟨ov4, hov4, hR⟩ := bd_some hR
      refine j_callS X (As := [.int i2, .int 0, .int 4]) (rest := []) (ws2 := [cWB r_ r_n r_k r_h r_e r_x r_q ik, cTap r_p r_pi so_p si_p, cQar cT r_q 6 f_q, cJar cJ r_pi 60 f_pi]) (mX8_isBetween l D cI cJ cB cT tt  hov4) [] [.inl 0, .inl 1, .inl 2, .inl 3] k_299 k_297 k_298 k_38 hdX8_isBetween (by decide) (Nat.le_of_ble_eq_true rfl) dX8_tape_31 (by decide) rfl rfl (by decide) rfl rfl ?_
      refine j_if_eq X (tgt := 43) dX8_tape_34 (by decide) (fun cv5 => ?_) (fun cv5 => ?_)
      · replace hR := (if_pos cv5).symm.trans hR
        refine j_bipush X (v := (-2)) dX8_tape_43 (by decide) ?_
        have hR := Option.some.inj hR
        exact j_iret X hr dX8_tape_45 (by rw [← hR]) (by rw [← hR])
      · replace hR := (if_neg cv5).symm.trans hR
        refine j_iload_n X (q := 4) dX8_tape_37 rfl ?_
        refine j_bipush X (v := 60) dX8_tape_38 (by decide) ?_
        refine j_icmp_le X (tgt := 46) dX8_tape_40 (by decide) (fun cv6 => ?_) (fun cv6 => ?_)
        · replace hR := (if_pos cv6).symm.trans hR
          refine j_iload_n X (q := 4) dX8_tape_46 rfl ?_
          refine j_if_ge X (tgt := 53) dX8_tape_47 (by decide) (fun cv7 => ?_) (fun cv7 => ?_)
          · replace hR := (if_pos cv7).symm.trans hR
            refine j_aload X (q := 0) dX8_tape_53 rfl ?_
            refine j_iload_n X (q := 3) dX8_tape_55 rfl ?_
            refine j_iload_n X (q := 4) dX8_tape_56 rfl ?_
            obtain ⟨ov8, hov8, hR⟩ := bd_some hR
            refine j_callV X (As := [.int i2, .int i3]) (rest := []) (ws2 := [cWB r_ r_n r_k r_h r_e r_x r_q ik, cTap r_p r_pi ov8.1 ov8.2.1, cQar cT r_q 6 f_q, cJar cJ r_pi 60 ov8.2.2]) (q0 := 1) (ci := 4) (mX4_clear l D cI cJ cB cT tt r_p r_pi hov8) [1, 3] [.inl 0, .inr 0, .inl 2, .inr 1] k_635 k_632 k_633 k_634 rfl rfl k_46 hdX4_clear (by decide) (Nat.le_of_ble_eq_true rfl) dX8_tape_57 (by decide) rfl rfl (by decide) rfl rfl ?_
            refine j_iconst X (v := 1) dX8_tape_60 (by decide) ?_
            have hR := Option.some.inj hR
            exact j_iret X hr dX8_tape_61 (by rw [← hR]) (by rw [← hR])
          · replace hR := (if_neg cv7).symm.trans hR
            refine j_bipush X (v := (-14)) dX8_tape_50 (by decide) ?_
            have hR := Option.some.inj hR
            exact j_iret X hr dX8_tape_52 (by rw [← hR]) (by rw [← hR])
        · replace hR := (if_neg cv6).symm.trans hR
          refine j_bipush X (v := (-2)) dX8_tape_43 (by decide) ?_
          have hR := Option.some.inj hR
          exact j_iret X hr dX8_tape_45 (by rw [← hR]) (by rw [← hR])
    · replace hR := (if_pos cv3).symm.trans hR
      refine j_aload X (q := 0) dX8_tape_19 rfl ?_
      refine j_iconst X (v := (-1)) dX8_tape_21 (by decide) ?_
      refine j_iconst X (v := 0) dX8_tape_22 (by decide) ?_
      obtain ⟨ov9, hov9, hR⟩ := bd_some hR
      refine j_callV X (As := [.int (-1), .int 0]) (rest := []) (ws2 := [cWB r_ r_n r_k r_h r_e r_x r_q ik, cTap r_p r_pi ov9.1 ov9.2.1, cQar cT r_q 6 f_q, cJar cJ r_pi 60 ov9.2.2]) (q0 := 1) (ci := 4) (mX4_clear l D cI cJ cB cT tt r_p r_pi hov9) [1, 3] [.inl 0, .inr 0, .inl 2, .inr 1] k_635 k_632 k_633 k_634 rfl rfl k_46 hdX4_clear (by decide) (Nat.le_of_ble_eq_true rfl) dX8_tape_23 (by decide) rfl rfl (by decide) rfl rfl ?_
      refine j_iconst X (v := 1) dX8_tape_26 (by decide) ?_
      have hR := Option.some.inj hR
      exact j_iret X hr dX8_tape_27 (by rw [← hR]) (by rw [← hR])

def rmX8_item : Room := { frames := 1, cells := 0, slots := 0, locals := 22 }
theorem hdX8_item : yX8_item.cls ≠ "java/lang/invoke/MethodHandle" ∧ yX8_item.cls ≠ "java/lang/invoke/VarHandle" ∧ (parseMethodDescriptor yX8_item.desc).map (fun d => d.parameters.length) = some 3 := by decide +kernel
def fX8_item (r_p : Nat) (i1 : Int32) (i2 : Int32) (i3 : Int64) (ik : Int32) (so_p : Int32) (si_p : Int32) (f_q : Nat → Option Nat) (f_pi : Nat → Int64) : Option (Int32 × (Nat → Int64)) :=
  (fX8_tapeAt i1 ik f_q).bind fun ov1 =>
  oq ov1 (some ((-1), f_pi)) r_p (if so_p = (-1) then (some ((-11), f_pi)) else ((fX4_has i2 so_p si_p f_pi).bind fun ov4 =>
  if ov4 = 0 then (some ((-13), f_pi)) else ((fX4_asItem i3 so_p si_p).bind fun ov6 =>
  gd (inb i2 60) (lt' (vp_updL f_pi i2.toNatClampNeg ov6) fun f_piv8 =>
  some (1, f_piv8)))))
set_option maxHeartbeats 8000000 in
set_option maxRecDepth 100000 in
theorem mX8_item (l : Launch) (D : va_G) (cI cJ cB cT : ClassId) (tt : Nat → Nat) (r_ r_n r_k r_h r_e r_x r_q r_p r_pi : Nat) {i1 : Int32} {i2 : Int32} {i3 : Int64} {ik : Int32} {so_p : Int32} {si_p : Int32} {f_q : Nat → Option Nat} {f_pi : Nat → Int64} {out : Int32 × (Nat → Int64)} (h : fX8_item r_p i1 i2 i3 ik so_p si_p f_q f_pi = some out) :
    jM l yX8_item (.code yX8_item cX8_item 6 (some .int)) rmX8_item D (wTy cI cJ cB cT) tt [.ref r_, .int i1, .int i2, .long i3] [cWB r_ r_n r_k r_h r_e r_x r_q ik, cTap r_p r_pi so_p si_p, cQar cT r_q 6 f_q, cJar cJ r_pi 60 f_pi] (some (.int out.1)) [cWB r_ r_n r_k r_h r_e r_x r_q ik, cTap r_p r_pi so_p si_p, cQar cT r_q 6 f_q, cJar cJ r_pi 60 out.2] := by
  refine jM.of (by decide) (Nat.le_of_ble_eq_true rfl) ?_
  intro p e s m below meth c A X hr
  refine j_sub (lv2 := [(0, .ref r_), (1, .int i1), (2, .int i2), (3, .long i3)]) [0, 1, 2, 3] rfl ?_
  have hR := h
  unfold fX8_item at hR
  refine j_aload_n X (q := 0) dX8_item_0 rfl ?_
  refine j_iload_n X (q := 1) dX8_item_1 rfl ?_
  obtain ⟨ov1, hov1, hR⟩ := bd_some hR
  refine j_callV X (As := [.int i1]) (rest := []) (ws2 := [cWB r_ r_n r_k r_h r_e r_x r_q ik, cTap r_p r_pi so_p si_p, cQar cT r_q 6 f_q, cJar cJ r_pi 60 f_pi]) (q0 := 0) (ci := 8) (mX8_tapeAt l D cI cJ cB cT tt r_ r_n r_k r_h r_e r_x r_q hov1) [0, 2] [.inr 0, .inl 1, .inr 1, .inl 3] k_594 k_591 k_593 k_18 rfl rfl k_38 hdX8_tapeAt (by decide) (Nat.le_of_ble_eq_true rfl) dX8_item_2 (by decide) rfl rfl (by decide) rfl rfl ?_
  rcases oq_some hR with ⟨qv2, hR⟩ | ⟨qv2, hR⟩
  · refine j_eq (congrArg (fun z => va_rf z :: _) qv2) rfl ?_
    refine j_astoreN X (lv2 := [(5, .null), (0, .ref r_), (1, .int i1), (2, .int i2), (3, .long i3)]) dX8_item_5 (by decide) rfl ?_
    refine j_aloadN X (q := 0) dX8_item_7 rfl ?_
    refine j_ifnonnullN X dX8_item_9 ?_
    refine j_iconst X (v := (-1)) dX8_item_12 (by decide) ?_
    have hR := Option.some.inj hR
    exact j_iret X hr dX8_item_13 (by rw [← hR]) (by rw [← hR])
  · refine j_eq (congrArg (fun z => va_rf z :: _) qv2) rfl ?_
    refine j_astore X (lv2 := [(5, .ref r_p), (0, .ref r_), (1, .int i1), (2, .int i2), (3, .long i3)]) dX8_item_5 (by decide) rfl ?_
    refine j_aload X (q := 0) dX8_item_7 rfl ?_
    refine j_ifnonnull X (tgt := 14) dX8_item_9 (by decide) ?_
    refine j_aload X (q := 0) dX8_item_14 rfl ?_
    refine j_get X 1 0 hiX4 k_252 dX8_item_16 rfl rfl (by decide) rfl ?_
    refine j_iconst X (v := (-1)) dX8_item_19 (by decide) ?_
    refine j_icmp_ne X (tgt := 26) dX8_item_20 (by decide) (fun cv3 => ?_) (fun cv3 => ?_)
    · replace hR := (if_neg cv3).symm.trans hR
      refine j_aload X (q := 0) dX8_item_26 rfl ?_
      refine j_iload_n X (q := 3) dX8_item_28 rfl ?_
      obtain ⟨ov4, hov4, hR⟩ := bd_some hR
      refine j_callV X (As := [.int i2]) (rest := []) (ws2 := [cWB r_ r_n r_k r_h r_e r_x r_q ik, cTap r_p r_pi so_p si_p, cQar cT r_q 6 f_q, cJar cJ r_pi 60 f_pi]) (q0 := 1) (ci := 4) (mX4_has l D cI cJ cB cT tt r_p r_pi hov4) [1, 3] [.inl 0, .inr 0, .inl 2, .inr 1] k_602 k_599 k_600 k_601 rfl rfl k_46 hdX4_has (by decide) (Nat.le_of_ble_eq_true rfl) dX8_item_29 (by decide) rfl rfl (by decide) rfl rfl ?_
      refine j_if_ne X (tgt := 38) dX8_item_32 (by decide) (fun cv5 => ?_) (fun cv5 => ?_)
      · replace hR := (if_neg cv5).symm.trans hR
        refine j_aload X (q := 0) dX8_item_38 rfl ?_
        refine j_get X 1 2 hiX4 k_256 dX8_item_40 rfl rfl (by decide) rfl ?_
        refine j_iload_n X (q := 3) dX8_item_43 rfl ?_
        refine j_aload X (q := 0) dX8_item_44 rfl ?_
        refine j_lload_n X (q := 4) dX8_item_46 rfl ?_
        obtain ⟨ov6, hov6, hR⟩ := bd_some hR
        refine j_callV X (As := [.long i3]) (rest := [.int i2, .ref r_pi]) (ws2 := [cWB r_ r_n r_k r_h r_e r_x r_q ik, cTap r_p r_pi so_p si_p, cQar cT r_q 6 f_q, cJar cJ r_pi 60 f_pi]) (q0 := 1) (ci := 4) (mX4_asItem l D cI cJ cB cT tt r_p r_pi hov6) [1] [.inl 0, .inr 0, .inl 2, .inl 3] k_643 k_640 k_641 k_642 rfl rfl k_46 hdX4_asItem (by decide) (Nat.le_of_ble_eq_true rfl) dX8_item_47 (by decide) rfl rfl (by decide) rfl rfl ?_
        obtain ⟨gv7, hR⟩ := gd_some hR
        obtain ⟨f_piv8, ef_piv8, hR⟩ := lt_some hR
        refine j_last X (ws2 := [cWB r_ r_n r_k r_h r_e r_x r_q ik, cTap r_p r_pi so_p si_p, cQar cT r_q 6 f_q, cJar cJ r_pi 60 f_piv8]) 3 1 rfl dX8_item_50 rfl rfl gv7 ef_piv8 rfl ?_
        refine j_iconst X (v := 1) dX8_item_51 (by decide) ?_
        have hR := Option.some.inj hR
        exact j_iret X hr dX8_item_52 (by rw [← hR]) (by rw [← hR])
      · replace hR := (if_pos cv5).symm.trans hR
        refine j_bipush X (v := (-13)) dX8_item_35 (by decide) ?_
        have hR := Option.some.inj hR
        exact j_iret X hr dX8_item_37 (by rw [← hR]) (by rw [← hR])
    · replace hR := (if_pos cv3).symm.trans hR
      refine j_bipush X (v := (-11)) dX8_item_23 (by decide) ?_
      have hR := Option.some.inj hR
      exact j_iret X hr dX8_item_25 (by rw [← hR]) (by rw [← hR])

def rmX8_peek : Room := { frames := 1, cells := 0, slots := 0, locals := 21 }
theorem hdX8_peek : yX8_peek.cls ≠ "java/lang/invoke/MethodHandle" ∧ yX8_peek.cls ≠ "java/lang/invoke/VarHandle" ∧ (parseMethodDescriptor yX8_peek.desc).map (fun d => d.parameters.length) = some 2 := by decide +kernel
def fX8_peek (r_p : Nat) (i1 : Int32) (i2 : Int32) (ik : Int32) (so_p : Int32) (si_p : Int32) (f_q : Nat → Option Nat) (f_pi : Nat → Int64) : Option (Int64) :=
  (fX8_tapeAt i1 ik f_q).bind fun ov1 =>
  oq ov1 (some (-9223372036854775808)) r_p ((fX4_has i2 so_p si_p f_pi).bind fun ov3 =>
  if ov3 = 0 then (some (-9223372036854775808)) else (gd (inb i2 60) (some (f_pi i2.toNatClampNeg))))
set_option maxHeartbeats 8000000 in
set_option maxRecDepth 100000 in
theorem mX8_peek (l : Launch) (D : va_G) (cI cJ cB cT : ClassId) (tt : Nat → Nat) (r_ r_n r_k r_h r_e r_x r_q r_p r_pi : Nat) {i1 : Int32} {i2 : Int32} {ik : Int32} {so_p : Int32} {si_p : Int32} {f_q : Nat → Option Nat} {f_pi : Nat → Int64} {out : Int64} (h : fX8_peek r_p i1 i2 ik so_p si_p f_q f_pi = some out) :
    jM l yX8_peek (.code yX8_peek cX8_peek 4 (some .long)) rmX8_peek D (wTy cI cJ cB cT) tt [.ref r_, .int i1, .int i2] [cWB r_ r_n r_k r_h r_e r_x r_q ik, cTap r_p r_pi so_p si_p, cQar cT r_q 6 f_q, cJar cJ r_pi 60 f_pi] (some (.long out)) [cWB r_ r_n r_k r_h r_e r_x r_q ik, cTap r_p r_pi so_p si_p, cQar cT r_q 6 f_q, cJar cJ r_pi 60 f_pi] := by
  refine jM.of (by decide) (Nat.le_of_ble_eq_true rfl) ?_
  intro p e s m below meth c A X hr
  refine j_sub (lv2 := [(0, .ref r_), (1, .int i1), (2, .int i2)]) [0, 1, 2] rfl ?_
  have hR := h
  unfold fX8_peek at hR
  refine j_aload_n X (q := 0) dX8_peek_0 rfl ?_
  refine j_iload_n X (q := 1) dX8_peek_1 rfl ?_
  obtain ⟨ov1, hov1, hR⟩ := bd_some hR
  refine j_callV X (As := [.int i1]) (rest := []) (ws2 := [cWB r_ r_n r_k r_h r_e r_x r_q ik, cTap r_p r_pi so_p si_p, cQar cT r_q 6 f_q, cJar cJ r_pi 60 f_pi]) (q0 := 0) (ci := 8) (mX8_tapeAt l D cI cJ cB cT tt r_ r_n r_k r_h r_e r_x r_q hov1) [0, 2] [.inr 0, .inl 1, .inr 1, .inl 3] k_594 k_591 k_593 k_18 rfl rfl k_38 hdX8_tapeAt (by decide) (Nat.le_of_ble_eq_true rfl) dX8_peek_2 (by decide) rfl rfl (by decide) rfl rfl ?_
  rcases oq_some hR with ⟨qv2, hR⟩ | ⟨qv2, hR⟩
  · refine j_eq (congrArg (fun z => va_rf z :: _) qv2) rfl ?_
    refine j_astore_nN X (lv2 := [(3, .null), (0, .ref r_), (1, .int i1), (2, .int i2)]) dX8_peek_5 (by decide) rfl ?_
    refine j_aload_nN X (q := 0) dX8_peek_6 rfl ?_
    refine j_ifnullN X (tgt := 18) dX8_peek_7 (by decide) ?_
    refine j_ldc2 X k_399 dX8_peek_18 ?_
    refine j_goto X (tgt := 30) dX8_peek_21 (by decide) ?_
    have hR := Option.some.inj hR
    exact j_lret X hr dX8_peek_30 (by rw [← hR]) rfl
  · refine j_eq (congrArg (fun z => va_rf z :: _) qv2) rfl ?_
    refine j_astore_n X (lv2 := [(3, .ref r_p), (0, .ref r_), (1, .int i1), (2, .int i2)]) dX8_peek_5 (by decide) rfl ?_
    refine j_aload_n X (q := 0) dX8_peek_6 rfl ?_
    refine j_ifnull X dX8_peek_7 ?_
    refine j_aload_n X (q := 0) dX8_peek_10 rfl ?_
    refine j_iload_n X (q := 3) dX8_peek_11 rfl ?_
    obtain ⟨ov3, hov3, hR⟩ := bd_some hR
    refine j_callV X (As := [.int i2]) (rest := []) (ws2 := [cWB r_ r_n r_k r_h r_e r_x r_q ik, cTap r_p r_pi so_p si_p, cQar cT r_q 6 f_q, cJar cJ r_pi 60 f_pi]) (q0 := 1) (ci := 4) (mX4_has l D cI cJ cB cT tt r_p r_pi hov3) [1, 3] [.inl 0, .inr 0, .inl 2, .inr 1] k_602 k_599 k_600 k_601 rfl rfl k_46 hdX4_has (by decide) (Nat.le_of_ble_eq_true rfl) dX8_peek_12 (by decide) rfl rfl (by decide) rfl rfl ?_
    refine j_if_ne X (tgt := 24) dX8_peek_15 (by decide) (fun cv4 => ?_) (fun cv4 => ?_)
    · replace hR := (if_neg cv4).symm.trans hR
      refine j_aload_n X (q := 0) dX8_peek_24 rfl ?_
      refine j_get X 1 2 hiX4 k_256 dX8_peek_25 rfl rfl (by decide) rfl ?_
      refine j_iload_n X (q := 3) dX8_peek_28 rfl ?_
      obtain ⟨gv5, hR⟩ := gd_some hR
      refine j_lald X 3 1 rfl dX8_peek_29 rfl rfl gv5 ?_
      have hR := Option.some.inj hR
      exact j_lret X hr dX8_peek_30 (by rw [← hR]) rfl
    · replace hR := (if_pos cv4).symm.trans hR
      refine j_ldc2 X k_399 dX8_peek_18 ?_
      refine j_goto X (tgt := 30) dX8_peek_21 (by decide) ?_
      have hR := Option.some.inj hR
      exact j_lret X hr dX8_peek_30 (by rw [← hR]) rfl

def rmX8_shift : Room := { frames := 1, cells := 0, slots := 0, locals := 40 }
theorem hdX8_shift : yX8_shift.cls ≠ "java/lang/invoke/MethodHandle" ∧ yX8_shift.cls ≠ "java/lang/invoke/VarHandle" ∧ (parseMethodDescriptor yX8_shift.desc).map (fun d => d.parameters.length) = some 5 := by decide +kernel
def fX8_shift (r_p : Nat) (r_p2 : Nat) (i1 : Int32) (i2 : Int32) (i3 : Int32) (i4 : Int32) (i5 : Int32) (ik : Int32) (so_p : Int32) (si_p : Int32) (so_p2 : Int32) (si_p2 : Int32) (f_q : Nat → Option Nat) (f_pi : Nat → Int64) (f_p2i : Nat → Int64) : Option (Int32 × (Nat → Int64)) :=
  (fX8_tapeAt i1 ik f_q).bind fun ov1 =>
  oq ov1 ((fX8_tapeAt i3 ik f_q).bind fun ov3 =>
  oq ov3 (some ((-1), f_p2i)) r_p2 (some ((-1), f_p2i))) r_p ((fX8_tapeAt i3 ik f_q).bind fun ov5 =>
  oq ov5 (some ((-1), f_p2i)) r_p2 (if so_p = (-1) then (some ((-11), f_p2i)) else (if so_p2 = (-1) then (some ((-11), f_p2i)) else (if so_p = so_p2 then ((fX4_hasRun i2 i5 so_p si_p f_pi).bind fun ov10 =>
  if ov10 = 0 then (some ((-13), f_p2i)) else ((fX4_hasRun i4 i5 so_p2 si_p2 f_p2i).bind fun ov12 =>
  if ov12 = 0 then (some ((-13), f_p2i)) else (gd (!decide (i2 < 0)) (gd (!decide (i4 < 0)) (gd (!decide (i5 < 0)) (gd (decide (i2.toNatClampNeg + i5.toNatClampNeg ≤ 60)) (gd (decide (i4.toNatClampNeg + i5.toNatClampNeg ≤ 60)) (lt' (va_cpy f_pi f_p2i i2.toNatClampNeg i4.toNatClampNeg i5.toNatClampNeg) fun f_p2iv19 =>
  some (i5, f_p2iv19))))))))) else (some ((-12), f_p2i))))))
set_option maxHeartbeats 8000000 in
set_option maxRecDepth 100000 in
theorem mX8_shift (l : Launch) (D : va_G) (cI cJ cB cT : ClassId) (tt : Nat → Nat) (r_ r_n r_k r_h r_e r_x r_q r_p r_pi r_p2 r_p2i : Nat) {i1 : Int32} {i2 : Int32} {i3 : Int32} {i4 : Int32} {i5 : Int32} {ik : Int32} {so_p : Int32} {si_p : Int32} {so_p2 : Int32} {si_p2 : Int32} {f_q : Nat → Option Nat} {f_pi : Nat → Int64} {f_p2i : Nat → Int64} {out : Int32 × (Nat → Int64)} (h : fX8_shift r_p r_p2 i1 i2 i3 i4 i5 ik so_p si_p so_p2 si_p2 f_q f_pi f_p2i = some out) :
    jM l yX8_shift (.code yX8_shift cX8_shift 8 (some .int)) rmX8_shift D (wTy cI cJ cB cT) tt [.ref r_, .int i1, .int i2, .int i3, .int i4, .int i5] [cWB r_ r_n r_k r_h r_e r_x r_q ik, cTap r_p r_pi so_p si_p, cTap r_p2 r_p2i so_p2 si_p2, cQar cT r_q 6 f_q, cJar cJ r_pi 60 f_pi, cJar cJ r_p2i 60 f_p2i] (some (.int out.1)) [cWB r_ r_n r_k r_h r_e r_x r_q ik, cTap r_p r_pi so_p si_p, cTap r_p2 r_p2i so_p2 si_p2, cQar cT r_q 6 f_q, cJar cJ r_pi 60 f_pi, cJar cJ r_p2i 60 out.2] := by
  refine jM.of (by decide) (Nat.le_of_ble_eq_true rfl) ?_
  intro p e s m below meth c A X hr
  refine j_sub (lv2 := [(0, .ref r_), (1, .int i1), (2, .int i2), (3, .int i3), (4, .int i4), (5, .int i5)]) [0, 1, 2, 3, 4, 5] rfl ?_
  have hR := h
  unfold fX8_shift at hR
  refine j_aload_n X (q := 0) dX8_shift_0 rfl ?_
  refine j_iload_n X (q := 1) dX8_shift_1 rfl ?_
  obtain ⟨ov1, hov1, hR⟩ := bd_some hR
  refine j_callV X (As := [.int i1]) (rest := []) (ws2 := [cWB r_ r_n r_k r_h r_e r_x r_q ik, cTap r_p r_pi so_p si_p, cTap r_p2 r_p2i so_p2 si_p2, cQar cT r_q 6 f_q, cJar cJ r_pi 60 f_pi, cJar cJ r_p2i 60 f_p2i]) (q0 := 0) (ci := 8) (mX8_tapeAt l D cI cJ cB cT tt r_ r_n r_k r_h r_e r_x r_q hov1) [0, 3] [.inr 0, .inl 1, .inl 2, .inr 1, .inl 4, .inl 5] k_594 k_591 k_593 k_18 rfl rfl k_38 hdX8_tapeAt (by decide) (Nat.le_of_ble_eq_true rfl) dX8_shift_2 (by decide) rfl rfl (by decide) rfl rfl ?_
  rcases oq_some hR with ⟨qv2, hR⟩ | ⟨qv2, hR⟩
  · refine j_eq (congrArg (fun z => va_rf z :: _) qv2) rfl ?_
    refine j_astoreN X (lv2 := [(6, .null), (0, .ref r_), (1, .int i1), (2, .int i2), (3, .int i3), (4, .int i4), (5, .int i5)]) dX8_shift_5 (by decide) rfl ?_
    refine j_aload_n X (q := 1) dX8_shift_7 rfl ?_
    refine j_iload_n X (q := 4) dX8_shift_8 rfl ?_
    obtain ⟨ov3, hov3, hR⟩ := bd_some hR
    refine j_callV X (As := [.int i3]) (rest := []) (ws2 := [cWB r_ r_n r_k r_h r_e r_x r_q ik, cTap r_p r_pi so_p si_p, cTap r_p2 r_p2i so_p2 si_p2, cQar cT r_q 6 f_q, cJar cJ r_pi 60 f_pi, cJar cJ r_p2i 60 f_p2i]) (q0 := 0) (ci := 8) (mX8_tapeAt l D cI cJ cB cT tt r_ r_n r_k r_h r_e r_x r_q hov3) [0, 3] [.inr 0, .inl 1, .inl 2, .inr 1, .inl 4, .inl 5] k_594 k_591 k_593 k_18 rfl rfl k_38 hdX8_tapeAt (by decide) (Nat.le_of_ble_eq_true rfl) dX8_shift_9 (by decide) rfl rfl (by decide) rfl rfl ?_
    rcases oq_some hR with ⟨qv4, hR⟩ | ⟨qv4, hR⟩
    · refine j_eq (congrArg (fun z => va_rf z :: _) qv4) rfl ?_
      refine j_astoreN X (lv2 := [(7, .null), (6, .null), (0, .ref r_), (1, .int i1), (2, .int i2), (3, .int i3), (4, .int i4), (5, .int i5)]) dX8_shift_12 (by decide) rfl ?_
      refine j_aloadN X (q := 1) dX8_shift_14 rfl ?_
      refine j_ifnullN X (tgt := 24) dX8_shift_16 (by decide) ?_
      refine j_iconst X (v := (-1)) dX8_shift_24 (by decide) ?_
      have hR := Option.some.inj hR
      exact j_iret X hr dX8_shift_25 (by rw [← hR]) (by rw [← hR])
    · refine j_eq (congrArg (fun z => va_rf z :: _) qv4) rfl ?_
      refine j_astore X (lv2 := [(7, .ref r_p2), (6, .null), (0, .ref r_), (1, .int i1), (2, .int i2), (3, .int i3), (4, .int i4), (5, .int i5)]) dX8_shift_12 (by decide) rfl ?_
      refine j_aloadN X (q := 1) dX8_shift_14 rfl ?_
      refine j_ifnullN X (tgt := 24) dX8_shift_16 (by decide) ?_
      refine j_iconst X (v := (-1)) dX8_shift_24 (by decide) ?_
      have hR := Option.some.inj hR
      exact j_iret X hr dX8_shift_25 (by rw [← hR]) (by rw [← hR])
  · refine j_eq (congrArg (fun z => va_rf z :: _) qv2) rfl ?_
    refine j_astore X (lv2 := [(6, .ref r_p), (0, .ref r_), (1, .int i1), (2, .int i2), (3, .int i3), (4, .int i4), (5, .int i5)]) dX8_shift_5 (by decide) rfl ?_
    refine j_aload_n X (q := 1) dX8_shift_7 rfl ?_
    refine j_iload_n X (q := 4) dX8_shift_8 rfl ?_
    obtain ⟨ov5, hov5, hR⟩ := bd_some hR
    refine j_callV X (As := [.int i3]) (rest := []) (ws2 := [cWB r_ r_n r_k r_h r_e r_x r_q ik, cTap r_p r_pi so_p si_p, cTap r_p2 r_p2i so_p2 si_p2, cQar cT r_q 6 f_q, cJar cJ r_pi 60 f_pi, cJar cJ r_p2i 60 f_p2i]) (q0 := 0) (ci := 8) (mX8_tapeAt l D cI cJ cB cT tt r_ r_n r_k r_h r_e r_x r_q hov5) [0, 3] [.inr 0, .inl 1, .inl 2, .inr 1, .inl 4, .inl 5] k_594 k_591 k_593 k_18 rfl rfl k_38 hdX8_tapeAt (by decide) (Nat.le_of_ble_eq_true rfl) dX8_shift_9 (by decide) rfl rfl (by decide) rfl rfl ?_
    rcases oq_some hR with ⟨qv6, hR⟩ | ⟨qv6, hR⟩
    · refine j_eq (congrArg (fun z => va_rf z :: _) qv6) rfl ?_
      refine j_astoreN X (lv2 := [(7, .null), (6, .ref r_p), (0, .ref r_), (1, .int i1), (2, .int i2), (3, .int i3), (4, .int i4), (5, .int i5)]) dX8_shift_12 (by decide) rfl ?_
      refine j_aload X (q := 1) dX8_shift_14 rfl ?_
      refine j_ifnull X dX8_shift_16 ?_
      refine j_aloadN X (q := 0) dX8_shift_19 rfl ?_
      refine j_ifnonnullN X dX8_shift_21 ?_
      refine j_iconst X (v := (-1)) dX8_shift_24 (by decide) ?_
      have hR := Option.some.inj hR
      exact j_iret X hr dX8_shift_25 (by rw [← hR]) (by rw [← hR])
    · refine j_eq (congrArg (fun z => va_rf z :: _) qv6) rfl ?_
      refine j_astore X (lv2 := [(7, .ref r_p2), (6, .ref r_p), (0, .ref r_), (1, .int i1), (2, .int i2), (3, .int i3), (4, .int i4), (5, .int i5)]) dX8_shift_12 (by decide) rfl ?_
      refine j_aload X (q := 1) dX8_shift_14 rfl ?_
      refine j_ifnull X dX8_shift_16 ?_
      refine j_aload X (q := 0) dX8_shift_19 rfl ?_
      refine j_ifnonnull X (tgt := 26) dX8_shift_21 (by decide) ?_
      refine j_aload X (q := 1) dX8_shift_26 rfl ?_
      refine j_get X 1 0 hiX4 k_252 dX8_shift_28 rfl rfl (by decide) rfl ?_
      refine j_iconst X (v := (-1)) dX8_shift_31 (by decide) ?_
      refine j_icmp_eq X (tgt := 44) dX8_shift_32 (by decide) (fun cv7 => ?_) (fun cv7 => ?_)
      · replace hR := (if_pos cv7).symm.trans hR
        refine j_bipush X (v := (-11)) dX8_shift_44 (by decide) ?_
        have hR := Option.some.inj hR
        exact j_iret X hr dX8_shift_46 (by rw [← hR]) (by rw [← hR])
      · replace hR := (if_neg cv7).symm.trans hR
        refine j_aload X (q := 0) dX8_shift_35 rfl ?_
        refine j_get X 2 0 hiX4 k_252 dX8_shift_37 rfl rfl (by decide) rfl ?_
        refine j_iconst X (v := (-1)) dX8_shift_40 (by decide) ?_
        refine j_icmp_ne X (tgt := 47) dX8_shift_41 (by decide) (fun cv8 => ?_) (fun cv8 => ?_)
        · replace hR := (if_neg cv8).symm.trans hR
          refine j_aload X (q := 1) dX8_shift_47 rfl ?_
          refine j_get X 1 0 hiX4 k_252 dX8_shift_49 rfl rfl (by decide) rfl ?_
          refine j_aload X (q := 0) dX8_shift_52 rfl ?_
          refine j_get X 2 0 hiX4 k_252 dX8_shift_54 rfl rfl (by decide) rfl ?_
          refine j_icmp_eq X (tgt := 63) dX8_shift_57 (by decide) (fun cv9 => ?_) (fun cv9 => ?_)
          · replace hR := (if_pos cv9).symm.trans hR
            refine j_aload X (q := 1) dX8_shift_63 rfl ?_
            refine j_iload_n X (q := 4) dX8_shift_65 rfl ?_
            refine j_iload X (q := 7) dX8_shift_66 rfl ?_
            obtain ⟨ov10, hov10, hR⟩ := bd_some hR
            refine j_callV X (As := [.int i2, .int i5]) (rest := []) (ws2 := [cWB r_ r_n r_k r_h r_e r_x r_q ik, cTap r_p r_pi so_p si_p, cTap r_p2 r_p2i so_p2 si_p2, cQar cT r_q 6 f_q, cJar cJ r_pi 60 f_pi, cJar cJ r_p2i 60 f_p2i]) (q0 := 1) (ci := 4) (mX4_hasRun l D cI cJ cB cT tt r_p r_pi hov10) [1, 4] [.inl 0, .inr 0, .inl 2, .inl 3, .inr 1, .inl 5] k_655 k_652 k_653 k_654 rfl rfl k_46 hdX4_hasRun (by decide) (Nat.le_of_ble_eq_true rfl) dX8_shift_68 (by decide) rfl rfl (by decide) rfl rfl ?_
            refine j_if_eq X (tgt := 86) dX8_shift_71 (by decide) (fun cv11 => ?_) (fun cv11 => ?_)
            · replace hR := (if_pos cv11).symm.trans hR
              refine j_bipush X (v := (-13)) dX8_shift_86 (by decide) ?_
              have hR := Option.some.inj hR
              exact j_iret X hr dX8_shift_88 (by rw [← hR]) (by rw [← hR])
            · replace hR := (if_neg cv11).symm.trans hR
              refine j_aload X (q := 0) dX8_shift_74 rfl ?_
              refine j_iload X (q := 6) dX8_shift_76 rfl ?_
              refine j_iload X (q := 7) dX8_shift_78 rfl ?_
              obtain ⟨ov12, hov12, hR⟩ := bd_some hR
              refine j_callV X (As := [.int i4, .int i5]) (rest := []) (ws2 := [cWB r_ r_n r_k r_h r_e r_x r_q ik, cTap r_p r_pi so_p si_p, cTap r_p2 r_p2i so_p2 si_p2, cQar cT r_q 6 f_q, cJar cJ r_pi 60 f_pi, cJar cJ r_p2i 60 f_p2i]) (q0 := 2) (ci := 4) (mX4_hasRun l D cI cJ cB cT tt r_p2 r_p2i hov12) [2, 5] [.inl 0, .inl 1, .inr 0, .inl 3, .inl 4, .inr 1] k_655 k_652 k_653 k_654 rfl rfl k_46 hdX4_hasRun (by decide) (Nat.le_of_ble_eq_true rfl) dX8_shift_80 (by decide) rfl rfl (by decide) rfl rfl ?_
              refine j_if_ne X (tgt := 89) dX8_shift_83 (by decide) (fun cv13 => ?_) (fun cv13 => ?_)
              · replace hR := (if_neg cv13).symm.trans hR
                refine j_aload X (q := 1) dX8_shift_89 rfl ?_
                refine j_get X 1 2 hiX4 k_256 dX8_shift_91 rfl rfl (by decide) rfl ?_
                refine j_iload_n X (q := 4) dX8_shift_94 rfl ?_
                refine j_aload X (q := 0) dX8_shift_95 rfl ?_
                refine j_get X 2 2 hiX4 k_256 dX8_shift_97 rfl rfl (by decide) rfl ?_
                refine j_iload X (q := 6) dX8_shift_100 rfl ?_
                refine j_iload X (q := 7) dX8_shift_102 rfl ?_
                obtain ⟨gv14, hR⟩ := gd_some hR
                obtain ⟨gv15, hR⟩ := gd_some hR
                obtain ⟨gv16, hR⟩ := gd_some hR
                obtain ⟨gv17, hR⟩ := gd_some hR
                obtain ⟨gv18, hR⟩ := gd_some hR
                obtain ⟨f_p2iv19, ef_p2iv19, hR⟩ := lt_some hR
                refine j_copyl X (ws2 := [cWB r_ r_n r_k r_h r_e r_x r_q ik, cTap r_p r_pi so_p si_p, cTap r_p2 r_p2i so_p2 si_p2, cQar cT r_q 6 f_q, cJar cJ r_pi 60 f_pi, cJar cJ r_p2i 60 f_p2iv19]) 4 5 1 1 k_656 k_658 k_657 k_49 rfl rfl rfl rfl (by simpa using gv14) (by simpa using gv15) (by simpa using gv16) (by simpa using gv17) (by simpa using gv18) ⟨by decide, Nat.le_of_ble_eq_true rfl⟩ dX8_shift_104 ef_p2iv19 rfl ?_
                refine j_iload X (q := 7) dX8_shift_107 rfl ?_
                have hR := Option.some.inj hR
                exact j_iret X hr dX8_shift_109 (by rw [← hR]) (by rw [← hR])
              · replace hR := (if_pos cv13).symm.trans hR
                refine j_bipush X (v := (-13)) dX8_shift_86 (by decide) ?_
                have hR := Option.some.inj hR
                exact j_iret X hr dX8_shift_88 (by rw [← hR]) (by rw [← hR])
          · replace hR := (if_neg cv9).symm.trans hR
            refine j_bipush X (v := (-12)) dX8_shift_60 (by decide) ?_
            have hR := Option.some.inj hR
            exact j_iret X hr dX8_shift_62 (by rw [← hR]) (by rw [← hR])
        · replace hR := (if_pos cv8).symm.trans hR
          refine j_bipush X (v := (-11)) dX8_shift_44 (by decide) ?_
          have hR := Option.some.inj hR
          exact j_iret X hr dX8_shift_46 (by rw [← hR]) (by rw [← hR])

def rmX8_shift_same : Room := { frames := 1, cells := 0, slots := 0, locals := 40 }

def fX8_shift_same (r_p : Nat) (r_p : Nat) (i1 : Int32) (i2 : Int32) (i3 : Int32) (i4 : Int32) (i5 : Int32) (ik : Int32) (so_p : Int32) (si_p : Int32) (f_q : Nat → Option Nat) (f_pi : Nat → Int64) : Option (Int32 × (Nat → Int64)) :=
  (fX8_tapeAt i1 ik f_q).bind fun ov1 =>
  oq ov1 ((fX8_tapeAt i3 ik f_q).bind fun ov3 =>
  oq ov3 (some ((-1), f_pi)) r_p (some ((-1), f_pi))) r_p ((fX8_tapeAt i3 ik f_q).bind fun ov5 =>
  oq ov5 (some ((-1), f_pi)) r_p (if so_p = (-1) then (some ((-11), f_pi)) else (if so_p = (-1) then (some ((-11), f_pi)) else (if so_p = so_p then ((fX4_hasRun i2 i5 so_p si_p f_pi).bind fun ov10 =>
  if ov10 = 0 then (some ((-13), f_pi)) else ((fX4_hasRun i4 i5 so_p si_p f_pi).bind fun ov12 =>
  if ov12 = 0 then (some ((-13), f_pi)) else (gd (!decide (i2 < 0)) (gd (!decide (i4 < 0)) (gd (!decide (i5 < 0)) (gd (decide (i2.toNatClampNeg + i5.toNatClampNeg ≤ 60)) (gd (decide (i4.toNatClampNeg + i5.toNatClampNeg ≤ 60)) (lt' (va_cpy f_pi f_pi i2.toNatClampNeg i4.toNatClampNeg i5.toNatClampNeg) fun f_piv19 =>
  some (i5, f_piv19))))))))) else (some ((-12), f_pi))))))
set_option maxHeartbeats 8000000 in
set_option maxRecDepth 100000 in
theorem mX8_shift_same (l : Launch) (D : va_G) (cI cJ cB cT : ClassId) (tt : Nat → Nat) (r_ r_n r_k r_h r_e r_x r_q r_p r_pi : Nat) {i1 : Int32} {i2 : Int32} {i3 : Int32} {i4 : Int32} {i5 : Int32} {ik : Int32} {so_p : Int32} {si_p : Int32} {f_q : Nat → Option Nat} {f_pi : Nat → Int64} {out : Int32 × (Nat → Int64)} (h : fX8_shift_same r_p r_p i1 i2 i3 i4 i5 ik so_p si_p f_q f_pi = some out) :
    jM l yX8_shift (.code yX8_shift cX8_shift 8 (some .int)) rmX8_shift_same D (wTy cI cJ cB cT) tt [.ref r_, .int i1, .int i2, .int i3, .int i4, .int i5] [cWB r_ r_n r_k r_h r_e r_x r_q ik, cTap r_p r_pi so_p si_p, cQar cT r_q 6 f_q, cJar cJ r_pi 60 f_pi] (some (.int out.1)) [cWB r_ r_n r_k r_h r_e r_x r_q ik, cTap r_p r_pi so_p si_p, cQar cT r_q 6 f_q, cJar cJ r_pi 60 out.2] := by
  refine jM.of (by decide) (Nat.le_of_ble_eq_true rfl) ?_
  intro p e s m below meth c A X hr
  refine j_sub (lv2 := [(0, .ref r_), (1, .int i1), (2, .int i2), (3, .int i3), (4, .int i4), (5, .int i5)]) [0, 1, 2, 3, 4, 5] rfl ?_
  have hR := h
  unfold fX8_shift_same at hR
  refine j_aload_n X (q := 0) dX8_shift_0 rfl ?_
  refine j_iload_n X (q := 1) dX8_shift_1 rfl ?_
  obtain ⟨ov1, hov1, hR⟩ := bd_some hR
  refine j_callV X (As := [.int i1]) (rest := []) (ws2 := [cWB r_ r_n r_k r_h r_e r_x r_q ik, cTap r_p r_pi so_p si_p, cQar cT r_q 6 f_q, cJar cJ r_pi 60 f_pi]) (q0 := 0) (ci := 8) (mX8_tapeAt l D cI cJ cB cT tt r_ r_n r_k r_h r_e r_x r_q hov1) [0, 2] [.inr 0, .inl 1, .inr 1, .inl 3] k_594 k_591 k_593 k_18 rfl rfl k_38 hdX8_tapeAt (by decide) (Nat.le_of_ble_eq_true rfl) dX8_shift_2 (by decide) rfl rfl (by decide) rfl rfl ?_
  rcases oq_some hR with ⟨qv2, hR⟩ | ⟨qv2, hR⟩
  · refine j_eq (congrArg (fun z => va_rf z :: _) qv2) rfl ?_
    refine j_astoreN X (lv2 := [(6, .null), (0, .ref r_), (1, .int i1), (2, .int i2), (3, .int i3), (4, .int i4), (5, .int i5)]) dX8_shift_5 (by decide) rfl ?_
    refine j_aload_n X (q := 1) dX8_shift_7 rfl ?_
    refine j_iload_n X (q := 4) dX8_shift_8 rfl ?_
    obtain ⟨ov3, hov3, hR⟩ := bd_some hR
    refine j_callV X (As := [.int i3]) (rest := []) (ws2 := [cWB r_ r_n r_k r_h r_e r_x r_q ik, cTap r_p r_pi so_p si_p, cQar cT r_q 6 f_q, cJar cJ r_pi 60 f_pi]) (q0 := 0) (ci := 8) (mX8_tapeAt l D cI cJ cB cT tt r_ r_n r_k r_h r_e r_x r_q hov3) [0, 2] [.inr 0, .inl 1, .inr 1, .inl 3] k_594 k_591 k_593 k_18 rfl rfl k_38 hdX8_tapeAt (by decide) (Nat.le_of_ble_eq_true rfl) dX8_shift_9 (by decide) rfl rfl (by decide) rfl rfl ?_
    rcases oq_some hR with ⟨qv4, hR⟩ | ⟨qv4, hR⟩
    · refine j_eq (congrArg (fun z => va_rf z :: _) qv4) rfl ?_
      refine j_astoreN X (lv2 := [(7, .null), (6, .null), (0, .ref r_), (1, .int i1), (2, .int i2), (3, .int i3), (4, .int i4), (5, .int i5)]) dX8_shift_12 (by decide) rfl ?_
      refine j_aloadN X (q := 1) dX8_shift_14 rfl ?_
      refine j_ifnullN X (tgt := 24) dX8_shift_16 (by decide) ?_
      refine j_iconst X (v := (-1)) dX8_shift_24 (by decide) ?_
      have hR := Option.some.inj hR
      exact j_iret X hr dX8_shift_25 (by rw [← hR]) (by rw [← hR])
    · refine j_eq (congrArg (fun z => va_rf z :: _) qv4) rfl ?_
      refine j_astore X (lv2 := [(7, .ref r_p), (6, .null), (0, .ref r_), (1, .int i1), (2, .int i2), (3, .int i3), (4, .int i4), (5, .int i5)]) dX8_shift_12 (by decide) rfl ?_
      refine j_aloadN X (q := 1) dX8_shift_14 rfl ?_
      refine j_ifnullN X (tgt := 24) dX8_shift_16 (by decide) ?_
      refine j_iconst X (v := (-1)) dX8_shift_24 (by decide) ?_
      have hR := Option.some.inj hR
      exact j_iret X hr dX8_shift_25 (by rw [← hR]) (by rw [← hR])
  · refine j_eq (congrArg (fun z => va_rf z :: _) qv2) rfl ?_
    refine j_astore X (lv2 := [(6, .ref r_p), (0, .ref r_), (1, .int i1), (2, .int i2), (3, .int i3), (4, .int i4), (5, .int i5)]) dX8_shift_5 (by decide) rfl ?_
    refine j_aload_n X (q := 1) dX8_shift_7 rfl ?_
    refine j_iload_n X (q := 4) dX8_shift_8 rfl ?_
    obtain ⟨ov5, hov5, hR⟩ := bd_some hR
    refine j_callV X (As := [.int i3]) (rest := []) (ws2 := [cWB r_ r_n r_k r_h r_e r_x r_q ik, cTap r_p r_pi so_p si_p, cQar cT r_q 6 f_q, cJar cJ r_pi 60 f_pi]) (q0 := 0) (ci := 8) (mX8_tapeAt l D cI cJ cB cT tt r_ r_n r_k r_h r_e r_x r_q hov5) [0, 2] [.inr 0, .inl 1, .inr 1, .inl 3] k_594 k_591 k_593 k_18 rfl rfl k_38 hdX8_tapeAt (by decide) (Nat.le_of_ble_eq_true rfl) dX8_shift_9 (by decide) rfl rfl (by decide) rfl rfl ?_
    rcases oq_some hR with ⟨qv6, hR⟩ | ⟨qv6, hR⟩
    · refine j_eq (congrArg (fun z => va_rf z :: _) qv6) rfl ?_
      refine j_astoreN X (lv2 := [(7, .null), (6, .ref r_p), (0, .ref r_), (1, .int i1), (2, .int i2), (3, .int i3), (4, .int i4), (5, .int i5)]) dX8_shift_12 (by decide) rfl ?_
      refine j_aload X (q := 1) dX8_shift_14 rfl ?_
      refine j_ifnull X dX8_shift_16 ?_
      refine j_aloadN X (q := 0) dX8_shift_19 rfl ?_
      refine j_ifnonnullN X dX8_shift_21 ?_
      refine j_iconst X (v := (-1)) dX8_shift_24 (by decide) ?_
      have hR := Option.some.inj hR
      exact j_iret X hr dX8_shift_25 (by rw [← hR]) (by rw [← hR])
    · refine j_eq (congrArg (fun z => va_rf z :: _) qv6) rfl ?_
      refine j_astore X (lv2 := [(7, .ref r_p), (6, .ref r_p), (0, .ref r_), (1, .int i1), (2, .int i2), (3, .int i3), (4, .int i4), (5, .int i5)]) dX8_shift_12 (by decide) rfl ?_
      refine j_aload X (q := 1) dX8_shift_14 rfl ?_
      refine j_ifnull X dX8_shift_16 ?_
      refine j_aload X (q := 0) dX8_shift_19 rfl ?_
      refine j_ifnonnull X (tgt := 26) dX8_shift_21 (by decide) ?_
      refine j_aload X (q := 1) dX8_shift_26 rfl ?_
      refine j_get X 1 0 hiX4 k_252 dX8_shift_28 rfl rfl (by decide) rfl ?_
      refine j_iconst X (v := (-1)) dX8_shift_31 (by decide) ?_
      refine j_icmp_eq X (tgt := 44) dX8_shift_32 (by decide) (fun cv7 => ?_) (fun cv7 => ?_)
      · replace hR := (if_pos cv7).symm.trans hR
        refine j_bipush X (v := (-11)) dX8_shift_44 (by decide) ?_
        have hR := Option.some.inj hR
        exact j_iret X hr dX8_shift_46 (by rw [← hR]) (by rw [← hR])
      · replace hR := (if_neg cv7).symm.trans hR
        refine j_aload X (q := 0) dX8_shift_35 rfl ?_
        refine j_get X 1 0 hiX4 k_252 dX8_shift_37 rfl rfl (by decide) rfl ?_
        refine j_iconst X (v := (-1)) dX8_shift_40 (by decide) ?_
        refine j_icmp_ne X (tgt := 47) dX8_shift_41 (by decide) (fun cv8 => ?_) (fun cv8 => ?_)
        · replace hR := (if_neg cv8).symm.trans hR
          refine j_aload X (q := 1) dX8_shift_47 rfl ?_
          refine j_get X 1 0 hiX4 k_252 dX8_shift_49 rfl rfl (by decide) rfl ?_
          refine j_aload X (q := 0) dX8_shift_52 rfl ?_
          refine j_get X 1 0 hiX4 k_252 dX8_shift_54 rfl rfl (by decide) rfl ?_
          refine j_icmp_eq X (tgt := 63) dX8_shift_57 (by decide) (fun cv9 => ?_) (fun cv9 => ?_)
          · replace hR := (if_pos cv9).symm.trans hR
            refine j_aload X (q := 1) dX8_shift_63 rfl ?_
            refine j_iload_n X (q := 4) dX8_shift_65 rfl ?_
            refine j_iload X (q := 7) dX8_shift_66 rfl ?_
            obtain ⟨ov10, hov10, hR⟩ := bd_some hR
            refine j_callV X (As := [.int i2, .int i5]) (rest := []) (ws2 := [cWB r_ r_n r_k r_h r_e r_x r_q ik, cTap r_p r_pi so_p si_p, cQar cT r_q 6 f_q, cJar cJ r_pi 60 f_pi]) (q0 := 1) (ci := 4) (mX4_hasRun l D cI cJ cB cT tt r_p r_pi hov10) [1, 3] [.inl 0, .inr 0, .inl 2, .inr 1] k_655 k_652 k_653 k_654 rfl rfl k_46 hdX4_hasRun (by decide) (Nat.le_of_ble_eq_true rfl) dX8_shift_68 (by decide) rfl rfl (by decide) rfl rfl ?_
            refine j_if_eq X (tgt := 86) dX8_shift_71 (by decide) (fun cv11 => ?_) (fun cv11 => ?_)
            · replace hR := (if_pos cv11).symm.trans hR
              refine j_bipush X (v := (-13)) dX8_shift_86 (by decide) ?_
              have hR := Option.some.inj hR
              exact j_iret X hr dX8_shift_88 (by rw [← hR]) (by rw [← hR])
            · replace hR := (if_neg cv11).symm.trans hR
              refine j_aload X (q := 0) dX8_shift_74 rfl ?_
              refine j_iload X (q := 6) dX8_shift_76 rfl ?_
              refine j_iload X (q := 7) dX8_shift_78 rfl ?_
              obtain ⟨ov12, hov12, hR⟩ := bd_some hR
              refine j_callV X (As := [.int i4, .int i5]) (rest := []) (ws2 := [cWB r_ r_n r_k r_h r_e r_x r_q ik, cTap r_p r_pi so_p si_p, cQar cT r_q 6 f_q, cJar cJ r_pi 60 f_pi]) (q0 := 1) (ci := 4) (mX4_hasRun l D cI cJ cB cT tt r_p r_pi hov12) [1, 3] [.inl 0, .inr 0, .inl 2, .inr 1] k_655 k_652 k_653 k_654 rfl rfl k_46 hdX4_hasRun (by decide) (Nat.le_of_ble_eq_true rfl) dX8_shift_80 (by decide) rfl rfl (by decide) rfl rfl ?_
              refine j_if_ne X (tgt := 89) dX8_shift_83 (by decide) (fun cv13 => ?_) (fun cv13 => ?_)
              · replace hR := (if_neg cv13).symm.trans hR
                refine j_aload X (q := 1) dX8_shift_89 rfl ?_
                refine j_get X 1 2 hiX4 k_256 dX8_shift_91 rfl rfl (by decide) rfl ?_
                refine j_iload_n X (q := 4) dX8_shift_94 rfl ?_
                refine j_aload X (q := 0) dX8_shift_95 rfl ?_
                refine j_get X 1 2 hiX4 k_256 dX8_shift_97 rfl rfl (by decide) rfl ?_
                refine j_iload X (q := 6) dX8_shift_100 rfl ?_
                refine j_iload X (q := 7) dX8_shift_102 rfl ?_
                obtain ⟨gv14, hR⟩ := gd_some hR
                obtain ⟨gv15, hR⟩ := gd_some hR
                obtain ⟨gv16, hR⟩ := gd_some hR
                obtain ⟨gv17, hR⟩ := gd_some hR
                obtain ⟨gv18, hR⟩ := gd_some hR
                obtain ⟨f_piv19, ef_piv19, hR⟩ := lt_some hR
                refine j_copyl X (ws2 := [cWB r_ r_n r_k r_h r_e r_x r_q ik, cTap r_p r_pi so_p si_p, cQar cT r_q 6 f_q, cJar cJ r_pi 60 f_piv19]) 3 3 1 1 k_656 k_658 k_657 k_49 rfl rfl rfl rfl (by simpa using gv14) (by simpa using gv15) (by simpa using gv16) (by simpa using gv17) (by simpa using gv18) ⟨by decide, Nat.le_of_ble_eq_true rfl⟩ dX8_shift_104 ef_piv19 rfl ?_
                refine j_iload X (q := 7) dX8_shift_107 rfl ?_
                have hR := Option.some.inj hR
                exact j_iret X hr dX8_shift_109 (by rw [← hR]) (by rw [← hR])
              · replace hR := (if_pos cv13).symm.trans hR
                refine j_bipush X (v := (-13)) dX8_shift_86 (by decide) ?_
                have hR := Option.some.inj hR
                exact j_iret X hr dX8_shift_88 (by rw [← hR]) (by rw [← hR])
          · replace hR := (if_neg cv9).symm.trans hR
            refine j_bipush X (v := (-12)) dX8_shift_60 (by decide) ?_
            have hR := Option.some.inj hR
            exact j_iret X hr dX8_shift_62 (by rw [← hR]) (by rw [← hR])
        · replace hR := (if_pos cv8).symm.trans hR
          refine j_bipush X (v := (-11)) dX8_shift_44 (by decide) ?_
          have hR := Option.some.inj hR
          exact j_iret X hr dX8_shift_46 (by rw [← hR]) (by rw [← hR])
