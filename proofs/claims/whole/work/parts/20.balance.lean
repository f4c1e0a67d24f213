def rmX2_copy : Room := { frames := 0, cells := 0, slots := 0, locals := 0 }
theorem hdX2_copy : yX2_copy.cls ≠ "java/lang/invoke/MethodHandle" ∧ yX2_copy.cls ≠ "java/lang/invoke/VarHandle" ∧ (parseMethodDescriptor yX2_copy.desc).map (fun d => d.parameters.length) = some 1 := by decide +kernel
def fX2_copy_10 (k_1 : Int32) (f_1s : Nat → Int32) (f_1t : Nat → Int32) (f_1w : Nat → Int32) : Nat → Int32 → Int32 → (Nat → Int32) → (Nat → Int32) → (Nat → Int32) → Option (Int32 × (Nat → Int32) × (Nat → Int32) × (Nat → Int32))
  | 0, _, _, _, _, _ => none
  | fu + 1, x2, k, f_s, f_t, f_w =>
    if k ≤ x2 then (some (k, f_s, f_t, f_w)) else (if (8 : Int32) ≤ x2 then (some (k, f_s, f_t, f_w)) else (gd (inb x2 8) (gd (inb x2 8) (lt' (upd f_t x2.toNatClampNeg (f_1t x2.toNatClampNeg)) fun f_tv5 =>
  gd (inb x2 8) (gd (inb x2 8) (lt' (upd f_w x2.toNatClampNeg (f_1w x2.toNatClampNeg)) fun f_wv8 =>
  gd (inb x2 8) (gd (inb x2 8) (lt' (upd f_s x2.toNatClampNeg (f_1s x2.toNatClampNeg)) fun f_sv11 =>
  lt' (x2 + 1) fun x2v12 =>
  fX2_copy_10 k_1 f_1s f_1t f_1w fu x2v12 k f_sv11 f_tv5 f_wv8))))))))
def fX2_copy (k : Int32) (k_1 : Int32) (f_s : Nat → Int32) (f_t : Nat → Int32) (f_w : Nat → Int32) (f_1s : Nat → Int32) (f_1t : Nat → Int32) (f_1w : Nat → Int32) : Option (Int32 × (Nat → Int32) × (Nat → Int32) × (Nat → Int32)) :=
  fX2_copy_10 k_1 f_1s f_1t f_1w 500 0 k_1 f_s f_t f_w
set_option maxHeartbeats 8000000 in
set_option maxRecDepth 100000 in
theorem mX2_copy (l : Launch) (D : va_G) (cI cJ cB cT : ClassId) (tt : Nat → Nat) (r_ r_t r_w r_s r_1 r_1t r_1w r_1s : Nat)  {k : Int32} {k_1 : Int32} {f_s : Nat → Int32} {f_t : Nat → Int32} {f_w : Nat → Int32} {f_1s : Nat → Int32} {f_1t : Nat → Int32} {f_1w : Nat → Int32} {out : Int32 × (Nat → Int32) × (Nat → Int32) × (Nat → Int32)} (h : fX2_copy k k_1 f_s f_t f_w f_1s f_1t f_1w = some out) :
    jM l yX2_copy (.code yX2_copy cX2_copy 3 none) rmX2_copy D (wTy cI cJ cB cT) tt [.ref r_, .ref r_1] [cPus r_ r_t r_w r_s k, cPus r_1 r_1t r_1w r_1s k_1, cIar cI r_s 8 f_s, cIar cI r_t 8 f_t, cIar cI r_w 8 f_w, cIar cI r_1s 8 f_1s, cIar cI r_1t 8 f_1t, cIar cI r_1w 8 f_1w] (none) [cPus r_ r_t r_w r_s out.1, cPus r_1 r_1t r_1w r_1s k_1, cIar cI r_s 8 out.2.1, cIar cI r_t 8 out.2.2.1, cIar cI r_w 8 out.2.2.2, cIar cI r_1s 8 f_1s, cIar cI r_1t 8 f_1t, cIar cI r_1w 8 f_1w] := by
  refine jM.of (by decide) (Nat.le_of_ble_eq_true rfl) ?_
  intro p e s m below meth c A X hr
  have L_10 : ∀ (fuel : Nat) (x2 : Int32) (k : Int32) (f_s : Nat → Int32) (f_t : Nat → Int32) (f_w : Nat → Int32), fX2_copy_10 k_1 f_1s f_1t f_1w  fuel x2 k f_s f_t f_w = some out → jW p l e rmX2_copy s m ([.ref r_, .ref r_1] : List Value).toArray below meth c D A 3 (MQ below (jQ D (none) [cPus r_ r_t r_w r_s out.1, cPus r_1 r_1t r_1w r_1s k_1, cIar cI r_s 8 out.2.1, cIar cI r_t 8 out.2.2.1, cIar cI r_w 8 out.2.2.2, cIar cI r_1s 8 f_1s, cIar cI r_1t 8 f_1t, cIar cI r_1w 8 f_1w] A) ([.ref r_, .ref r_1] : List Value).toArray s 0 0 A) 0 0 10 [(0, .ref r_), (1, .ref r_1), (2, .int x2)] [] [cPus r_ r_t r_w r_s k, cPus r_1 r_1t r_1w r_1s k_1, cIar cI r_s 8 f_s, cIar cI r_t 8 f_t, cIar cI r_w 8 f_w, cIar cI r_1s 8 f_1s, cIar cI r_1t 8 f_1t, cIar cI r_1w 8 f_1w] := by
    intro  fuel
    induction fuel with
    | zero =>
      intro x2 k f_s f_t f_w hR
      rw [fX2_copy_10] at hR
      cases hR
    | succ fu ih =>
      intro x2 k f_s f_t f_w hR
      rw [fX2_copy_10] at hR
      refine j_iload_n X (q := 2) dX2_copy_10 rfl ?_
      refine j_aload_n X (q := 0) dX2_copy_11 rfl ?_
      refine j_get X 0 3 hiX2 k_85 dX2_copy_12 rfl rfl (by decide) rfl ?_
      refine j_icmp_ge X (tgt := 66) dX2_copy_15 (by decide) (fun cv1 => ?_) (fun cv1 => ?_)
      · replace hR := (if_pos cv1).symm.trans hR
        have hR := Option.some.inj hR
        exact j_vret X hr dX2_copy_66 rfl (by rw [← hR])
      · replace hR := (if_neg cv1).symm.trans hR
        refine j_iload_n X (q := 2) dX2_copy_18 rfl ?_
        refine j_bipush X (v := 8) dX2_copy_19 (by decide) ?_
        refine j_icmp_ge X (tgt := 66) dX2_copy_21 (by decide) (fun cv2 => ?_) (fun cv2 => ?_)
        · replace hR := (if_pos cv2).symm.trans hR
          have hR := Option.some.inj hR
          exact j_vret X hr dX2_copy_66 rfl (by rw [← hR])
        · replace hR := (if_neg cv2).symm.trans hR
          refine j_aload_n X (q := 0) dX2_copy_24 rfl ?_
          refine j_get X 0 0 hiX2 k_76 dX2_copy_25 rfl rfl (by decide) rfl ?_
          refine j_iload_n X (q := 2) dX2_copy_28 rfl ?_
          refine j_aload_n X (q := 1) dX2_copy_29 rfl ?_
          refine j_get X 1 0 hiX2 k_76 dX2_copy_30 rfl rfl (by decide) rfl ?_
          refine j_iload_n X (q := 2) dX2_copy_33 rfl ?_
          obtain ⟨gv3, hR⟩ := gd_some hR
          refine j_iald X 6 0 rfl dX2_copy_34 rfl rfl gv3 ?_
          obtain ⟨gv4, hR⟩ := gd_some hR
          obtain ⟨f_tv5, ef_tv5, hR⟩ := lt_some hR
          refine j_iast X (ws2 := [cPus r_ r_t r_w r_s k, cPus r_1 r_1t r_1w r_1s k_1, cIar cI r_s 8 f_s, cIar cI r_t 8 f_tv5, cIar cI r_w 8 f_w, cIar cI r_1s 8 f_1s, cIar cI r_1t 8 f_1t, cIar cI r_1w 8 f_1w]) 3 0 rfl dX2_copy_35 rfl rfl gv4 ef_tv5 rfl ?_
          refine j_aload_n X (q := 0) dX2_copy_36 rfl ?_
          refine j_get X 0 1 hiX2 k_79 dX2_copy_37 rfl rfl (by decide) rfl ?_
          refine j_iload_n X (q := 2) dX2_copy_40 rfl ?_
          refine j_aload_n X (q := 1) dX2_copy_41 rfl ?_
          refine j_get X 1 1 hiX2 k_79 dX2_copy_42 rfl rfl (by decide) rfl ?_
          refine j_iload_n X (q := 2) dX2_copy_45 rfl ?_
          obtain ⟨gv6, hR⟩ := gd_some hR
          refine j_iald X 7 0 rfl dX2_copy_46 rfl rfl gv6 ?_
          obtain ⟨gv7, hR⟩ := gd_some hR
          obtain ⟨f_wv8, ef_wv8, hR⟩ := lt_some hR
          refine j_iast X (ws2 := [cPus r_ r_t r_w r_s k, cPus r_1 r_1t r_1w r_1s k_1, cIar cI r_s 8 f_s, cIar cI r_t 8 f_tv5, cIar cI r_w 8 f_wv8, cIar cI r_1s 8 f_1s, cIar cI r_1t 8 f_1t, cIar cI r_1w 8 f_1w]) 4 0 rfl dX2_copy_47 rfl rfl gv7 ef_wv8 rfl ?_
          refine j_aload_n X (q := 0) dX2_copy_48 rfl ?_
          refine j_get X 0 2 hiX2 k_82 dX2_copy_49 rfl rfl (by decide) rfl ?_
          refine j_iload_n X (q := 2) dX2_copy_52 rfl ?_
          refine j_aload_n X (q := 1) dX2_copy_53 rfl ?_
          refine j_get X 1 2 hiX2 k_82 dX2_copy_54 rfl rfl (by decide) rfl ?_
          refine j_iload_n X (q := 2) dX2_copy_57 rfl ?_
          obtain ⟨gv9, hR⟩ := gd_some hR
          refine j_iald X 5 0 rfl dX2_copy_58 rfl rfl gv9 ?_
          obtain ⟨gv10, hR⟩ := gd_some hR
          obtain ⟨f_sv11, ef_sv11, hR⟩ := lt_some hR
          refine j_iast X (ws2 := [cPus r_ r_t r_w r_s k, cPus r_1 r_1t r_1w r_1s k_1, cIar cI r_s 8 f_sv11, cIar cI r_t 8 f_tv5, cIar cI r_w 8 f_wv8, cIar cI r_1s 8 f_1s, cIar cI r_1t 8 f_1t, cIar cI r_1w 8 f_1w]) 2 0 rfl dX2_copy_59 rfl rfl gv10 ef_sv11 rfl ?_
          obtain ⟨x2v12, ex2v12, hR⟩ := lt_some hR
          refine j_iinc X (k := 2) (v := x2v12) (lv2 := [(2, .int x2v12), (0, .ref r_), (1, .ref r_1)]) dX2_copy_60 rfl (by rw [← ex2v12]; rfl) (by decide) rfl ?_
          refine j_goto X (tgt := 10) dX2_copy_63 (by decide) ?_
          refine j_sub (lv2 := [(0, .ref r_), (1, .ref r_1), (2, .int x2v12)]) [1, 2, 0] rfl ?_
          exact ih _ _ _ _ _ hR
  refine j_sub (lv2 := [(0, .ref r_), (1, .ref r_1)]) [0, 1] rfl ?_
  have hR := h
  unfold fX2_copy at hR
  refine j_aload_n X (q := 0) dX2_copy_0 rfl ?_
  refine j_aload_n X (q := 1) dX2_copy_1 rfl ?_
  refine j_get X 1 3 hiX2 k_85 dX2_copy_2 rfl rfl (by decide) rfl ?_
  refine j_put X (ws2 := [cPus r_ r_t r_w r_s k_1, cPus r_1 r_1t r_1w r_1s k_1, cIar cI r_s 8 f_s, cIar cI r_t 8 f_t, cIar cI r_w 8 f_w, cIar cI r_1s 8 f_1s, cIar cI r_1t 8 f_1t, cIar cI r_1w 8 f_1w]) 0 3 hiX2 tyX2_ok nmX2 k_85 dX2_copy_5 rfl rfl (by decide) (by decide) rfl rfl (Nat.le_of_ble_eq_true rfl) rfl ?_
  refine j_iconst X (v := 0) dX2_copy_8 (by decide) ?_
  refine j_istore_n X (lv2 := [(2, .int 0), (0, .ref r_), (1, .ref r_1)]) dX2_copy_9 (by decide) rfl ?_
  refine j_sub (lv2 := [(0, .ref r_), (1, .ref r_1), (2, .int 0)]) [1, 2, 0] rfl ?_
  exact L_10 _ _ _ _ _ _ hR

def rmX0_copy : Room := { frames := 1, cells := 0, slots := 0, locals := 22 }
theorem hdX0_copy : yX0_copy.cls ≠ "java/lang/invoke/MethodHandle" ∧ yX0_copy.cls ≠ "java/lang/invoke/VarHandle" ∧ (parseMethodDescriptor yX0_copy.desc).map (fun d => d.parameters.length) = some 1 := by decide +kernel
def fX0_copy_109 (z : Int32) (b_1 : Nat → Int32) (se_1 : Int64) (z_1 : Int32) (f_1A : Nat → Int64) (k_1P : Int32) (f_1Ps : Nat → Int32) (f_1Pt : Nat → Int32) (f_1Pw : Nat → Int32) : Nat → Int32 → (Nat → Int32) → Int64 → (Nat → Int64) → Int32 → (Nat → Int32) → (Nat → Int32) → (Nat → Int32) → Option ((Nat → Int32) × Int64 × (Nat → Int64) × Int32 × (Nat → Int32) × (Nat → Int32) × (Nat → Int32))
  | 0, _, _, _, _, _, _, _, _ => none
  | fu + 1, x2, b, se, f_A, k_P, f_Ps, f_Pt, f_Pw =>
    if (4 : Int32) ≤ x2 then (some (b, se, f_A, k_P, f_Ps, f_Pt, f_Pw)) else (if (4 : Int32) ≤ x2 then (some (b, se, f_A, k_P, f_Ps, f_Pt, f_Pw)) else (gd (inb x2 4) (gd (inb x2 4) (lt' (vp_updL f_A x2.toNatClampNeg (f_1A x2.toNatClampNeg)) fun f_Av17 =>
  lt' (x2 + 1) fun x2v18 =>
  fX0_copy_109 z b_1 se_1 z_1 f_1A k_1P f_1Ps f_1Pt f_1Pw fu x2v18 b se f_Av17 k_P f_Ps f_Pt f_Pw))))
def fX0_copy (b : Nat → Int32) (se : Int64) (z : Int32) (b_1 : Nat → Int32) (se_1 : Int64) (z_1 : Int32) (f_A : Nat → Int64) (k_P : Int32) (f_1A : Nat → Int64) (k_1P : Int32) (f_Ps : Nat → Int32) (f_Pt : Nat → Int32) (f_Pw : Nat → Int32) (f_1Ps : Nat → Int32) (f_1Pt : Nat → Int32) (f_1Pw : Nat → Int32) : Option ((Nat → Int32) × Int64 × (Nat → Int64) × Int32 × (Nat → Int32) × (Nat → Int32) × (Nat → Int32)) :=
  lt' (upd b 0 (b_1 0)) fun bv1 =>
  lt' (upd bv1 1 (b_1 1)) fun bv2 =>
  lt' (upd bv2 2 (b_1 2)) fun bv3 =>
  lt' (upd bv3 3 (b_1 3)) fun bv4 =>
  lt' (upd bv4 4 (b_1 4)) fun bv5 =>
  lt' (upd bv5 5 (b_1 5)) fun bv6 =>
  lt' (upd bv6 6 (b_1 6)) fun bv7 =>
  lt' (upd bv7 7 (b_1 7)) fun bv8 =>
  lt' (upd bv8 8 (b_1 8)) fun bv9 =>
  lt' (upd bv9 9 (b_1 9)) fun bv10 =>
  lt' (upd bv10 10 (b_1 10)) fun bv11 =>
  (fX2_copy k_P k_1P f_Ps f_Pt f_Pw f_1Ps f_1Pt f_1Pw).bind fun ov12 =>
  fX0_copy_109 z b_1 se_1 z_1 f_1A k_1P f_1Ps f_1Pt f_1Pw 500 0 bv11 se_1 f_A ov12.1 ov12.2.1 ov12.2.2.1 ov12.2.2.2
set_option maxHeartbeats 8000000 in
set_option maxRecDepth 100000 in
theorem mX0_copy (l : Launch) (D : va_G) (cI cJ cB cT : ClassId) (tt : Nat → Nat) (r_ r_P r_A r_1 r_1P r_1A r_Pt r_Pw r_Ps r_1Pt r_1Pw r_1Ps : Nat)  {b : Nat → Int32} {se : Int64} {z : Int32} {b_1 : Nat → Int32} {se_1 : Int64} {z_1 : Int32} {f_A : Nat → Int64} {k_P : Int32} {f_1A : Nat → Int64} {k_1P : Int32} {f_Ps : Nat → Int32} {f_Pt : Nat → Int32} {f_Pw : Nat → Int32} {f_1Ps : Nat → Int32} {f_1Pt : Nat → Int32} {f_1Pw : Nat → Int32} {out : (Nat → Int32) × Int64 × (Nat → Int64) × Int32 × (Nat → Int32) × (Nat → Int32) × (Nat → Int32)} (h : fX0_copy b se z b_1 se_1 z_1 f_A k_P f_1A k_1P f_Ps f_Pt f_Pw f_1Ps f_1Pt f_1Pw = some out) :
    jM l yX0_copy (.code yX0_copy cX0_copy 3 none) rmX0_copy D (wTy cI cJ cB cT) tt [.ref r_, .ref r_1] [cBal r_ r_P r_A b se z, cBal r_1 r_1P r_1A b_1 se_1 z_1, cJar cJ r_A 4 f_A, cPus r_P r_Pt r_Pw r_Ps k_P, cJar cJ r_1A 4 f_1A, cPus r_1P r_1Pt r_1Pw r_1Ps k_1P, cIar cI r_Ps 8 f_Ps, cIar cI r_Pt 8 f_Pt, cIar cI r_Pw 8 f_Pw, cIar cI r_1Ps 8 f_1Ps, cIar cI r_1Pt 8 f_1Pt, cIar cI r_1Pw 8 f_1Pw] (none) [cBal r_ r_P r_A out.1 out.2.1 z, cBal r_1 r_1P r_1A b_1 se_1 z_1, cJar cJ r_A 4 out.2.2.1, cPus r_P r_Pt r_Pw r_Ps out.2.2.2.1, cJar cJ r_1A 4 f_1A, cPus r_1P r_1Pt r_1Pw r_1Ps k_1P, cIar cI r_Ps 8 out.2.2.2.2.1, cIar cI r_Pt 8 out.2.2.2.2.2.1, cIar cI r_Pw 8 out.2.2.2.2.2.2, cIar cI r_1Ps 8 f_1Ps, cIar cI r_1Pt 8 f_1Pt, cIar cI r_1Pw 8 f_1Pw] := by
  refine jM.of (by decide) (Nat.le_of_ble_eq_true rfl) ?_
  intro p e s m below meth c A X hr
  have L_109 : ∀ (fuel : Nat) (x2 : Int32) (b : Nat → Int32) (se : Int64) (f_A : Nat → Int64) (k_P : Int32) (f_Ps : Nat → Int32) (f_Pt : Nat → Int32) (f_Pw : Nat → Int32), fX0_copy_109 z b_1 se_1 z_1 f_1A k_1P f_1Ps f_1Pt f_1Pw  fuel x2 b se f_A k_P f_Ps f_Pt f_Pw = some out → jW p l e rmX0_copy s m ([.ref r_, .ref r_1] : List Value).toArray below meth c D A 3 (MQ below (jQ D (none) [cBal r_ r_P r_A out.1 out.2.1 z, cBal r_1 r_1P r_1A b_1 se_1 z_1, cJar cJ r_A 4 out.2.2.1, cPus r_P r_Pt r_Pw r_Ps out.2.2.2.1, cJar cJ r_1A 4 f_1A, cPus r_1P r_1Pt r_1Pw r_1Ps k_1P, cIar cI r_Ps 8 out.2.2.2.2.1, cIar cI r_Pt 8 out.2.2.2.2.2.1, cIar cI r_Pw 8 out.2.2.2.2.2.2, cIar cI r_1Ps 8 f_1Ps, cIar cI r_1Pt 8 f_1Pt, cIar cI r_1Pw 8 f_1Pw] A) ([.ref r_, .ref r_1] : List Value).toArray s 0 0 A) 0 0 109 [(0, .ref r_), (1, .ref r_1), (2, .int x2)] [] [cBal r_ r_P r_A b se z, cBal r_1 r_1P r_1A b_1 se_1 z_1, cJar cJ r_A 4 f_A, cPus r_P r_Pt r_Pw r_Ps k_P, cJar cJ r_1A 4 f_1A, cPus r_1P r_1Pt r_1Pw r_1Ps k_1P, cIar cI r_Ps 8 f_Ps, cIar cI r_Pt 8 f_Pt, cIar cI r_Pw 8 f_Pw, cIar cI r_1Ps 8 f_1Ps, cIar cI r_1Pt 8 f_1Pt, cIar cI r_1Pw 8 f_1Pw] := by
    intro  fuel
    induction fuel with
    | zero =>
      intro x2 b se f_A k_P f_Ps f_Pt f_Pw hR
      rw [fX0_copy_109] at hR
      cases hR
    | succ fu ih =>
      intro x2 b se f_A k_P f_Ps f_Pt f_Pw hR
      rw [fX0_copy_109] at hR
      refine j_iload_n X (q := 2) dX0_copy_109 rfl ?_
      refine j_aload_n X (q := 0) dX0_copy_110 rfl ?_
      refine j_get X 0 12 hiX0 k_115 dX0_copy_111 rfl rfl (by decide) rfl ?_
      refine j_alen X (v := 4) 2 1 dX0_copy_114 rfl rfl rfl ?_
      refine j_icmp_ge X (tgt := 145) dX0_copy_115 (by decide) (fun cv13 => ?_) (fun cv13 => ?_)
      · replace hR := (if_pos cv13).symm.trans hR
        have hR := Option.some.inj hR
        exact j_vret X hr dX0_copy_145 rfl (by rw [← hR])
      · replace hR := (if_neg cv13).symm.trans hR
        refine j_iload_n X (q := 2) dX0_copy_118 rfl ?_
        refine j_aload_n X (q := 1) dX0_copy_119 rfl ?_
        refine j_get X 1 12 hiX0 k_115 dX0_copy_120 rfl rfl (by decide) rfl ?_
        refine j_alen X (v := 4) 4 1 dX0_copy_123 rfl rfl rfl ?_
        refine j_icmp_ge X (tgt := 145) dX0_copy_124 (by decide) (fun cv14 => ?_) (fun cv14 => ?_)
        · replace hR := (if_pos cv14).symm.trans hR
          have hR := Option.some.inj hR
          exact j_vret X hr dX0_copy_145 rfl (by rw [← hR])
        · replace hR := (if_neg cv14).symm.trans hR
          refine j_aload_n X (q := 0) dX0_copy_127 rfl ?_
          refine j_get X 0 12 hiX0 k_115 dX0_copy_128 rfl rfl (by decide) rfl ?_
          refine j_iload_n X (q := 2) dX0_copy_131 rfl ?_
          refine j_aload_n X (q := 1) dX0_copy_132 rfl ?_
          refine j_get X 1 12 hiX0 k_115 dX0_copy_133 rfl rfl (by decide) rfl ?_
          refine j_iload_n X (q := 2) dX0_copy_136 rfl ?_
          obtain ⟨gv15, hR⟩ := gd_some hR
          refine j_lald X 4 1 rfl dX0_copy_137 rfl rfl gv15 ?_
          obtain ⟨gv16, hR⟩ := gd_some hR
          obtain ⟨f_Av17, ef_Av17, hR⟩ := lt_some hR
          refine j_last X (ws2 := [cBal r_ r_P r_A b se z, cBal r_1 r_1P r_1A b_1 se_1 z_1, cJar cJ r_A 4 f_Av17, cPus r_P r_Pt r_Pw r_Ps k_P, cJar cJ r_1A 4 f_1A, cPus r_1P r_1Pt r_1Pw r_1Ps k_1P, cIar cI r_Ps 8 f_Ps, cIar cI r_Pt 8 f_Pt, cIar cI r_Pw 8 f_Pw, cIar cI r_1Ps 8 f_1Ps, cIar cI r_1Pt 8 f_1Pt, cIar cI r_1Pw 8 f_1Pw]) 2 1 rfl dX0_copy_138 rfl rfl gv16 ef_Av17 rfl ?_
          obtain ⟨x2v18, ex2v18, hR⟩ := lt_some hR
          refine j_iinc X (k := 2) (v := x2v18) (lv2 := [(2, .int x2v18), (0, .ref r_), (1, .ref r_1)]) dX0_copy_139 rfl (by rw [← ex2v18]; rfl) (by decide) rfl ?_
          refine j_goto X (tgt := 109) dX0_copy_142 (by decide) ?_
          refine j_sub (lv2 := [(0, .ref r_), (1, .ref r_1), (2, .int x2v18)]) [1, 2, 0] rfl ?_
          exact ih _ _ _ _ _ _ _ _ hR
  refine j_sub (lv2 := [(0, .ref r_), (1, .ref r_1)]) [0, 1] rfl ?_
  have hR := h
  unfold fX0_copy at hR
  refine j_aload_n X (q := 0) dX0_copy_0 rfl ?_
  refine j_aload_n X (q := 1) dX0_copy_1 rfl ?_
  refine j_get X 1 0 hiX0 k_98 dX0_copy_2 rfl rfl (by decide) rfl ?_
  obtain ⟨bv1, ebv1, hR⟩ := lt_some hR
  refine j_put X (ws2 := [cBal r_ r_P r_A bv1 se z, cBal r_1 r_1P r_1A b_1 se_1 z_1, cJar cJ r_A 4 f_A, cPus r_P r_Pt r_Pw r_Ps k_P, cJar cJ r_1A 4 f_1A, cPus r_1P r_1Pt r_1Pw r_1Ps k_1P, cIar cI r_Ps 8 f_Ps, cIar cI r_Pt 8 f_Pt, cIar cI r_Pw 8 f_Pw, cIar cI r_1Ps 8 f_1Ps, cIar cI r_1Pt 8 f_1Pt, cIar cI r_1Pw 8 f_1Pw]) 0 0 hiX0 tyX0_ok nmX0 k_98 dX0_copy_5 rfl rfl (by decide) (by decide) rfl rfl (Nat.le_of_ble_eq_true rfl) (by subst ebv1; rfl) ?_
  refine j_aload_n X (q := 0) dX0_copy_8 rfl ?_
  refine j_aload_n X (q := 1) dX0_copy_9 rfl ?_
  refine j_get X 1 1 hiX0 k_100 dX0_copy_10 rfl rfl (by decide) rfl ?_
  obtain ⟨bv2, ebv2, hR⟩ := lt_some hR
  refine j_put X (ws2 := [cBal r_ r_P r_A bv2 se z, cBal r_1 r_1P r_1A b_1 se_1 z_1, cJar cJ r_A 4 f_A, cPus r_P r_Pt r_Pw r_Ps k_P, cJar cJ r_1A 4 f_1A, cPus r_1P r_1Pt r_1Pw r_1Ps k_1P, cIar cI r_Ps 8 f_Ps, cIar cI r_Pt 8 f_Pt, cIar cI r_Pw 8 f_Pw, cIar cI r_1Ps 8 f_1Ps, cIar cI r_1Pt 8 f_1Pt, cIar cI r_1Pw 8 f_1Pw]) 0 1 hiX0 tyX0_ok nmX0 k_100 dX0_copy_13 rfl rfl (by decide) (by decide) rfl rfl (Nat.le_of_ble_eq_true rfl) (by subst ebv2; rfl) ?_
  refine j_aload_n X (q := 0) dX0_copy_16 rfl ?_
  refine j_aload_n X (q := 1) dX0_copy_17 rfl ?_
  refine j_get X 1 8 hiX0 k_110 dX0_copy_18 rfl rfl (by decide) rfl ?_
  obtain ⟨bv3, ebv3, hR⟩ := lt_some hR
  refine j_put X (ws2 := [cBal r_ r_P r_A bv3 se z, cBal r_1 r_1P r_1A b_1 se_1 z_1, cJar cJ r_A 4 f_A, cPus r_P r_Pt r_Pw r_Ps k_P, cJar cJ r_1A 4 f_1A, cPus r_1P r_1Pt r_1Pw r_1Ps k_1P, cIar cI r_Ps 8 f_Ps, cIar cI r_Pt 8 f_Pt, cIar cI r_Pw 8 f_Pw, cIar cI r_1Ps 8 f_1Ps, cIar cI r_1Pt 8 f_1Pt, cIar cI r_1Pw 8 f_1Pw]) 0 8 hiX0 tyX0_ok nmX0 k_110 dX0_copy_21 rfl rfl (by decide) (by decide) rfl rfl (Nat.le_of_ble_eq_true rfl) (by subst ebv3; rfl) ?_
  refine j_aload_n X (q := 0) dX0_copy_24 rfl ?_
  refine j_aload_n X (q := 1) dX0_copy_25 rfl ?_
  refine j_get X 1 2 hiX0 k_101 dX0_copy_26 rfl rfl (by decide) rfl ?_
  obtain ⟨bv4, ebv4, hR⟩ := lt_some hR
  refine j_put X (ws2 := [cBal r_ r_P r_A bv4 se z, cBal r_1 r_1P r_1A b_1 se_1 z_1, cJar cJ r_A 4 f_A, cPus r_P r_Pt r_Pw r_Ps k_P, cJar cJ r_1A 4 f_1A, cPus r_1P r_1Pt r_1Pw r_1Ps k_1P, cIar cI r_Ps 8 f_Ps, cIar cI r_Pt 8 f_Pt, cIar cI r_Pw 8 f_Pw, cIar cI r_1Ps 8 f_1Ps, cIar cI r_1Pt 8 f_1Pt, cIar cI r_1Pw 8 f_1Pw]) 0 2 hiX0 tyX0_ok nmX0 k_101 dX0_copy_29 rfl rfl (by decide) (by decide) rfl rfl (Nat.le_of_ble_eq_true rfl) (by subst ebv4; rfl) ?_
  refine j_aload_n X (q := 0) dX0_copy_32 rfl ?_
  refine j_aload_n X (q := 1) dX0_copy_33 rfl ?_
  refine j_get X 1 3 hiX0 k_102 dX0_copy_34 rfl rfl (by decide) rfl ?_
  obtain ⟨bv5, ebv5, hR⟩ := lt_some hR
  refine j_put X (ws2 := [cBal r_ r_P r_A bv5 se z, cBal r_1 r_1P r_1A b_1 se_1 z_1, cJar cJ r_A 4 f_A, cPus r_P r_Pt r_Pw r_Ps k_P, cJar cJ r_1A 4 f_1A, cPus r_1P r_1Pt r_1Pw r_1Ps k_1P, cIar cI r_Ps 8 f_Ps, cIar cI r_Pt 8 f_Pt, cIar cI r_Pw 8 f_Pw, cIar cI r_1Ps 8 f_1Ps, cIar cI r_1Pt 8 f_1Pt, cIar cI r_1Pw 8 f_1Pw]) 0 3 hiX0 tyX0_ok nmX0 k_102 dX0_copy_37 rfl rfl (by decide) (by decide) rfl rfl (Nat.le_of_ble_eq_true rfl) (by subst ebv5; rfl) ?_
  refine j_aload_n X (q := 0) dX0_copy_40 rfl ?_
  refine j_aload_n X (q := 1) dX0_copy_41 rfl ?_
  refine j_get X 1 9 hiX0 k_111 dX0_copy_42 rfl rfl (by decide) rfl ?_
  obtain ⟨bv6, ebv6, hR⟩ := lt_some hR
  refine j_put X (ws2 := [cBal r_ r_P r_A bv6 se z, cBal r_1 r_1P r_1A b_1 se_1 z_1, cJar cJ r_A 4 f_A, cPus r_P r_Pt r_Pw r_Ps k_P, cJar cJ r_1A 4 f_1A, cPus r_1P r_1Pt r_1Pw r_1Ps k_1P, cIar cI r_Ps 8 f_Ps, cIar cI r_Pt 8 f_Pt, cIar cI r_Pw 8 f_Pw, cIar cI r_1Ps 8 f_1Ps, cIar cI r_1Pt 8 f_1Pt, cIar cI r_1Pw 8 f_1Pw]) 0 9 hiX0 tyX0_ok nmX0 k_111 dX0_copy_45 rfl rfl (by decide) (by decide) rfl rfl (Nat.le_of_ble_eq_true rfl) (by subst ebv6; rfl) ?_
  refine j_aload_n X (q := 0) dX0_copy_48 rfl ?_
  refine j_aload_n X (q := 1) dX0_copy_49 rfl ?_
  refine j_get X 1 10 hiX0 k_112 dX0_copy_50 rfl rfl (by decide) rfl ?_
  obtain ⟨bv7, ebv7, hR⟩ := lt_some hR
  refine j_put X (ws2 := [cBal r_ r_P r_A bv7 se z, cBal r_1 r_1P r_1A b_1 se_1 z_1, cJar cJ r_A 4 f_A, cPus r_P r_Pt r_Pw r_Ps k_P, cJar cJ r_1A 4 f_1A, cPus r_1P r_1Pt r_1Pw r_1Ps k_1P, cIar cI r_Ps 8 f_Ps, cIar cI r_Pt 8 f_Pt, cIar cI r_Pw 8 f_Pw, cIar cI r_1Ps 8 f_1Ps, cIar cI r_1Pt 8 f_1Pt, cIar cI r_1Pw 8 f_1Pw]) 0 10 hiX0 tyX0_ok nmX0 k_112 dX0_copy_53 rfl rfl (by decide) (by decide) rfl rfl (Nat.le_of_ble_eq_true rfl) (by subst ebv7; rfl) ?_
  refine j_aload_n X (q := 0) dX0_copy_56 rfl ?_
  refine j_aload_n X (q := 1) dX0_copy_57 rfl ?_
  refine j_get X 1 4 hiX0 k_104 dX0_copy_58 rfl rfl (by decide) rfl ?_
  obtain ⟨bv8, ebv8, hR⟩ := lt_some hR
  refine j_put X (ws2 := [cBal r_ r_P r_A bv8 se z, cBal r_1 r_1P r_1A b_1 se_1 z_1, cJar cJ r_A 4 f_A, cPus r_P r_Pt r_Pw r_Ps k_P, cJar cJ r_1A 4 f_1A, cPus r_1P r_1Pt r_1Pw r_1Ps k_1P, cIar cI r_Ps 8 f_Ps, cIar cI r_Pt 8 f_Pt, cIar cI r_Pw 8 f_Pw, cIar cI r_1Ps 8 f_1Ps, cIar cI r_1Pt 8 f_1Pt, cIar cI r_1Pw 8 f_1Pw]) 0 4 hiX0 tyX0_ok nmX0 k_104 dX0_copy_61 rfl rfl (by decide) (by decide) rfl rfl (Nat.le_of_ble_eq_true rfl) (by subst ebv8; rfl) ?_
  refine j_aload_n X (q := 0) dX0_copy_64 rfl ?_
  refine j_aload_n X (q := 1) dX0_copy_65 rfl ?_
  refine j_get X 1 5 hiX0 k_105 dX0_copy_66 rfl rfl (by decide) rfl ?_
  obtain ⟨bv9, ebv9, hR⟩ := lt_some hR
  refine j_put X (ws2 := [cBal r_ r_P r_A bv9 se z, cBal r_1 r_1P r_1A b_1 se_1 z_1, cJar cJ r_A 4 f_A, cPus r_P r_Pt r_Pw r_Ps k_P, cJar cJ r_1A 4 f_1A, cPus r_1P r_1Pt r_1Pw r_1Ps k_1P, cIar cI r_Ps 8 f_Ps, cIar cI r_Pt 8 f_Pt, cIar cI r_Pw 8 f_Pw, cIar cI r_1Ps 8 f_1Ps, cIar cI r_1Pt 8 f_1Pt, cIar cI r_1Pw 8 f_1Pw]) 0 5 hiX0 tyX0_ok nmX0 k_105 dX0_copy_69 rfl rfl (by decide) (by decide) rfl rfl (Nat.le_of_ble_eq_true rfl) (by subst ebv9; rfl) ?_
  refine j_aload_n X (q := 0) dX0_copy_72 rfl ?_
  refine j_aload_n X (q := 1) dX0_copy_73 rfl ?_
  refine j_get X 1 6 hiX0 k_107 dX0_copy_74 rfl rfl (by decide) rfl ?_
  obtain ⟨bv10, ebv10, hR⟩ := lt_some hR
  refine j_put X (ws2 := [cBal r_ r_P r_A bv10 se z, cBal r_1 r_1P r_1A b_1 se_1 z_1, cJar cJ r_A 4 f_A, cPus r_P r_Pt r_Pw r_Ps k_P, cJar cJ r_1A 4 f_1A, cPus r_1P r_1Pt r_1Pw r_1Ps k_1P, cIar cI r_Ps 8 f_Ps, cIar cI r_Pt 8 f_Pt, cIar cI r_Pw 8 f_Pw, cIar cI r_1Ps 8 f_1Ps, cIar cI r_1Pt 8 f_1Pt, cIar cI r_1Pw 8 f_1Pw]) 0 6 hiX0 tyX0_ok nmX0 k_107 dX0_copy_77 rfl rfl (by decide) (by decide) rfl rfl (Nat.le_of_ble_eq_true rfl) (by subst ebv10; rfl) ?_
  refine j_aload_n X (q := 0) dX0_copy_80 rfl ?_
  refine j_aload_n X (q := 1) dX0_copy_81 rfl ?_
  refine j_get X 1 7 hiX0 k_109 dX0_copy_82 rfl rfl (by decide) rfl ?_
  obtain ⟨bv11, ebv11, hR⟩ := lt_some hR
  refine j_put X (ws2 := [cBal r_ r_P r_A bv11 se z, cBal r_1 r_1P r_1A b_1 se_1 z_1, cJar cJ r_A 4 f_A, cPus r_P r_Pt r_Pw r_Ps k_P, cJar cJ r_1A 4 f_1A, cPus r_1P r_1Pt r_1Pw r_1Ps k_1P, cIar cI r_Ps 8 f_Ps, cIar cI r_Pt 8 f_Pt, cIar cI r_Pw 8 f_Pw, cIar cI r_1Ps 8 f_1Ps, cIar cI r_1Pt 8 f_1Pt, cIar cI r_1Pw 8 f_1Pw]) 0 7 hiX0 tyX0_ok nmX0 k_109 dX0_copy_85 rfl rfl (by decide) (by decide) rfl rfl (Nat.le_of_ble_eq_true rfl) (by subst ebv11; rfl) ?_
  refine j_aload_n X (q := 0) dX0_copy_88 rfl ?_
  refine j_aload_n X (q := 1) dX0_copy_89 rfl ?_
  refine j_get X 1 13 hiX0 k_117 dX0_copy_90 rfl rfl (by decide) rfl ?_
  refine j_put X (ws2 := [cBal r_ r_P r_A bv11 se_1 z, cBal r_1 r_1P r_1A b_1 se_1 z_1, cJar cJ r_A 4 f_A, cPus r_P r_Pt r_Pw r_Ps k_P, cJar cJ r_1A 4 f_1A, cPus r_1P r_1Pt r_1Pw r_1Ps k_1P, cIar cI r_Ps 8 f_Ps, cIar cI r_Pt 8 f_Pt, cIar cI r_Pw 8 f_Pw, cIar cI r_1Ps 8 f_1Ps, cIar cI r_1Pt 8 f_1Pt, cIar cI r_1Pw 8 f_1Pw]) 0 13 hiX0 tyX0_ok nmX0 k_117 dX0_copy_93 rfl rfl (by decide) (by decide) rfl rfl (Nat.le_of_ble_eq_true rfl) rfl ?_
  refine j_aload_n X (q := 0) dX0_copy_96 rfl ?_
  refine j_get X 0 11 hiX0 k_113 dX0_copy_97 rfl rfl (by decide) rfl ?_
  refine j_aload_n X (q := 1) dX0_copy_100 rfl ?_
  refine j_get X 1 11 hiX0 k_113 dX0_copy_101 rfl rfl (by decide) rfl ?_
  obtain ⟨ov12, hov12, hR⟩ := bd_some hR
  refine j_callV X (As := [.ref r_1P]) (rest := []) (ws2 := [cBal r_ r_P r_A bv11 se_1 z, cBal r_1 r_1P r_1A b_1 se_1 z_1, cJar cJ r_A 4 f_A, cPus r_P r_Pt r_Pw r_Ps ov12.1, cJar cJ r_1A 4 f_1A, cPus r_1P r_1Pt r_1Pw r_1Ps k_1P, cIar cI r_Ps 8 ov12.2.1, cIar cI r_Pt 8 ov12.2.2.1, cIar cI r_Pw 8 ov12.2.2.2, cIar cI r_1Ps 8 f_1Ps, cIar cI r_1Pt 8 f_1Pt, cIar cI r_1Pw 8 f_1Pw]) (q0 := 3) (ci := 2) (mX2_copy l D cI cJ cB cT tt r_P r_Pt r_Pw r_Ps r_1P r_1Pt r_1Pw r_1Ps hov12) [3, 5, 6, 7, 8, 9, 10, 11] [.inl 0, .inl 1, .inl 2, .inr 0, .inl 4, .inr 1, .inr 2, .inr 3, .inr 4, .inr 5, .inr 6, .inr 7] k_474 k_471 k_472 k_473 rfl rfl k_41 hdX2_copy (by decide) (Nat.le_of_ble_eq_true rfl) dX0_copy_104 (by decide) rfl rfl (by decide) rfl rfl ?_
  refine j_iconst X (v := 0) dX0_copy_107 (by decide) ?_
  refine j_istore_n X (lv2 := [(2, .int 0), (0, .ref r_), (1, .ref r_1)]) dX0_copy_108 (by decide) rfl ?_
  refine j_sub (lv2 := [(0, .ref r_), (1, .ref r_1), (2, .int 0)]) [1, 2, 0] rfl ?_
  exact L_109 _ _ _ _ _ _ _ _ _ hR

def rmX0_valueOf : Room := { frames := 0, cells := 0, slots := 0, locals := 0 }
theorem hdX0_valueOf : yX0_valueOf.cls ≠ "java/lang/invoke/MethodHandle" ∧ yX0_valueOf.cls ≠ "java/lang/invoke/VarHandle" ∧ (parseMethodDescriptor yX0_valueOf.desc).map (fun d => d.parameters.length) = some 1 := by decide +kernel
def fX0_valueOf (i1 : Int32) (b : Nat → Int32) (se : Int64) (z : Int32) (k_P : Int32) : Option (Int32) :=
  if i1 = 0 then (some (b 0)) else (if i1 = 1 then (some (b 1)) else (if i1 = 2 then (some (b 2)) else (if i1 = 3 then (some (b 3)) else (if i1 = 4 then (some (b 4)) else (if i1 = 5 then (some (b 5)) else (if i1 = 6 then (some (b 6)) else (if i1 = 7 then (some (b 7)) else (if i1 = 8 then (some (b 8)) else (if i1 = 9 then (some (b 9)) else (if i1 = 10 then (some (b 10)) else (if i1 = 11 then (some k_P) else (some (-1000)))))))))))))
set_option maxHeartbeats 8000000 in
set_option maxRecDepth 100000 in
theorem mX0_valueOf (l : Launch) (D : va_G) (cI cJ cB cT : ClassId) (tt : Nat → Nat) (r_ r_P r_A r_Pt r_Pw r_Ps : Nat) {i1 : Int32} {b : Nat → Int32} {se : Int64} {z : Int32} {k_P : Int32} {out : Int32} (h : fX0_valueOf i1 b se z k_P = some out) :
    jM l yX0_valueOf (.code yX0_valueOf cX0_valueOf 2 (some .int)) rmX0_valueOf D (wTy cI cJ cB cT) tt [.ref r_, .int i1] [cBal r_ r_P r_A b se z, cPus r_P r_Pt r_Pw r_Ps k_P] (some (.int out)) [cBal r_ r_P r_A b se z, cPus r_P r_Pt r_Pw r_Ps k_P] := by
  refine jM.of (by decide) (Nat.le_of_ble_eq_true rfl) ?_
  intro p e s m below meth c A X hr
  refine j_sub (lv2 := [(0, .ref r_), (1, .int i1)]) [0, 1] rfl ?_
  have hR := h
  unfold fX0_valueOf at hR
  refine j_iload_n X (q := 1) dX0_valueOf_0 rfl ?_
  by_cases cv1 : i1 = 0
  · replace hR := (if_pos cv1).symm.trans hR
    refine j_tableIn X (tgt := 64) dX0_valueOf_1 (by rw [cv1]; decide) (by rw [cv1]; decide) (by rw [cv1]; rfl) (by decide) ?_
    refine j_aload_n X (q := 0) dX0_valueOf_64 rfl ?_
    refine j_get X 0 0 hiX0 k_98 dX0_valueOf_65 rfl rfl (by decide) rfl ?_
    have hR := Option.some.inj hR
    exact j_iret X hr dX0_valueOf_68 (by rw [← hR]) rfl
  · replace hR := (if_neg cv1).symm.trans hR
    by_cases cv2 : i1 = 1
    · replace hR := (if_pos cv2).symm.trans hR
      refine j_tableIn X (tgt := 69) dX0_valueOf_1 (by rw [cv2]; decide) (by rw [cv2]; decide) (by rw [cv2]; rfl) (by decide) ?_
      refine j_aload_n X (q := 0) dX0_valueOf_69 rfl ?_
      refine j_get X 0 1 hiX0 k_100 dX0_valueOf_70 rfl rfl (by decide) rfl ?_
      have hR := Option.some.inj hR
      exact j_iret X hr dX0_valueOf_73 (by rw [← hR]) rfl
    · replace hR := (if_neg cv2).symm.trans hR
      by_cases cv3 : i1 = 2
      · replace hR := (if_pos cv3).symm.trans hR
        refine j_tableIn X (tgt := 74) dX0_valueOf_1 (by rw [cv3]; decide) (by rw [cv3]; decide) (by rw [cv3]; rfl) (by decide) ?_
        refine j_aload_n X (q := 0) dX0_valueOf_74 rfl ?_
        refine j_get X 0 8 hiX0 k_110 dX0_valueOf_75 rfl rfl (by decide) rfl ?_
        have hR := Option.some.inj hR
        exact j_iret X hr dX0_valueOf_78 (by rw [← hR]) rfl
      · replace hR := (if_neg cv3).symm.trans hR
        by_cases cv4 : i1 = 3
        · replace hR := (if_pos cv4).symm.trans hR
          refine j_tableIn X (tgt := 79) dX0_valueOf_1 (by rw [cv4]; decide) (by rw [cv4]; decide) (by rw [cv4]; rfl) (by decide) ?_
          refine j_aload_n X (q := 0) dX0_valueOf_79 rfl ?_
          refine j_get X 0 2 hiX0 k_101 dX0_valueOf_80 rfl rfl (by decide) rfl ?_
          have hR := Option.some.inj hR
          exact j_iret X hr dX0_valueOf_83 (by rw [← hR]) rfl
        · replace hR := (if_neg cv4).symm.trans hR
          by_cases cv5 : i1 = 4
          · replace hR := (if_pos cv5).symm.trans hR
            refine j_tableIn X (tgt := 84) dX0_valueOf_1 (by rw [cv5]; decide) (by rw [cv5]; decide) (by rw [cv5]; rfl) (by decide) ?_
            refine j_aload_n X (q := 0) dX0_valueOf_84 rfl ?_
            refine j_get X 0 3 hiX0 k_102 dX0_valueOf_85 rfl rfl (by decide) rfl ?_
            have hR := Option.some.inj hR
            exact j_iret X hr dX0_valueOf_88 (by rw [← hR]) rfl
          · replace hR := (if_neg cv5).symm.trans hR
            by_cases cv6 : i1 = 5
            · replace hR := (if_pos cv6).symm.trans hR
              refine j_tableIn X (tgt := 89) dX0_valueOf_1 (by rw [cv6]; decide) (by rw [cv6]; decide) (by rw [cv6]; rfl) (by decide) ?_
              refine j_aload_n X (q := 0) dX0_valueOf_89 rfl ?_
              refine j_get X 0 9 hiX0 k_111 dX0_valueOf_90 rfl rfl (by decide) rfl ?_
              have hR := Option.some.inj hR
              exact j_iret X hr dX0_valueOf_93 (by rw [← hR]) rfl
            · replace hR := (if_neg cv6).symm.trans hR
              by_cases cv7 : i1 = 6
              · replace hR := (if_pos cv7).symm.trans hR
                refine j_tableIn X (tgt := 94) dX0_valueOf_1 (by rw [cv7]; decide) (by rw [cv7]; decide) (by rw [cv7]; rfl) (by decide) ?_
                refine j_aload_n X (q := 0) dX0_valueOf_94 rfl ?_
                refine j_get X 0 10 hiX0 k_112 dX0_valueOf_95 rfl rfl (by decide) rfl ?_
                have hR := Option.some.inj hR
                exact j_iret X hr dX0_valueOf_98 (by rw [← hR]) rfl
              · replace hR := (if_neg cv7).symm.trans hR
                by_cases cv8 : i1 = 7
                · replace hR := (if_pos cv8).symm.trans hR
                  refine j_tableIn X (tgt := 99) dX0_valueOf_1 (by rw [cv8]; decide) (by rw [cv8]; decide) (by rw [cv8]; rfl) (by decide) ?_
                  refine j_aload_n X (q := 0) dX0_valueOf_99 rfl ?_
                  refine j_get X 0 4 hiX0 k_104 dX0_valueOf_100 rfl rfl (by decide) rfl ?_
                  have hR := Option.some.inj hR
                  exact j_iret X hr dX0_valueOf_103 (by rw [← hR]) rfl
                · replace hR := (if_neg cv8).symm.trans hR
                  by_cases cv9 : i1 = 8
                  · replace hR := (if_pos cv9).symm.trans hR
                    refine j_tableIn X (tgt := 104) dX0_valueOf_1 (by rw [cv9]; decide) (by rw [cv9]; decide) (by rw [cv9]; rfl) (by decide) ?_
                    refine j_aload_n X (q := 0) dX0_valueOf_104 rfl ?_
                    refine j_get X 0 5 hiX0 k_105 dX0_valueOf_105 rfl rfl (by decide) rfl ?_
                    have hR := Option.some.inj hR
                    exact j_iret X hr dX0_valueOf_108 (by rw [← hR]) rfl
                  · replace hR := (if_neg cv9).symm.trans hR
                    by_cases cv10 : i1 = 9
                    · replace hR := (if_pos cv10).symm.trans hR
                      refine j_tableIn X (tgt := 109) dX0_valueOf_1 (by rw [cv10]; decide) (by rw [cv10]; decide) (by rw [cv10]; rfl) (by decide) ?_
                      refine j_aload_n X (q := 0) dX0_valueOf_109 rfl ?_
                      refine j_get X 0 6 hiX0 k_107 dX0_valueOf_110 rfl rfl (by decide) rfl ?_
                      have hR := Option.some.inj hR
                      exact j_iret X hr dX0_valueOf_113 (by rw [← hR]) rfl
                    · replace hR := (if_neg cv10).symm.trans hR
                      by_cases cv11 : i1 = 10
                      · replace hR := (if_pos cv11).symm.trans hR
                        refine j_tableIn X (tgt := 114) dX0_valueOf_1 (by rw [cv11]; decide) (by rw [cv11]; decide) (by rw [cv11]; rfl) (by decide) ?_
                        refine j_aload_n X (q := 0) dX0_valueOf_114 rfl ?_
                        refine j_get X 0 7 hiX0 k_109 dX0_valueOf_115 rfl rfl (by decide) rfl ?_
                        have hR := Option.some.inj hR
                        exact j_iret X hr dX0_valueOf_118 (by rw [← hR]) rfl
                      · replace hR := (if_neg cv11).symm.trans hR
                        by_cases cv12 : i1 = 11
                        · replace hR := (if_pos cv12).symm.trans hR
                          refine j_tableIn X (tgt := 119) dX0_valueOf_1 (by rw [cv12]; decide) (by rw [cv12]; decide) (by rw [cv12]; rfl) (by decide) ?_
                          refine j_aload_n X (q := 0) dX0_valueOf_119 rfl ?_
                          refine j_get X 0 11 hiX0 k_113 dX0_valueOf_120 rfl rfl (by decide) rfl ?_
                          refine j_get X 1 3 hiX2 k_86 dX0_valueOf_123 rfl rfl (by decide) rfl ?_
                          have hR := Option.some.inj hR
                          exact j_iret X hr dX0_valueOf_126 (by rw [← hR]) rfl
                        · replace hR := (if_neg cv12).symm.trans hR
                          refine j_tableOut X (tgt := 127) dX0_valueOf_1 (by have hcv1 := lv_neT cv1 (a := 0) rfl; have hcv2 := lv_neT cv2 (a := 1) rfl; have hcv3 := lv_neT cv3 (a := 2) rfl; have hcv4 := lv_neT cv4 (a := 3) rfl; have hcv5 := lv_neT cv5 (a := 4) rfl; have hcv6 := lv_neT cv6 (a := 5) rfl; have hcv7 := lv_neT cv7 (a := 6) rfl; have hcv8 := lv_neT cv8 (a := 7) rfl; have hcv9 := lv_neT cv9 (a := 8) rfl; have hcv10 := lv_neT cv10 (a := 9) rfl; have hcv11 := lv_neT cv11 (a := 10) rfl; have hcv12 := lv_neT cv12 (a := 11) rfl; omega) (by decide) ?_
                          refine j_sipush X (v := (-1000)) dX0_valueOf_127 (by decide) ?_
                          have hR := Option.some.inj hR
                          exact j_iret X hr dX0_valueOf_130 (by rw [← hR]) rfl

def rmX0_put : Room := { frames := 0, cells := 0, slots := 0, locals := 0 }
theorem hdX0_put : yX0_put.cls ≠ "java/lang/invoke/MethodHandle" ∧ yX0_put.cls ≠ "java/lang/invoke/VarHandle" ∧ (parseMethodDescriptor yX0_put.desc).map (fun d => d.parameters.length) = some 2 := by decide +kernel
def fX0_put (i1 : Int32) (i2 : Int32) (b : Nat → Int32) (se : Int64) (z : Int32) : Option ((Nat → Int32)) :=
  if i1 = 0 then (lt' (upd b 0 i2) fun bv2 =>
  some bv2) else (if i1 = 1 then (lt' (upd b 1 i2) fun bv4 =>
  some bv4) else (if i1 = 2 then (lt' (upd b 2 i2) fun bv6 =>
  some bv6) else (if i1 = 3 then (lt' (upd b 3 i2) fun bv8 =>
  some bv8) else (if i1 = 4 then (lt' (upd b 4 i2) fun bv10 =>
  some bv10) else (if i1 = 5 then (lt' (upd b 5 i2) fun bv12 =>
  some bv12) else (if i1 = 6 then (lt' (upd b 6 i2) fun bv14 =>
  some bv14) else (some b)))))))
set_option maxHeartbeats 8000000 in
set_option maxRecDepth 100000 in
theorem mX0_put (l : Launch) (D : va_G) (cI cJ cB cT : ClassId) (tt : Nat → Nat) (r_ r_P r_A : Nat) {i1 : Int32} {i2 : Int32} {b : Nat → Int32} {se : Int64} {z : Int32} {out : (Nat → Int32)} (h : fX0_put i1 i2 b se z = some out) :
    jM l yX0_put (.code yX0_put cX0_put 3 none) rmX0_put D (wTy cI cJ cB cT) tt [.ref r_, .int i1, .int i2] [cBal r_ r_P r_A b se z] (none) [cBal r_ r_P r_A out se z] := by
  refine jM.of (by decide) (Nat.le_of_ble_eq_true rfl) ?_
  intro p e s m below meth c A X hr
  refine j_sub (lv2 := [(0, .ref r_), (1, .int i1), (2, .int i2)]) [0, 1, 2] rfl ?_
  have hR := h
  unfold fX0_put at hR
  refine j_iload_n X (q := 1) dX0_put_0 rfl ?_
  by_cases cv1 : i1 = 0
  · replace hR := (if_pos cv1).symm.trans hR
    refine j_tableIn X (tgt := 44) dX0_put_1 (by rw [cv1]; decide) (by rw [cv1]; decide) (by rw [cv1]; rfl) (by decide) ?_
    refine j_aload_n X (q := 0) dX0_put_44 rfl ?_
    refine j_iload_n X (q := 2) dX0_put_45 rfl ?_
    obtain ⟨bv2, ebv2, hR⟩ := lt_some hR
    refine j_put X (ws2 := [cBal r_ r_P r_A bv2 se z]) 0 0 hiX0 tyX0_ok nmX0 k_98 dX0_put_46 rfl rfl (by decide) (by decide) rfl rfl (Nat.le_of_ble_eq_true rfl) (by subst ebv2; rfl) ?_
    refine j_goto X (tgt := 100) dX0_put_49 (by decide) ?_
    have hR := Option.some.inj hR
    exact j_vret X hr dX0_put_100 rfl (by rw [← hR])
  · replace hR := (if_neg cv1).symm.trans hR
    by_cases cv3 : i1 = 1
    · replace hR := (if_pos cv3).symm.trans hR
      refine j_tableIn X (tgt := 52) dX0_put_1 (by rw [cv3]; decide) (by rw [cv3]; decide) (by rw [cv3]; rfl) (by decide) ?_
      refine j_aload_n X (q := 0) dX0_put_52 rfl ?_
      refine j_iload_n X (q := 2) dX0_put_53 rfl ?_
      obtain ⟨bv4, ebv4, hR⟩ := lt_some hR
      refine j_put X (ws2 := [cBal r_ r_P r_A bv4 se z]) 0 1 hiX0 tyX0_ok nmX0 k_100 dX0_put_54 rfl rfl (by decide) (by decide) rfl rfl (Nat.le_of_ble_eq_true rfl) (by subst ebv4; rfl) ?_
      refine j_goto X (tgt := 100) dX0_put_57 (by decide) ?_
      have hR := Option.some.inj hR
      exact j_vret X hr dX0_put_100 rfl (by rw [← hR])
    · replace hR := (if_neg cv3).symm.trans hR
      by_cases cv5 : i1 = 2
      · replace hR := (if_pos cv5).symm.trans hR
        refine j_tableIn X (tgt := 60) dX0_put_1 (by rw [cv5]; decide) (by rw [cv5]; decide) (by rw [cv5]; rfl) (by decide) ?_
        refine j_aload_n X (q := 0) dX0_put_60 rfl ?_
        refine j_iload_n X (q := 2) dX0_put_61 rfl ?_
        obtain ⟨bv6, ebv6, hR⟩ := lt_some hR
        refine j_put X (ws2 := [cBal r_ r_P r_A bv6 se z]) 0 8 hiX0 tyX0_ok nmX0 k_110 dX0_put_62 rfl rfl (by decide) (by decide) rfl rfl (Nat.le_of_ble_eq_true rfl) (by subst ebv6; rfl) ?_
        refine j_goto X (tgt := 100) dX0_put_65 (by decide) ?_
        have hR := Option.some.inj hR
        exact j_vret X hr dX0_put_100 rfl (by rw [← hR])
      · replace hR := (if_neg cv5).symm.trans hR
        by_cases cv7 : i1 = 3
        · replace hR := (if_pos cv7).symm.trans hR
          refine j_tableIn X (tgt := 68) dX0_put_1 (by rw [cv7]; decide) (by rw [cv7]; decide) (by rw [cv7]; rfl) (by decide) ?_
          refine j_aload_n X (q := 0) dX0_put_68 rfl ?_
          refine j_iload_n X (q := 2) dX0_put_69 rfl ?_
          obtain ⟨bv8, ebv8, hR⟩ := lt_some hR
          refine j_put X (ws2 := [cBal r_ r_P r_A bv8 se z]) 0 2 hiX0 tyX0_ok nmX0 k_101 dX0_put_70 rfl rfl (by decide) (by decide) rfl rfl (Nat.le_of_ble_eq_true rfl) (by subst ebv8; rfl) ?_
          refine j_goto X (tgt := 100) dX0_put_73 (by decide) ?_
          have hR := Option.some.inj hR
          exact j_vret X hr dX0_put_100 rfl (by rw [← hR])
        · replace hR := (if_neg cv7).symm.trans hR
          by_cases cv9 : i1 = 4
          · replace hR := (if_pos cv9).symm.trans hR
            refine j_tableIn X (tgt := 76) dX0_put_1 (by rw [cv9]; decide) (by rw [cv9]; decide) (by rw [cv9]; rfl) (by decide) ?_
            refine j_aload_n X (q := 0) dX0_put_76 rfl ?_
            refine j_iload_n X (q := 2) dX0_put_77 rfl ?_
            obtain ⟨bv10, ebv10, hR⟩ := lt_some hR
            refine j_put X (ws2 := [cBal r_ r_P r_A bv10 se z]) 0 3 hiX0 tyX0_ok nmX0 k_102 dX0_put_78 rfl rfl (by decide) (by decide) rfl rfl (Nat.le_of_ble_eq_true rfl) (by subst ebv10; rfl) ?_
            refine j_goto X (tgt := 100) dX0_put_81 (by decide) ?_
            have hR := Option.some.inj hR
            exact j_vret X hr dX0_put_100 rfl (by rw [← hR])
          · replace hR := (if_neg cv9).symm.trans hR
            by_cases cv11 : i1 = 5
            · replace hR := (if_pos cv11).symm.trans hR
              refine j_tableIn X (tgt := 84) dX0_put_1 (by rw [cv11]; decide) (by rw [cv11]; decide) (by rw [cv11]; rfl) (by decide) ?_
              refine j_aload_n X (q := 0) dX0_put_84 rfl ?_
              refine j_iload_n X (q := 2) dX0_put_85 rfl ?_
              obtain ⟨bv12, ebv12, hR⟩ := lt_some hR
              refine j_put X (ws2 := [cBal r_ r_P r_A bv12 se z]) 0 9 hiX0 tyX0_ok nmX0 k_111 dX0_put_86 rfl rfl (by decide) (by decide) rfl rfl (Nat.le_of_ble_eq_true rfl) (by subst ebv12; rfl) ?_
              refine j_goto X (tgt := 100) dX0_put_89 (by decide) ?_
              have hR := Option.some.inj hR
              exact j_vret X hr dX0_put_100 rfl (by rw [← hR])
            · replace hR := (if_neg cv11).symm.trans hR
              by_cases cv13 : i1 = 6
              · replace hR := (if_pos cv13).symm.trans hR
                refine j_tableIn X (tgt := 92) dX0_put_1 (by rw [cv13]; decide) (by rw [cv13]; decide) (by rw [cv13]; rfl) (by decide) ?_
                refine j_aload_n X (q := 0) dX0_put_92 rfl ?_
                refine j_iload_n X (q := 2) dX0_put_93 rfl ?_
                obtain ⟨bv14, ebv14, hR⟩ := lt_some hR
                refine j_put X (ws2 := [cBal r_ r_P r_A bv14 se z]) 0 10 hiX0 tyX0_ok nmX0 k_112 dX0_put_94 rfl rfl (by decide) (by decide) rfl rfl (Nat.le_of_ble_eq_true rfl) (by subst ebv14; rfl) ?_
                refine j_goto X (tgt := 100) dX0_put_97 (by decide) ?_
                have hR := Option.some.inj hR
                exact j_vret X hr dX0_put_100 rfl (by rw [← hR])
              · replace hR := (if_neg cv13).symm.trans hR
                refine j_tableOut X (tgt := 100) dX0_put_1 (by have hcv1 := lv_neT cv1 (a := 0) rfl; have hcv3 := lv_neT cv3 (a := 1) rfl; have hcv5 := lv_neT cv5 (a := 2) rfl; have hcv7 := lv_neT cv7 (a := 3) rfl; have hcv9 := lv_neT cv9 (a := 4) rfl; have hcv11 := lv_neT cv11 (a := 5) rfl; have hcv13 := lv_neT cv13 (a := 6) rfl; omega) (by decide) ?_
                have hR := Option.some.inj hR
                exact j_vret X hr dX0_put_100 rfl (by rw [← hR])

def rmX0_energyNow : Room := { frames := 0, cells := 0, slots := 0, locals := 0 }
theorem hdX0_energyNow : yX0_energyNow.cls ≠ "java/lang/invoke/MethodHandle" ∧ yX0_energyNow.cls ≠ "java/lang/invoke/VarHandle" ∧ (parseMethodDescriptor yX0_energyNow.desc).map (fun d => d.parameters.length) = some 0 := by decide +kernel
def fX0_energyNow (b : Nat → Int32) (se : Int64) (z : Int32) : Option (Int64) :=
  some ((((32 : Int64) * ((b 1).toInt64)) * ((b 1).toInt64)) + ((((b 2).toInt64) * ((b 0).toInt64)) * ((b 0).toInt64)))
set_option maxHeartbeats 8000000 in
set_option maxRecDepth 100000 in
theorem mX0_energyNow (l : Launch) (D : va_G) (cI cJ cB cT : ClassId) (tt : Nat → Nat) (r_ r_P r_A : Nat)  {b : Nat → Int32} {se : Int64} {z : Int32} {out : Int64} (h : fX0_energyNow b se z = some out) :
    jM l yX0_energyNow (.code yX0_energyNow cX0_energyNow 1 (some .long)) rmX0_energyNow D (wTy cI cJ cB cT) tt [.ref r_] [cBal r_ r_P r_A b se z] (some (.long out)) [cBal r_ r_P r_A b se z] := by
  refine jM.of (by decide) (Nat.le_of_ble_eq_true rfl) ?_
  intro p e s m below meth c A X hr
  refine j_sub (lv2 := [(0, .ref r_)]) [0] rfl ?_
  have hR := h
  unfold fX0_energyNow at hR
  refine j_ldc2 X k_320 dX0_energyNow_0 ?_
  refine j_aload_n X (q := 0) dX0_energyNow_3 rfl ?_
  refine j_get X 0 1 hiX0 k_100 dX0_energyNow_4 rfl rfl (by decide) rfl ?_
  refine j_i2l X dX0_energyNow_7 ?_
  refine j_lmul X dX0_energyNow_8 ?_
  refine j_aload_n X (q := 0) dX0_energyNow_9 rfl ?_
  refine j_get X 0 1 hiX0 k_100 dX0_energyNow_10 rfl rfl (by decide) rfl ?_
  refine j_i2l X dX0_energyNow_13 ?_
  refine j_lmul X dX0_energyNow_14 ?_
  refine j_aload_n X (q := 0) dX0_energyNow_15 rfl ?_
  refine j_get X 0 8 hiX0 k_110 dX0_energyNow_16 rfl rfl (by decide) rfl ?_
  refine j_i2l X dX0_energyNow_19 ?_
  refine j_aload_n X (q := 0) dX0_energyNow_20 rfl ?_
  refine j_get X 0 0 hiX0 k_98 dX0_energyNow_21 rfl rfl (by decide) rfl ?_
  refine j_i2l X dX0_energyNow_24 ?_
  refine j_lmul X dX0_energyNow_25 ?_
  refine j_aload_n X (q := 0) dX0_energyNow_26 rfl ?_
  refine j_get X 0 0 hiX0 k_98 dX0_energyNow_27 rfl rfl (by decide) rfl ?_
  refine j_i2l X dX0_energyNow_30 ?_
  refine j_lmul X dX0_energyNow_31 ?_
  refine j_ladd X dX0_energyNow_32 ?_
  have hR := Option.some.inj hR
  exact j_lret X hr dX0_energyNow_33 (by rw [← hR]) rfl

def rmX0_settle : Room := { frames := 1, cells := 0, slots := 0, locals := 20 }
theorem hdX0_settle : yX0_settle.cls ≠ "java/lang/invoke/MethodHandle" ∧ yX0_settle.cls ≠ "java/lang/invoke/VarHandle" ∧ (parseMethodDescriptor yX0_settle.desc).map (fun d => d.parameters.length) = some 1 := by decide +kernel
def fX0_settle (i1 : Int32) (b : Nat → Int32) (se : Int64) (z : Int32) (f_A : Nat → Int64) : Option (Int64 × (Nat → Int64)) :=
  if z = 0 then (some (se, f_A)) else (if i1 < 0 then (some (se, f_A)) else (if i1 < 4 then ((fX0_energyNow b se z).bind fun ov4 =>
  gd (inb i1 4) (gd (inb i1 4) (lt' (vp_updL f_A i1.toNatClampNeg ((f_A i1.toNatClampNeg) + (ov4 - se))) fun f_Av7 =>
  some (ov4, f_Av7)))) else (some (se, f_A))))
set_option maxHeartbeats 8000000 in
set_option maxRecDepth 100000 in
theorem mX0_settle (l : Launch) (D : va_G) (cI cJ cB cT : ClassId) (tt : Nat → Nat) (r_ r_P r_A : Nat) {i1 : Int32} {b : Nat → Int32} {se : Int64} {z : Int32} {f_A : Nat → Int64} {out : Int64 × (Nat → Int64)} (h : fX0_settle i1 b se z f_A = some out) :
    jM l yX0_settle (.code yX0_settle cX0_settle 4 none) rmX0_settle D (wTy cI cJ cB cT) tt [.ref r_, .int i1] [cBal r_ r_P r_A b se z, cJar cJ r_A 4 f_A] (none) [cBal r_ r_P r_A b out.1 z, cJar cJ r_A 4 out.2] := by
  refine jM.of (by decide) (Nat.le_of_ble_eq_true rfl) ?_
  intro p e s m below meth c A X hr
  refine j_sub (lv2 := [(0, .ref r_), (1, .int i1)]) [0, 1] rfl ?_
  have hR := h
  unfold fX0_settle at hR
  refine j_aload_n X (q := 0) dX0_settle_0 rfl ?_
  refine j_get X 0 14 hiX0 k_118 dX0_settle_1 rfl rfl (by decide) rfl ?_
  refine j_if_eq X (tgt := 20) dX0_settle_4 (by decide) (fun cv1 => ?_) (fun cv1 => ?_)
  · replace hR := (if_pos cv1).symm.trans hR
    have hR := Option.some.inj hR
    exact j_vret X hr dX0_settle_20 rfl (by rw [← hR])
  · replace hR := (if_neg cv1).symm.trans hR
    refine j_iload_n X (q := 1) dX0_settle_7 rfl ?_
    refine j_if_lt X (tgt := 20) dX0_settle_8 (by decide) (fun cv2 => ?_) (fun cv2 => ?_)
    · replace hR := (if_pos cv2).symm.trans hR
      have hR := Option.some.inj hR
      exact j_vret X hr dX0_settle_20 rfl (by rw [← hR])
    · replace hR := (if_neg cv2).symm.trans hR
      refine j_iload_n X (q := 1) dX0_settle_11 rfl ?_
      refine j_aload_n X (q := 0) dX0_settle_12 rfl ?_
      refine j_get X 0 12 hiX0 k_115 dX0_settle_13 rfl rfl (by decide) rfl ?_
      refine j_alen X (v := 4) 1 1 dX0_settle_16 rfl rfl rfl ?_
      refine j_icmp_lt X (tgt := 21) dX0_settle_17 (by decide) (fun cv3 => ?_) (fun cv3 => ?_)
      · replace hR := (if_pos cv3).symm.trans hR
        refine j_aload_n X (q := 0) dX0_settle_21 rfl ?_
        obtain ⟨ov4, hov4, hR⟩ := bd_some hR
        refine j_callV X (As := []) (rest := []) (ws2 := [cBal r_ r_P r_A b se z, cJar cJ r_A 4 f_A]) (q0 := 0) (ci := 0) (mX0_energyNow l D cI cJ cB cT tt r_ r_P r_A hov4) [0] [.inr 0, .inl 1] k_319 k_316 k_317 k_318 rfl rfl k_40 hdX0_energyNow (by decide) (Nat.le_of_ble_eq_true rfl) dX0_settle_22 (by decide) rfl rfl (by decide) rfl rfl ?_
        refine j_lstore_n X (lv2 := [(2, .long ov4), (0, .ref r_), (1, .int i1)]) dX0_settle_25 (by decide) rfl ?_
        refine j_aload_n X (q := 1) dX0_settle_26 rfl ?_
        refine j_get X 0 12 hiX0 k_115 dX0_settle_27 rfl rfl (by decide) rfl ?_
        refine j_iload_n X (q := 2) dX0_settle_30 rfl ?_
        refine j_dup2_11 X dX0_settle_31 rfl rfl ?_
        obtain ⟨gv5, hR⟩ := gd_some hR
        refine j_lald X 1 1 rfl dX0_settle_32 rfl rfl gv5 ?_
        refine j_lload_n X (q := 0) dX0_settle_33 rfl ?_
        refine j_aload_n X (q := 1) dX0_settle_34 rfl ?_
        refine j_get X 0 13 hiX0 k_117 dX0_settle_35 rfl rfl (by decide) rfl ?_
        refine j_lsub X dX0_settle_38 ?_
        refine j_ladd X dX0_settle_39 ?_
        obtain ⟨gv6, hR⟩ := gd_some hR
        obtain ⟨f_Av7, ef_Av7, hR⟩ := lt_some hR
        refine j_last X (ws2 := [cBal r_ r_P r_A b se z, cJar cJ r_A 4 f_Av7]) 1 1 rfl dX0_settle_40 rfl rfl gv6 ef_Av7 rfl ?_
        refine j_aload_n X (q := 1) dX0_settle_41 rfl ?_
        refine j_lload_n X (q := 0) dX0_settle_42 rfl ?_
        refine j_put X (ws2 := [cBal r_ r_P r_A b ov4 z, cJar cJ r_A 4 f_Av7]) 0 13 hiX0 tyX0_ok nmX0 k_117 dX0_settle_43 rfl rfl (by decide) (by decide) rfl rfl (Nat.le_of_ble_eq_true rfl) rfl ?_
        have hR := Option.some.inj hR
        exact j_vret X hr dX0_settle_46 rfl (by rw [← hR])
      · replace hR := (if_neg cv3).symm.trans hR
        have hR := Option.some.inj hR
        exact j_vret X hr dX0_settle_20 rfl (by rw [← hR])

def rmX0_putByHand : Room := { frames := 2, cells := 0, slots := 0, locals := 43 }
theorem hdX0_putByHand : yX0_putByHand.cls ≠ "java/lang/invoke/MethodHandle" ∧ yX0_putByHand.cls ≠ "java/lang/invoke/VarHandle" ∧ (parseMethodDescriptor yX0_putByHand.desc).map (fun d => d.parameters.length) = some 2 := by decide +kernel
def fX0_putByHand (i1 : Int32) (i2 : Int32) (b : Nat → Int32) (se : Int64) (z : Int32) (f_A : Nat → Int64) : Option ((Nat → Int32) × Int64 × (Nat → Int64)) :=
  (fX0_put i1 i2 b se z).bind fun ov1 =>
  (fX0_settle 0 ov1 se z f_A).bind fun ov2 =>
  some (ov1, ov2.1, ov2.2)
set_option maxHeartbeats 8000000 in
set_option maxRecDepth 100000 in
theorem mX0_putByHand (l : Launch) (D : va_G) (cI cJ cB cT : ClassId) (tt : Nat → Nat) (r_ r_P r_A : Nat) {i1 : Int32} {i2 : Int32} {b : Nat → Int32} {se : Int64} {z : Int32} {f_A : Nat → Int64} {out : (Nat → Int32) × Int64 × (Nat → Int64)} (h : fX0_putByHand i1 i2 b se z f_A = some out) :
    jM l yX0_putByHand (.code yX0_putByHand cX0_putByHand 3 none) rmX0_putByHand D (wTy cI cJ cB cT) tt [.ref r_, .int i1, .int i2] [cBal r_ r_P r_A b se z, cJar cJ r_A 4 f_A] (none) [cBal r_ r_P r_A out.1 out.2.1 z, cJar cJ r_A 4 out.2.2] := by
  refine jM.of (by decide) (Nat.le_of_ble_eq_true rfl) ?_
  intro p e s m below meth c A X hr
  refine j_sub (lv2 := [(0, .ref r_), (1, .int i1), (2, .int i2)]) [0, 1, 2] rfl ?_
  have hR := h
  unfold fX0_putByHand at hR
  refine j_aload_n X (q := 0) dX0_putByHand_0 rfl ?_
  refine j_iload_n X (q := 1) dX0_putByHand_1 rfl ?_
  refine j_iload_n X (q := 2) dX0_putByHand_2 rfl ?_
  obtain ⟨ov1, hov1, hR⟩ := bd_some hR
  refine j_callV X (As := [.int i1, .int i2]) (rest := []) (ws2 := [cBal r_ r_P r_A ov1 se z, cJar cJ r_A 4 f_A]) (q0 := 0) (ci := 0) (mX0_put l D cI cJ cB cT tt r_ r_P r_A hov1) [0] [.inr 0, .inl 1] k_311 k_308 k_309 k_310 rfl rfl k_40 hdX0_put (by decide) (Nat.le_of_ble_eq_true rfl) dX0_putByHand_3 (by decide) rfl rfl (by decide) rfl rfl ?_
  refine j_aload_n X (q := 0) dX0_putByHand_6 rfl ?_
  refine j_iconst X (v := 0) dX0_putByHand_7 (by decide) ?_
  obtain ⟨ov2, hov2, hR⟩ := bd_some hR
  refine j_callV X (As := [.int 0]) (rest := []) (ws2 := [cBal r_ r_P r_A ov1 ov2.1 z, cJar cJ r_A 4 ov2.2]) (q0 := 0) (ci := 0) (mX0_settle l D cI cJ cB cT tt r_ r_P r_A hov2) [0, 1] [.inr 0, .inr 1] k_315 k_312 k_314 k_0 rfl rfl k_40 hdX0_settle (by decide) (Nat.le_of_ble_eq_true rfl) dX0_putByHand_8 (by decide) rfl rfl (by decide) rfl rfl ?_
  have hR := Option.some.inj hR
  exact j_vret X hr dX0_putByHand_11 rfl (by rw [← hR])

def rmX0_doPush : Room := { frames := 1, cells := 0, slots := 0, locals := 15 }
theorem hdX0_doPush : yX0_doPush.cls ≠ "java/lang/invoke/MethodHandle" ∧ yX0_doPush.cls ≠ "java/lang/invoke/VarHandle" ∧ (parseMethodDescriptor yX0_doPush.desc).map (fun d => d.parameters.length) = some 2 := by decide +kernel
def fX0_doPush (i1 : Int32) (i2 : Int32) (b : Nat → Int32) (se : Int64) (z : Int32) : Option ((Nat → Int32)) :=
  if i1 = 0 then (lt' (upd b 1 ((b 1) + i2)) fun bv2 =>
  some bv2) else (if i1 = 1 then (lt' ((b 5) + i2) fun uv4 =>
  lt' (if uv4 < 60 then uv4 else 60) fun uv5 =>
  lt' (upd b 5 (if (0 : Int32) < uv5 then uv5 else 0)) fun bv6 =>
  some bv6) else (if i1 = 2 then (lt' (upd b 4 i2) fun bv8 =>
  some bv8) else (if i1 = 3 then (lt' (upd b 3 i2) fun bv10 =>
  some bv10) else (some b))))
set_option maxHeartbeats 8000000 in
set_option maxRecDepth 100000 in
theorem mX0_doPush (l : Launch) (D : va_G) (cI cJ cB cT : ClassId) (tt : Nat → Nat) (r_ r_P r_A : Nat) {i1 : Int32} {i2 : Int32} {b : Nat → Int32} {se : Int64} {z : Int32} {out : (Nat → Int32)} (h : fX0_doPush i1 i2 b se z = some out) :
    jM l yX0_doPush (.code yX0_doPush cX0_doPush 3 none) rmX0_doPush D (wTy cI cJ cB cT) tt [.ref r_, .int i1, .int i2] [cBal r_ r_P r_A b se z] (none) [cBal r_ r_P r_A out se z] := by
  refine jM.of (by decide) (Nat.le_of_ble_eq_true rfl) ?_
  intro p e s m below meth c A X hr
  refine j_sub (lv2 := [(0, .ref r_), (1, .int i1), (2, .int i2)]) [0, 1, 2] rfl ?_
  have hR := h
  unfold fX0_doPush at hR
  refine j_iload_n X (q := 1) dX0_doPush_0 rfl ?_
  by_cases cv1 : i1 = 0
  · replace hR := (if_pos cv1).symm.trans hR
    refine j_tableIn X (tgt := 32) dX0_doPush_1 (by rw [cv1]; decide) (by rw [cv1]; decide) (by rw [cv1]; rfl) (by decide) ?_
    refine j_aload_n X (q := 0) dX0_doPush_32 rfl ?_
    refine j_dup X dX0_doPush_33 rfl ?_
    refine j_get X 0 1 hiX0 k_100 dX0_doPush_34 rfl rfl (by decide) rfl ?_
    refine j_iload_n X (q := 2) dX0_doPush_37 rfl ?_
    refine j_iadd X dX0_doPush_38 ?_
    obtain ⟨bv2, ebv2, hR⟩ := lt_some hR
    refine j_put X (ws2 := [cBal r_ r_P r_A bv2 se z]) 0 1 hiX0 tyX0_ok nmX0 k_100 dX0_doPush_39 rfl rfl (by decide) (by decide) rfl rfl (Nat.le_of_ble_eq_true rfl) (by subst ebv2; rfl) ?_
    refine j_goto X (tgt := 83) dX0_doPush_42 (by decide) ?_
    have hR := Option.some.inj hR
    exact j_vret X hr dX0_doPush_83 rfl (by rw [← hR])
  · replace hR := (if_neg cv1).symm.trans hR
    by_cases cv3 : i1 = 1
    · replace hR := (if_pos cv3).symm.trans hR
      refine j_tableIn X (tgt := 45) dX0_doPush_1 (by rw [cv3]; decide) (by rw [cv3]; decide) (by rw [cv3]; rfl) (by decide) ?_
      refine j_aload_n X (q := 0) dX0_doPush_45 rfl ?_
      refine j_iconst X (v := 0) dX0_doPush_46 (by decide) ?_
      refine j_bipush X (v := 60) dX0_doPush_47 (by decide) ?_
      refine j_aload_n X (q := 0) dX0_doPush_49 rfl ?_
      refine j_get X 0 9 hiX0 k_111 dX0_doPush_50 rfl rfl (by decide) rfl ?_
      refine j_iload_n X (q := 2) dX0_doPush_53 rfl ?_
      refine j_iadd X dX0_doPush_54 ?_
      obtain ⟨uv4, euv4, hR⟩ := lt_some hR
      refine j_eq (congrArg (fun z => Value.int z :: _) euv4) rfl ?_
      refine j_mmin X k_361 k_362 k_48 k_363 ⟨by decide, Nat.le_of_ble_eq_true rfl, Nat.zero_le _, Nat.zero_le _⟩ dX0_doPush_55 ?_
      obtain ⟨uv5, euv5, hR⟩ := lt_some hR
      refine j_eq (congrArg (fun z => Value.int z :: _) euv5) rfl ?_
      refine j_mmax X k_364 k_365 k_48 k_366 ⟨by decide, Nat.le_of_ble_eq_true rfl, Nat.zero_le _, Nat.zero_le _⟩ dX0_doPush_58 ?_
      obtain ⟨bv6, ebv6, hR⟩ := lt_some hR
      refine j_put X (ws2 := [cBal r_ r_P r_A bv6 se z]) 0 9 hiX0 tyX0_ok nmX0 k_111 dX0_doPush_61 rfl rfl (by decide) (by decide) rfl rfl (Nat.le_of_ble_eq_true rfl) (by subst ebv6; rfl) ?_
      refine j_goto X (tgt := 83) dX0_doPush_64 (by decide) ?_
      have hR := Option.some.inj hR
      exact j_vret X hr dX0_doPush_83 rfl (by rw [← hR])
    · replace hR := (if_neg cv3).symm.trans hR
      by_cases cv7 : i1 = 2
      · replace hR := (if_pos cv7).symm.trans hR
        refine j_tableIn X (tgt := 67) dX0_doPush_1 (by rw [cv7]; decide) (by rw [cv7]; decide) (by rw [cv7]; rfl) (by decide) ?_
        refine j_aload_n X (q := 0) dX0_doPush_67 rfl ?_
        refine j_iload_n X (q := 2) dX0_doPush_68 rfl ?_
        obtain ⟨bv8, ebv8, hR⟩ := lt_some hR
        refine j_put X (ws2 := [cBal r_ r_P r_A bv8 se z]) 0 3 hiX0 tyX0_ok nmX0 k_102 dX0_doPush_69 rfl rfl (by decide) (by decide) rfl rfl (Nat.le_of_ble_eq_true rfl) (by subst ebv8; rfl) ?_
        refine j_goto X (tgt := 83) dX0_doPush_72 (by decide) ?_
        have hR := Option.some.inj hR
        exact j_vret X hr dX0_doPush_83 rfl (by rw [← hR])
      · replace hR := (if_neg cv7).symm.trans hR
        by_cases cv9 : i1 = 3
        · replace hR := (if_pos cv9).symm.trans hR
          refine j_tableIn X (tgt := 75) dX0_doPush_1 (by rw [cv9]; decide) (by rw [cv9]; decide) (by rw [cv9]; rfl) (by decide) ?_
          refine j_aload_n X (q := 0) dX0_doPush_75 rfl ?_
          refine j_iload_n X (q := 2) dX0_doPush_76 rfl ?_
          obtain ⟨bv10, ebv10, hR⟩ := lt_some hR
          refine j_put X (ws2 := [cBal r_ r_P r_A bv10 se z]) 0 2 hiX0 tyX0_ok nmX0 k_101 dX0_doPush_77 rfl rfl (by decide) (by decide) rfl rfl (Nat.le_of_ble_eq_true rfl) (by subst ebv10; rfl) ?_
          refine j_goto X (tgt := 83) dX0_doPush_80 (by decide) ?_
          have hR := Option.some.inj hR
          exact j_vret X hr dX0_doPush_83 rfl (by rw [← hR])
        · replace hR := (if_neg cv9).symm.trans hR
          refine j_tableOut X (tgt := 83) dX0_doPush_1 (by have hcv1 := lv_neT cv1 (a := 0) rfl; have hcv3 := lv_neT cv3 (a := 1) rfl; have hcv7 := lv_neT cv7 (a := 2) rfl; have hcv9 := lv_neT cv9 (a := 3) rfl; omega) (by decide) ?_
          have hR := Option.some.inj hR
          exact j_vret X hr dX0_doPush_83 rfl (by rw [← hR])

def rmX2_removeFirst : Room := { frames := 0, cells := 0, slots := 0, locals := 0 }
theorem hdX2_removeFirst : yX2_removeFirst.cls ≠ "java/lang/invoke/MethodHandle" ∧ yX2_removeFirst.cls ≠ "java/lang/invoke/VarHandle" ∧ (parseMethodDescriptor yX2_removeFirst.desc).map (fun d => d.parameters.length) = some 1 := by decide +kernel
def fX2_removeFirst_16 (i1 : Int32) : Nat → Int32 → Int32 → (Nat → Int32) → (Nat → Int32) → (Nat → Int32) → Option (Int32 × (Nat → Int32) × (Nat → Int32) × (Nat → Int32))
  | 0, _, _, _, _, _ => none
  | fu + 1, x2, k, f_s, f_t, f_w =>
    if k ≤ x2 then (lt' (k - i1) fun kv4 =>
  some (kv4, f_s, f_t, f_w)) else (if (8 : Int32) ≤ x2 then (lt' (k - i1) fun kv6 =>
  some (kv6, f_s, f_t, f_w)) else (gd (inb x2 8) (gd (inb (x2 - i1) 8) (lt' (upd f_t ((x2 - i1).toNatClampNeg) (f_t x2.toNatClampNeg)) fun f_tv9 =>
  gd (inb x2 8) (gd (inb (x2 - i1) 8) (lt' (upd f_w ((x2 - i1).toNatClampNeg) (f_w x2.toNatClampNeg)) fun f_wv12 =>
  gd (inb x2 8) (gd (inb (x2 - i1) 8) (lt' (upd f_s ((x2 - i1).toNatClampNeg) (f_s x2.toNatClampNeg)) fun f_sv15 =>
  lt' (x2 + 1) fun x2v16 =>
  fX2_removeFirst_16 i1 fu x2v16 k f_sv15 f_tv9 f_wv12))))))))
def fX2_removeFirst (i1 : Int32) (k : Int32) (f_s : Nat → Int32) (f_t : Nat → Int32) (f_w : Nat → Int32) : Option (Int32 × (Nat → Int32) × (Nat → Int32) × (Nat → Int32)) :=
  if i1 < 1 then (some (k, f_s, f_t, f_w)) else (if i1 ≤ k then (fX2_removeFirst_16 i1 500 i1 k f_s f_t f_w) else (some (k, f_s, f_t, f_w)))
set_option maxHeartbeats 8000000 in
set_option maxRecDepth 100000 in
theorem mX2_removeFirst (l : Launch) (D : va_G) (cI cJ cB cT : ClassId) (tt : Nat → Nat) (r_ r_t r_w r_s : Nat) {i1 : Int32} {k : Int32} {f_s : Nat → Int32} {f_t : Nat → Int32} {f_w : Nat → Int32} {out : Int32 × (Nat → Int32) × (Nat → Int32) × (Nat → Int32)} (h : fX2_removeFirst i1 k f_s f_t f_w = some out) :
    jM l yX2_removeFirst (.code yX2_removeFirst cX2_removeFirst 3 none) rmX2_removeFirst D (wTy cI cJ cB cT) tt [.ref r_, .int i1] [cPus r_ r_t r_w r_s k, cIar cI r_s 8 f_s, cIar cI r_t 8 f_t, cIar cI r_w 8 f_w] (none) [cPus r_ r_t r_w r_s out.1, cIar cI r_s 8 out.2.1, cIar cI r_t 8 out.2.2.1, cIar cI r_w 8 out.2.2.2] := by
  refine jM.of (by decide) (Nat.le_of_ble_eq_true rfl) ?_
  intro p e s m below meth c A X hr
  have L_16 : ∀ (fuel : Nat) (x2 : Int32) (k : Int32) (f_s : Nat → Int32) (f_t : Nat → Int32) (f_w : Nat → Int32), fX2_removeFirst_16 i1  fuel x2 k f_s f_t f_w = some out → jW p l e rmX2_removeFirst s m ([.ref r_, .int i1] : List Value).toArray below meth c D A 3 (MQ below (jQ D (none) [cPus r_ r_t r_w r_s out.1, cIar cI r_s 8 out.2.1, cIar cI r_t 8 out.2.2.1, cIar cI r_w 8 out.2.2.2] A) ([.ref r_, .int i1] : List Value).toArray s 0 0 A) 0 0 16 [(0, .ref r_), (1, .int i1), (2, .int x2)] [] [cPus r_ r_t r_w r_s k, cIar cI r_s 8 f_s, cIar cI r_t 8 f_t, cIar cI r_w 8 f_w] := by
    intro  fuel
    induction fuel with
    | zero =>
      intro x2 k f_s f_t f_w hR
      rw [fX2_removeFirst_16] at hR
      cases hR
    | succ fu ih =>
      intro x2 k f_s f_t f_w hR
      rw [fX2_removeFirst_16] at hR
      refine j_iload_n X (q := 2) dX2_removeFirst_16 rfl ?_
      refine j_aload_n X (q := 0) dX2_removeFirst_17 rfl ?_
      refine j_get X 0 3 hiX2 k_85 dX2_removeFirst_18 rfl rfl (by decide) rfl ?_
      refine j_icmp_ge X (tgt := 78) dX2_removeFirst_21 (by decide) (fun cv3 => ?_) (fun cv3 => ?_)
      · replace hR := (if_pos cv3).symm.trans hR
        refine j_aload_n X (q := 0) dX2_removeFirst_78 rfl ?_
        refine j_dup X dX2_removeFirst_79 rfl ?_
        refine j_get X 0 3 hiX2 k_85 dX2_removeFirst_80 rfl rfl (by decide) rfl ?_
        refine j_iload_n X (q := 1) dX2_removeFirst_83 rfl ?_
        refine j_isub X dX2_removeFirst_84 ?_
        obtain ⟨kv4, ekv4, hR⟩ := lt_some hR
        refine j_put X (ws2 := [cPus r_ r_t r_w r_s kv4, cIar cI r_s 8 f_s, cIar cI r_t 8 f_t, cIar cI r_w 8 f_w]) 0 3 hiX2 tyX2_ok nmX2 k_85 dX2_removeFirst_85 rfl rfl (by decide) (by decide) rfl rfl (Nat.le_of_ble_eq_true rfl) (by subst ekv4; rfl) ?_
        have hR := Option.some.inj hR
        exact j_vret X hr dX2_removeFirst_88 rfl (by rw [← hR])
      · replace hR := (if_neg cv3).symm.trans hR
        refine j_iload_n X (q := 2) dX2_removeFirst_24 rfl ?_
        refine j_bipush X (v := 8) dX2_removeFirst_25 (by decide) ?_
        refine j_icmp_ge X (tgt := 78) dX2_removeFirst_27 (by decide) (fun cv5 => ?_) (fun cv5 => ?_)
        · replace hR := (if_pos cv5).symm.trans hR
          refine j_aload_n X (q := 0) dX2_removeFirst_78 rfl ?_
          refine j_dup X dX2_removeFirst_79 rfl ?_
          refine j_get X 0 3 hiX2 k_85 dX2_removeFirst_80 rfl rfl (by decide) rfl ?_
          refine j_iload_n X (q := 1) dX2_removeFirst_83 rfl ?_
          refine j_isub X dX2_removeFirst_84 ?_
          obtain ⟨kv6, ekv6, hR⟩ := lt_some hR
          refine j_put X (ws2 := [cPus r_ r_t r_w r_s kv6, cIar cI r_s 8 f_s, cIar cI r_t 8 f_t, cIar cI r_w 8 f_w]) 0 3 hiX2 tyX2_ok nmX2 k_85 dX2_removeFirst_85 rfl rfl (by decide) (by decide) rfl rfl (Nat.le_of_ble_eq_true rfl) (by subst ekv6; rfl) ?_
          have hR := Option.some.inj hR
          exact j_vret X hr dX2_removeFirst_88 rfl (by rw [← hR])
        · replace hR := (if_neg cv5).symm.trans hR
          refine j_aload_n X (q := 0) dX2_removeFirst_30 rfl ?_
          refine j_get X 0 0 hiX2 k_76 dX2_removeFirst_31 rfl rfl (by decide) rfl ?_
          refine j_iload_n X (q := 2) dX2_removeFirst_34 rfl ?_
          refine j_iload_n X (q := 1) dX2_removeFirst_35 rfl ?_
          refine j_isub X dX2_removeFirst_36 ?_
          refine j_aload_n X (q := 0) dX2_removeFirst_37 rfl ?_
          refine j_get X 0 0 hiX2 k_76 dX2_removeFirst_38 rfl rfl (by decide) rfl ?_
          refine j_iload_n X (q := 2) dX2_removeFirst_41 rfl ?_
          obtain ⟨gv7, hR⟩ := gd_some hR
          refine j_iald X 2 0 rfl dX2_removeFirst_42 rfl rfl gv7 ?_
          obtain ⟨gv8, hR⟩ := gd_some hR
          obtain ⟨f_tv9, ef_tv9, hR⟩ := lt_some hR
          refine j_iast X (ws2 := [cPus r_ r_t r_w r_s k, cIar cI r_s 8 f_s, cIar cI r_t 8 f_tv9, cIar cI r_w 8 f_w]) 2 0 rfl dX2_removeFirst_43 rfl rfl gv8 ef_tv9 rfl ?_
          refine j_aload_n X (q := 0) dX2_removeFirst_44 rfl ?_
          refine j_get X 0 1 hiX2 k_79 dX2_removeFirst_45 rfl rfl (by decide) rfl ?_
          refine j_iload_n X (q := 2) dX2_removeFirst_48 rfl ?_
          refine j_iload_n X (q := 1) dX2_removeFirst_49 rfl ?_
          refine j_isub X dX2_removeFirst_50 ?_
          refine j_aload_n X (q := 0) dX2_removeFirst_51 rfl ?_
          refine j_get X 0 1 hiX2 k_79 dX2_removeFirst_52 rfl rfl (by decide) rfl ?_
          refine j_iload_n X (q := 2) dX2_removeFirst_55 rfl ?_
          obtain ⟨gv10, hR⟩ := gd_some hR
          refine j_iald X 3 0 rfl dX2_removeFirst_56 rfl rfl gv10 ?_
          obtain ⟨gv11, hR⟩ := gd_some hR
          obtain ⟨f_wv12, ef_wv12, hR⟩ := lt_some hR
          refine j_iast X (ws2 := [cPus r_ r_t r_w r_s k, cIar cI r_s 8 f_s, cIar cI r_t 8 f_tv9, cIar cI r_w 8 f_wv12]) 3 0 rfl dX2_removeFirst_57 rfl rfl gv11 ef_wv12 rfl ?_
          refine j_aload_n X (q := 0) dX2_removeFirst_58 rfl ?_
          refine j_get X 0 2 hiX2 k_82 dX2_removeFirst_59 rfl rfl (by decide) rfl ?_
          refine j_iload_n X (q := 2) dX2_removeFirst_62 rfl ?_
          refine j_iload_n X (q := 1) dX2_removeFirst_63 rfl ?_
          refine j_isub X dX2_removeFirst_64 ?_
          refine j_aload_n X (q := 0) dX2_removeFirst_65 rfl ?_
          refine j_get X 0 2 hiX2 k_82 dX2_removeFirst_66 rfl rfl (by decide) rfl ?_
          refine j_iload_n X (q := 2) dX2_removeFirst_69 rfl ?_
          obtain ⟨gv13, hR⟩ := gd_some hR
          refine j_iald X 1 0 rfl dX2_removeFirst_70 rfl rfl gv13 ?_
          obtain ⟨gv14, hR⟩ := gd_some hR
          obtain ⟨f_sv15, ef_sv15, hR⟩ := lt_some hR
          refine j_iast X (ws2 := [cPus r_ r_t r_w r_s k, cIar cI r_s 8 f_sv15, cIar cI r_t 8 f_tv9, cIar cI r_w 8 f_wv12]) 1 0 rfl dX2_removeFirst_71 rfl rfl gv14 ef_sv15 rfl ?_
          obtain ⟨x2v16, ex2v16, hR⟩ := lt_some hR
          refine j_iinc X (k := 2) (v := x2v16) (lv2 := [(2, .int x2v16), (0, .ref r_), (1, .int i1)]) dX2_removeFirst_72 rfl (by rw [← ex2v16]; rfl) (by decide) rfl ?_
          refine j_goto X (tgt := 16) dX2_removeFirst_75 (by decide) ?_
          refine j_sub (lv2 := [(0, .ref r_), (1, .int i1), (2, .int x2v16)]) [1, 2, 0] rfl ?_
          exact ih _ _ _ _ _ hR
  refine j_sub (lv2 := [(0, .ref r_), (1, .int i1)]) [0, 1] rfl ?_
  have hR := h
  unfold fX2_removeFirst at hR
  refine j_iload_n X (q := 1) dX2_removeFirst_0 rfl ?_
  refine j_iconst X (v := 1) dX2_removeFirst_1 (by decide) ?_
  refine j_icmp_lt X (tgt := 13) dX2_removeFirst_2 (by decide) (fun cv1 => ?_) (fun cv1 => ?_)
  · replace hR := (if_pos cv1).symm.trans hR
    have hR := Option.some.inj hR
    exact j_vret X hr dX2_removeFirst_13 rfl (by rw [← hR])
  · replace hR := (if_neg cv1).symm.trans hR
    refine j_iload_n X (q := 1) dX2_removeFirst_5 rfl ?_
    refine j_aload_n X (q := 0) dX2_removeFirst_6 rfl ?_
    refine j_get X 0 3 hiX2 k_85 dX2_removeFirst_7 rfl rfl (by decide) rfl ?_
    refine j_icmp_le X (tgt := 14) dX2_removeFirst_10 (by decide) (fun cv2 => ?_) (fun cv2 => ?_)
    · replace hR := (if_pos cv2).symm.trans hR
      refine j_iload_n X (q := 1) dX2_removeFirst_14 rfl ?_
      refine j_istore_n X (lv2 := [(2, .int i1), (0, .ref r_), (1, .int i1)]) dX2_removeFirst_15 (by decide) rfl ?_
      refine j_sub (lv2 := [(0, .ref r_), (1, .int i1), (2, .int i1)]) [1, 2, 0] rfl ?_
      exact L_16 _ _ _ _ _ _ hR
    · replace hR := (if_neg cv2).symm.trans hR
      have hR := Option.some.inj hR
      exact j_vret X hr dX2_removeFirst_13 rfl (by rw [← hR])

def rmX0_bePushed : Room := { frames := 2, cells := 0, slots := 0, locals := 37 }
theorem hdX0_bePushed : yX0_bePushed.cls ≠ "java/lang/invoke/MethodHandle" ∧ yX0_bePushed.cls ≠ "java/lang/invoke/VarHandle" ∧ (parseMethodDescriptor yX0_bePushed.desc).map (fun d => d.parameters.length) = some 0 := by decide +kernel
def fX0_bePushed_2 (se : Int64) (z : Int32) : Nat → Int32 → (Nat → Int32) → Int32 → (Nat → Int32) → (Nat → Int32) → (Nat → Int32) → Option ((Nat → Int32) × Int32 × (Nat → Int32) × (Nat → Int32) × (Nat → Int32))
  | 0, _, _, _, _, _, _ => none
  | fu + 1, x1, b, k_P, f_Ps, f_Pt, f_Pw =>
    if k_P ≤ x1 then ((fX2_removeFirst x1 k_P f_Ps f_Pt f_Pw).bind fun ov2 =>
  some (b, ov2.1, ov2.2.1, ov2.2.2.1, ov2.2.2.2)) else (if (8 : Int32) ≤ x1 then ((fX2_removeFirst x1 k_P f_Ps f_Pt f_Pw).bind fun ov4 =>
  some (b, ov4.1, ov4.2.1, ov4.2.2.1, ov4.2.2.2)) else (gd (inb x1 8) (if (f_Pt x1.toNatClampNeg) = (b 8) then (gd (inb x1 8) (gd (inb x1 8) ((fX0_doPush (f_Pw x1.toNatClampNeg) (f_Ps x1.toNatClampNeg) b se z).bind fun ov10 =>
  lt' (x1 + 1) fun x1v11 =>
  fX0_bePushed_2 se z fu x1v11 ov10 k_P f_Ps f_Pt f_Pw))) else ((fX2_removeFirst x1 k_P f_Ps f_Pt f_Pw).bind fun ov7 =>
  some (b, ov7.1, ov7.2.1, ov7.2.2.1, ov7.2.2.2)))))
def fX0_bePushed (b : Nat → Int32) (se : Int64) (z : Int32) (k_P : Int32) (f_Ps : Nat → Int32) (f_Pt : Nat → Int32) (f_Pw : Nat → Int32) : Option ((Nat → Int32) × Int32 × (Nat → Int32) × (Nat → Int32) × (Nat → Int32)) :=
  fX0_bePushed_2 se z 500 0 b k_P f_Ps f_Pt f_Pw
set_option maxHeartbeats 8000000 in
set_option maxRecDepth 100000 in
theorem mX0_bePushed (l : Launch) (D : va_G) (cI cJ cB cT : ClassId) (tt : Nat → Nat) (r_ r_P r_A r_Pt r_Pw r_Ps : Nat)  {b : Nat → Int32} {se : Int64} {z : Int32} {k_P : Int32} {f_Ps : Nat → Int32} {f_Pt : Nat → Int32} {f_Pw : Nat → Int32} {out : (Nat → Int32) × Int32 × (Nat → Int32) × (Nat → Int32) × (Nat → Int32)} (h : fX0_bePushed b se z k_P f_Ps f_Pt f_Pw = some out) :
    jM l yX0_bePushed (.code yX0_bePushed cX0_bePushed 2 none) rmX0_bePushed D (wTy cI cJ cB cT) tt [.ref r_] [cBal r_ r_P r_A b se z, cPus r_P r_Pt r_Pw r_Ps k_P, cIar cI r_Ps 8 f_Ps, cIar cI r_Pt 8 f_Pt, cIar cI r_Pw 8 f_Pw] (none) [cBal r_ r_P r_A out.1 se z, cPus r_P r_Pt r_Pw r_Ps out.2.1, cIar cI r_Ps 8 out.2.2.1, cIar cI r_Pt 8 out.2.2.2.1, cIar cI r_Pw 8 out.2.2.2.2] := by
  refine jM.of (by decide) (Nat.le_of_ble_eq_true rfl) ?_
  intro p e s m below meth c A X hr
  have L_2 : ∀ (fuel : Nat) (x1 : Int32) (b : Nat → Int32) (k_P : Int32) (f_Ps : Nat → Int32) (f_Pt : Nat → Int32) (f_Pw : Nat → Int32), fX0_bePushed_2 se z  fuel x1 b k_P f_Ps f_Pt f_Pw = some out → jW p l e rmX0_bePushed s m ([.ref r_] : List Value).toArray below meth c D A 2 (MQ below (jQ D (none) [cBal r_ r_P r_A out.1 se z, cPus r_P r_Pt r_Pw r_Ps out.2.1, cIar cI r_Ps 8 out.2.2.1, cIar cI r_Pt 8 out.2.2.2.1, cIar cI r_Pw 8 out.2.2.2.2] A) ([.ref r_] : List Value).toArray s 0 0 A) 0 0 2 [(0, .ref r_), (1, .int x1)] [] [cBal r_ r_P r_A b se z, cPus r_P r_Pt r_Pw r_Ps k_P, cIar cI r_Ps 8 f_Ps, cIar cI r_Pt 8 f_Pt, cIar cI r_Pw 8 f_Pw] := by
    intro  fuel
    induction fuel with
    | zero =>
      intro x1 b k_P f_Ps f_Pt f_Pw hR
      rw [fX0_bePushed_2] at hR
      cases hR
    | succ fu ih =>
      intro x1 b k_P f_Ps f_Pt f_Pw hR
      rw [fX0_bePushed_2] at hR
      refine j_iload_n X (q := 1) dX0_bePushed_2 rfl ?_
      refine j_aload_n X (q := 0) dX0_bePushed_3 rfl ?_
      refine j_get X 0 11 hiX0 k_113 dX0_bePushed_4 rfl rfl (by decide) rfl ?_
      refine j_get X 1 3 hiX2 k_86 dX0_bePushed_7 rfl rfl (by decide) rfl ?_
      refine j_icmp_ge X (tgt := 63) dX0_bePushed_10 (by decide) (fun cv1 => ?_) (fun cv1 => ?_)
      · replace hR := (if_pos cv1).symm.trans hR
        refine j_aload_n X (q := 0) dX0_bePushed_63 rfl ?_
        refine j_get X 0 11 hiX0 k_113 dX0_bePushed_64 rfl rfl (by decide) rfl ?_
        refine j_iload_n X (q := 1) dX0_bePushed_67 rfl ?_
        obtain ⟨ov2, hov2, hR⟩ := bd_some hR
        refine j_callV X (As := [.int x1]) (rest := []) (ws2 := [cBal r_ r_P r_A b se z, cPus r_P r_Pt r_Pw r_Ps ov2.1, cIar cI r_Ps 8 ov2.2.1, cIar cI r_Pt 8 ov2.2.2.1, cIar cI r_Pw 8 ov2.2.2.2]) (q0 := 1) (ci := 2) (mX2_removeFirst l D cI cJ cB cT tt r_P r_Pt r_Pw r_Ps hov2) [1, 2, 3, 4] [.inl 0, .inr 0, .inr 1, .inr 2, .inr 3] k_370 k_367 k_368 k_369 rfl rfl k_41 hdX2_removeFirst (by decide) (Nat.le_of_ble_eq_true rfl) dX0_bePushed_68 (by decide) rfl rfl (by decide) rfl rfl ?_
        have hR := Option.some.inj hR
        exact j_vret X hr dX0_bePushed_71 rfl (by rw [← hR])
      · replace hR := (if_neg cv1).symm.trans hR
        refine j_iload_n X (q := 1) dX0_bePushed_13 rfl ?_
        refine j_bipush X (v := 8) dX0_bePushed_14 (by decide) ?_
        refine j_icmp_ge X (tgt := 63) dX0_bePushed_16 (by decide) (fun cv3 => ?_) (fun cv3 => ?_)
        · replace hR := (if_pos cv3).symm.trans hR
          refine j_aload_n X (q := 0) dX0_bePushed_63 rfl ?_
          refine j_get X 0 11 hiX0 k_113 dX0_bePushed_64 rfl rfl (by decide) rfl ?_
          refine j_iload_n X (q := 1) dX0_bePushed_67 rfl ?_
          obtain ⟨ov4, hov4, hR⟩ := bd_some hR
          refine j_callV X (As := [.int x1]) (rest := []) (ws2 := [cBal r_ r_P r_A b se z, cPus r_P r_Pt r_Pw r_Ps ov4.1, cIar cI r_Ps 8 ov4.2.1, cIar cI r_Pt 8 ov4.2.2.1, cIar cI r_Pw 8 ov4.2.2.2]) (q0 := 1) (ci := 2) (mX2_removeFirst l D cI cJ cB cT tt r_P r_Pt r_Pw r_Ps hov4) [1, 2, 3, 4] [.inl 0, .inr 0, .inr 1, .inr 2, .inr 3] k_370 k_367 k_368 k_369 rfl rfl k_41 hdX2_removeFirst (by decide) (Nat.le_of_ble_eq_true rfl) dX0_bePushed_68 (by decide) rfl rfl (by decide) rfl rfl ?_
          have hR := Option.some.inj hR
          exact j_vret X hr dX0_bePushed_71 rfl (by rw [← hR])
        · replace hR := (if_neg cv3).symm.trans hR
          refine j_aload_n X (q := 0) dX0_bePushed_19 rfl ?_
          refine j_get X 0 11 hiX0 k_113 dX0_bePushed_20 rfl rfl (by decide) rfl ?_
          refine j_get X 1 0 hiX2 k_78 dX0_bePushed_23 rfl rfl (by decide) rfl ?_
          refine j_iload_n X (q := 1) dX0_bePushed_26 rfl ?_
          obtain ⟨gv5, hR⟩ := gd_some hR
          refine j_iald X 3 0 rfl dX0_bePushed_27 rfl rfl gv5 ?_
          refine j_aload_n X (q := 0) dX0_bePushed_28 rfl ?_
          refine j_get X 0 5 hiX0 k_105 dX0_bePushed_29 rfl rfl (by decide) rfl ?_
          refine j_icmp_ne X (tgt := 63) dX0_bePushed_32 (by decide) (fun cv6 => ?_) (fun cv6 => ?_)
          · replace hR := (if_neg cv6).symm.trans hR
            refine j_aload_n X (q := 0) dX0_bePushed_63 rfl ?_
            refine j_get X 0 11 hiX0 k_113 dX0_bePushed_64 rfl rfl (by decide) rfl ?_
            refine j_iload_n X (q := 1) dX0_bePushed_67 rfl ?_
            obtain ⟨ov7, hov7, hR⟩ := bd_some hR
            refine j_callV X (As := [.int x1]) (rest := []) (ws2 := [cBal r_ r_P r_A b se z, cPus r_P r_Pt r_Pw r_Ps ov7.1, cIar cI r_Ps 8 ov7.2.1, cIar cI r_Pt 8 ov7.2.2.1, cIar cI r_Pw 8 ov7.2.2.2]) (q0 := 1) (ci := 2) (mX2_removeFirst l D cI cJ cB cT tt r_P r_Pt r_Pw r_Ps hov7) [1, 2, 3, 4] [.inl 0, .inr 0, .inr 1, .inr 2, .inr 3] k_370 k_367 k_368 k_369 rfl rfl k_41 hdX2_removeFirst (by decide) (Nat.le_of_ble_eq_true rfl) dX0_bePushed_68 (by decide) rfl rfl (by decide) rfl rfl ?_
            have hR := Option.some.inj hR
            exact j_vret X hr dX0_bePushed_71 rfl (by rw [← hR])
          · replace hR := (if_pos cv6).symm.trans hR
            refine j_aload_n X (q := 0) dX0_bePushed_35 rfl ?_
            refine j_aload_n X (q := 0) dX0_bePushed_36 rfl ?_
            refine j_get X 0 11 hiX0 k_113 dX0_bePushed_37 rfl rfl (by decide) rfl ?_
            refine j_get X 1 1 hiX2 k_81 dX0_bePushed_40 rfl rfl (by decide) rfl ?_
            refine j_iload_n X (q := 1) dX0_bePushed_43 rfl ?_
            obtain ⟨gv8, hR⟩ := gd_some hR
            refine j_iald X 4 0 rfl dX0_bePushed_44 rfl rfl gv8 ?_
            refine j_aload_n X (q := 0) dX0_bePushed_45 rfl ?_
            refine j_get X 0 11 hiX0 k_113 dX0_bePushed_46 rfl rfl (by decide) rfl ?_
            refine j_get X 1 2 hiX2 k_84 dX0_bePushed_49 rfl rfl (by decide) rfl ?_
            refine j_iload_n X (q := 1) dX0_bePushed_52 rfl ?_
            obtain ⟨gv9, hR⟩ := gd_some hR
            refine j_iald X 2 0 rfl dX0_bePushed_53 rfl rfl gv9 ?_
            obtain ⟨ov10, hov10, hR⟩ := bd_some hR
            refine j_callV X (As := [.int (f_Pw x1.toNatClampNeg), .int (f_Ps x1.toNatClampNeg)]) (rest := []) (ws2 := [cBal r_ r_P r_A ov10 se z, cPus r_P r_Pt r_Pw r_Ps k_P, cIar cI r_Ps 8 f_Ps, cIar cI r_Pt 8 f_Pt, cIar cI r_Pw 8 f_Pw]) (q0 := 0) (ci := 0) (mX0_doPush l D cI cJ cB cT tt r_ r_P r_A hov10) [0] [.inr 0, .inl 1, .inl 2, .inl 3, .inl 4] k_360 k_357 k_359 k_2 rfl rfl k_40 hdX0_doPush (by decide) (Nat.le_of_ble_eq_true rfl) dX0_bePushed_54 (by decide) rfl rfl (by decide) rfl rfl ?_
            obtain ⟨x1v11, ex1v11, hR⟩ := lt_some hR
            refine j_iinc X (k := 1) (v := x1v11) (lv2 := [(1, .int x1v11), (0, .ref r_)]) dX0_bePushed_57 rfl (by rw [← ex1v11]; rfl) (by decide) rfl ?_
            refine j_goto X (tgt := 2) dX0_bePushed_60 (by decide) ?_
            refine j_sub (lv2 := [(0, .ref r_), (1, .int x1v11)]) [1, 0] rfl ?_
            exact ih _ _ _ _ _ _ hR
  refine j_sub (lv2 := [(0, .ref r_)]) [0] rfl ?_
  have hR := h
  unfold fX0_bePushed at hR
  refine j_iconst X (v := 0) dX0_bePushed_0 (by decide) ?_
  refine j_istore_n X (lv2 := [(1, .int 0), (0, .ref r_)]) dX0_bePushed_1 (by decide) rfl ?_
  refine j_sub (lv2 := [(0, .ref r_), (1, .int 0)]) [1, 0] rfl ?_
  exact L_2 _ _ _ _ _ _ _ hR

def rmX0_beDragged : Room := { frames := 1, cells := 0, slots := 0, locals := 14 }
theorem hdX0_beDragged : yX0_beDragged.cls ≠ "java/lang/invoke/MethodHandle" ∧ yX0_beDragged.cls ≠ "java/lang/invoke/VarHandle" ∧ (parseMethodDescriptor yX0_beDragged.desc).map (fun d => d.parameters.length) = some 0 := by decide +kernel
def fX0_beDragged (b : Nat → Int32) (se : Int64) (z : Int32) : Option ((Nat → Int32)) :=
  if (b 1) ≤ 0 then (lt' ((b 1) + (b 3)) fun uv2 =>
  lt' (upd b 1 (if uv2 < 0 then uv2 else 0)) fun bv3 =>
  some bv3) else (lt' ((b 1) - (b 3)) fun uv4 =>
  lt' (upd b 1 (if (0 : Int32) < uv4 then uv4 else 0)) fun bv5 =>
  some bv5)
set_option maxHeartbeats 8000000 in
set_option maxRecDepth 100000 in
theorem mX0_beDragged (l : Launch) (D : va_G) (cI cJ cB cT : ClassId) (tt : Nat → Nat) (r_ r_P r_A : Nat)  {b : Nat → Int32} {se : Int64} {z : Int32} {out : (Nat → Int32)} (h : fX0_beDragged b se z = some out) :
    jM l yX0_beDragged (.code yX0_beDragged cX0_beDragged 1 none) rmX0_beDragged D (wTy cI cJ cB cT) tt [.ref r_] [cBal r_ r_P r_A b se z] (none) [cBal r_ r_P r_A out se z] := by
  refine jM.of (by decide) (Nat.le_of_ble_eq_true rfl) ?_
  intro p e s m below meth c A X hr
  refine j_sub (lv2 := [(0, .ref r_)]) [0] rfl ?_
  have hR := h
  unfold fX0_beDragged at hR
  refine j_aload_n X (q := 0) dX0_beDragged_0 rfl ?_
  refine j_get X 0 1 hiX0 k_100 dX0_beDragged_1 rfl rfl (by decide) rfl ?_
  refine j_if_le X (tgt := 27) dX0_beDragged_4 (by decide) (fun cv1 => ?_) (fun cv1 => ?_)
  · replace hR := (if_pos cv1).symm.trans hR
    refine j_aload_n X (q := 0) dX0_beDragged_27 rfl ?_
    refine j_iconst X (v := 0) dX0_beDragged_28 (by decide) ?_
    refine j_aload_n X (q := 0) dX0_beDragged_29 rfl ?_
    refine j_get X 0 1 hiX0 k_100 dX0_beDragged_30 rfl rfl (by decide) rfl ?_
    refine j_aload_n X (q := 0) dX0_beDragged_33 rfl ?_
    refine j_get X 0 2 hiX0 k_101 dX0_beDragged_34 rfl rfl (by decide) rfl ?_
    refine j_iadd X dX0_beDragged_37 ?_
    obtain ⟨uv2, euv2, hR⟩ := lt_some hR
    refine j_eq (congrArg (fun z => Value.int z :: _) euv2) rfl ?_
    refine j_mmin X k_361 k_362 k_48 k_363 ⟨by decide, Nat.le_of_ble_eq_true rfl, Nat.zero_le _, Nat.zero_le _⟩ dX0_beDragged_38 ?_
    obtain ⟨bv3, ebv3, hR⟩ := lt_some hR
    refine j_put X (ws2 := [cBal r_ r_P r_A bv3 se z]) 0 1 hiX0 tyX0_ok nmX0 k_100 dX0_beDragged_41 rfl rfl (by decide) (by decide) rfl rfl (Nat.le_of_ble_eq_true rfl) (by subst ebv3; rfl) ?_
    have hR := Option.some.inj hR
    exact j_vret X hr dX0_beDragged_44 rfl (by rw [← hR])
  · replace hR := (if_neg cv1).symm.trans hR
    refine j_aload_n X (q := 0) dX0_beDragged_7 rfl ?_
    refine j_iconst X (v := 0) dX0_beDragged_8 (by decide) ?_
    refine j_aload_n X (q := 0) dX0_beDragged_9 rfl ?_
    refine j_get X 0 1 hiX0 k_100 dX0_beDragged_10 rfl rfl (by decide) rfl ?_
    refine j_aload_n X (q := 0) dX0_beDragged_13 rfl ?_
    refine j_get X 0 2 hiX0 k_101 dX0_beDragged_14 rfl rfl (by decide) rfl ?_
    refine j_isub X dX0_beDragged_17 ?_
    obtain ⟨uv4, euv4, hR⟩ := lt_some hR
    refine j_eq (congrArg (fun z => Value.int z :: _) euv4) rfl ?_
    refine j_mmax X k_364 k_365 k_48 k_366 ⟨by decide, Nat.le_of_ble_eq_true rfl, Nat.zero_le _, Nat.zero_le _⟩ dX0_beDragged_18 ?_
    obtain ⟨bv5, ebv5, hR⟩ := lt_some hR
    refine j_put X (ws2 := [cBal r_ r_P r_A bv5 se z]) 0 1 hiX0 tyX0_ok nmX0 k_100 dX0_beDragged_21 rfl rfl (by decide) (by decide) rfl rfl (Nat.le_of_ble_eq_true rfl) (by subst ebv5; rfl) ?_
    refine j_goto X (tgt := 44) dX0_beDragged_24 (by decide) ?_
    have hR := Option.some.inj hR
    exact j_vret X hr dX0_beDragged_44 rfl (by rw [← hR])

def rmX0_swing : Room := { frames := 0, cells := 0, slots := 0, locals := 0 }
theorem hdX0_swing : yX0_swing.cls ≠ "java/lang/invoke/MethodHandle" ∧ yX0_swing.cls ≠ "java/lang/invoke/VarHandle" ∧ (parseMethodDescriptor yX0_swing.desc).map (fun d => d.parameters.length) = some 0 := by decide +kernel
def fX0_swing_50 (se : Int64) (z : Int32) : Int32 → (Nat → Int32) → Option ((Nat → Int32)) := fun y0 b =>
    lt' (upd b 0 y0) fun bv6 =>
  lt' (upd bv6 1 0) fun bv7 =>
  lt' (upd bv7 10 ((bv7 10) + 1)) fun bv8 =>
  some bv8
def fX0_swing (b : Nat → Int32) (se : Int64) (z : Int32) : Option ((Nat → Int32)) :=
  lt' (upd b 0 ((b 0) + (b 1))) fun bv1 =>
  if (300 : Int32) < (bv1 0) then (if (bv1 0) ≤ 0 then (fX0_swing_50 se z (-300) bv1) else (fX0_swing_50 se z 300 bv1)) else (if ((-300) : Int32) ≤ (bv1 0) then (some bv1) else (if (bv1 0) ≤ 0 then (fX0_swing_50 se z (-300) bv1) else (fX0_swing_50 se z 300 bv1)))
set_option maxHeartbeats 8000000 in
set_option maxRecDepth 100000 in
theorem mX0_swing (l : Launch) (D : va_G) (cI cJ cB cT : ClassId) (tt : Nat → Nat) (r_ r_P r_A : Nat)  {b : Nat → Int32} {se : Int64} {z : Int32} {out : (Nat → Int32)} (h : fX0_swing b se z = some out) :
    jM l yX0_swing (.code yX0_swing cX0_swing 1 none) rmX0_swing D (wTy cI cJ cB cT) tt [.ref r_] [cBal r_ r_P r_A b se z] (none) [cBal r_ r_P r_A out se z] := by
  refine jM.of (by decide) (Nat.le_of_ble_eq_true rfl) ?_
  intro p e s m below meth c A X hr
  have L_50 : ∀ (y0 : Int32) (b : Nat → Int32), fX0_swing_50 se z  y0 b = some out → jW p l e rmX0_swing s m ([.ref r_] : List Value).toArray below meth c D A 1 (MQ below (jQ D (none) [cBal r_ r_P r_A out se z] A) ([.ref r_] : List Value).toArray s 0 0 A) 0 0 50 [(0, .ref r_)] [.int y0, .ref r_] [cBal r_ r_P r_A b se z] := by
    intro  y0 b hR
    unfold fX0_swing_50 at hR
    obtain ⟨bv6, ebv6, hR⟩ := lt_some hR
    refine j_put X (ws2 := [cBal r_ r_P r_A bv6 se z]) 0 0 hiX0 tyX0_ok nmX0 k_98 dX0_swing_50 rfl rfl (by decide) (by decide) rfl rfl (Nat.le_of_ble_eq_true rfl) (by subst ebv6; rfl) ?_
    refine j_aload_n X (q := 0) dX0_swing_53 rfl ?_
    refine j_iconst X (v := 0) dX0_swing_54 (by decide) ?_
    obtain ⟨bv7, ebv7, hR⟩ := lt_some hR
    refine j_put X (ws2 := [cBal r_ r_P r_A bv7 se z]) 0 1 hiX0 tyX0_ok nmX0 k_100 dX0_swing_55 rfl rfl (by decide) (by decide) rfl rfl (Nat.le_of_ble_eq_true rfl) (by subst ebv7; rfl) ?_
    refine j_aload_n X (q := 0) dX0_swing_58 rfl ?_
    refine j_dup X dX0_swing_59 rfl ?_
    refine j_get X 0 7 hiX0 k_109 dX0_swing_60 rfl rfl (by decide) rfl ?_
    refine j_iconst X (v := 1) dX0_swing_63 (by decide) ?_
    refine j_iadd X dX0_swing_64 ?_
    obtain ⟨bv8, ebv8, hR⟩ := lt_some hR
    refine j_put X (ws2 := [cBal r_ r_P r_A bv8 se z]) 0 7 hiX0 tyX0_ok nmX0 k_109 dX0_swing_65 rfl rfl (by decide) (by decide) rfl rfl (Nat.le_of_ble_eq_true rfl) (by subst ebv8; rfl) ?_
    have hR := Option.some.inj hR
    exact j_vret X hr dX0_swing_68 rfl (by rw [← hR])
  refine j_sub (lv2 := [(0, .ref r_)]) [0] rfl ?_
  have hR := h
  unfold fX0_swing at hR
  refine j_aload_n X (q := 0) dX0_swing_0 rfl ?_
  refine j_dup X dX0_swing_1 rfl ?_
  refine j_get X 0 0 hiX0 k_98 dX0_swing_2 rfl rfl (by decide) rfl ?_
  refine j_aload_n X (q := 0) dX0_swing_5 rfl ?_
  refine j_get X 0 1 hiX0 k_100 dX0_swing_6 rfl rfl (by decide) rfl ?_
  refine j_iadd X dX0_swing_9 ?_
  obtain ⟨bv1, ebv1, hR⟩ := lt_some hR
  refine j_put X (ws2 := [cBal r_ r_P r_A bv1 se z]) 0 0 hiX0 tyX0_ok nmX0 k_98 dX0_swing_10 rfl rfl (by decide) (by decide) rfl rfl (Nat.le_of_ble_eq_true rfl) (by subst ebv1; rfl) ?_
  refine j_aload_n X (q := 0) dX0_swing_13 rfl ?_
  refine j_get X 0 0 hiX0 k_98 dX0_swing_14 rfl rfl (by decide) rfl ?_
  refine j_sipush X (v := 300) dX0_swing_17 (by decide) ?_
  refine j_icmp_gt X (tgt := 33) dX0_swing_20 (by decide) (fun cv2 => ?_) (fun cv2 => ?_)
  · replace hR := (if_pos cv2).symm.trans hR
    refine j_aload_n X (q := 0) dX0_swing_33 rfl ?_
    refine j_aload_n X (q := 0) dX0_swing_34 rfl ?_
    refine j_get X 0 0 hiX0 k_98 dX0_swing_35 rfl rfl (by decide) rfl ?_
    refine j_if_le X (tgt := 47) dX0_swing_38 (by decide) (fun cv3 => ?_) (fun cv3 => ?_)
    · replace hR := (if_pos cv3).symm.trans hR
      refine j_sipush X (v := (-300)) dX0_swing_47 (by decide) ?_
      exact L_50 _ _ hR
    · replace hR := (if_neg cv3).symm.trans hR
      refine j_sipush X (v := 300) dX0_swing_41 (by decide) ?_
      refine j_goto X (tgt := 50) dX0_swing_44 (by decide) ?_
      exact L_50 _ _ hR
  · replace hR := (if_neg cv2).symm.trans hR
    refine j_aload_n X (q := 0) dX0_swing_23 rfl ?_
    refine j_get X 0 0 hiX0 k_98 dX0_swing_24 rfl rfl (by decide) rfl ?_
    refine j_sipush X (v := (-300)) dX0_swing_27 (by decide) ?_
    refine j_icmp_ge X (tgt := 68) dX0_swing_30 (by decide) (fun cv4 => ?_) (fun cv4 => ?_)
    · replace hR := (if_pos cv4).symm.trans hR
      have hR := Option.some.inj hR
      exact j_vret X hr dX0_swing_68 rfl (by rw [← hR])
    · replace hR := (if_neg cv4).symm.trans hR
      refine j_aload_n X (q := 0) dX0_swing_33 rfl ?_
      refine j_aload_n X (q := 0) dX0_swing_34 rfl ?_
      refine j_get X 0 0 hiX0 k_98 dX0_swing_35 rfl rfl (by decide) rfl ?_
      refine j_if_le X (tgt := 47) dX0_swing_38 (by decide) (fun cv5 => ?_) (fun cv5 => ?_)
      · replace hR := (if_pos cv5).symm.trans hR
        refine j_sipush X (v := (-300)) dX0_swing_47 (by decide) ?_
        exact L_50 _ _ hR
      · replace hR := (if_neg cv5).symm.trans hR
        refine j_sipush X (v := 300) dX0_swing_41 (by decide) ?_
        refine j_goto X (tgt := 50) dX0_swing_44 (by decide) ?_
        exact L_50 _ _ hR

def rmX0_isLetGo : Room := { frames := 0, cells := 0, slots := 0, locals := 0 }
theorem hdX0_isLetGo : yX0_isLetGo.cls ≠ "java/lang/invoke/MethodHandle" ∧ yX0_isLetGo.cls ≠ "java/lang/invoke/VarHandle" ∧ (parseMethodDescriptor yX0_isLetGo.desc).map (fun d => d.parameters.length) = some 1 := by decide +kernel
def fX0_isLetGo (i1 : Int32) (b : Nat → Int32) (se : Int64) (z : Int32) : Option (Int32) :=
  if (0 : Int32) < (b 5) then (if (b 7) = 0 then (if (b 4) < i1 then (some 0) else (if (b 0) ≤ (b 4) then (some 0) else (some 1))) else (if i1 < (b 4) then (some 0) else (if (b 4) ≤ (b 0) then (some 0) else (some 1)))) else (some 0)
set_option maxHeartbeats 8000000 in
set_option maxRecDepth 100000 in
theorem mX0_isLetGo (l : Launch) (D : va_G) (cI cJ cB cT : ClassId) (tt : Nat → Nat) (r_ r_P r_A : Nat) {i1 : Int32} {b : Nat → Int32} {se : Int64} {z : Int32} {out : Int32} (h : fX0_isLetGo i1 b se z = some out) :
    jM l yX0_isLetGo (.code yX0_isLetGo cX0_isLetGo 2 (some .boolean)) rmX0_isLetGo D (wTy cI cJ cB cT) tt [.ref r_, .int i1] [cBal r_ r_P r_A b se z] (some (.int out)) [cBal r_ r_P r_A b se z] := by
  refine jM.of (by decide) (Nat.le_of_ble_eq_true rfl) ?_
  intro p e s m below meth c A X hr
  refine j_sub (lv2 := [(0, .ref r_), (1, .int i1)]) [0, 1] rfl ?_
  have hR := h
  unfold fX0_isLetGo at hR
  refine j_aload_n X (q := 0) dX0_isLetGo_0 rfl ?_
  refine j_get X 0 9 hiX0 k_111 dX0_isLetGo_1 rfl rfl (by decide) rfl ?_
  refine j_if_gt X (tgt := 9) dX0_isLetGo_4 (by decide) (fun cv1 => ?_) (fun cv1 => ?_)
  · replace hR := (if_pos cv1).symm.trans hR
    refine j_aload_n X (q := 0) dX0_isLetGo_9 rfl ?_
    refine j_get X 0 4 hiX0 k_104 dX0_isLetGo_10 rfl rfl (by decide) rfl ?_
    refine j_if_ne X (tgt := 43) dX0_isLetGo_13 (by decide) (fun cv2 => ?_) (fun cv2 => ?_)
    · replace hR := (if_neg cv2).symm.trans hR
      refine j_iload_n X (q := 1) dX0_isLetGo_43 rfl ?_
      refine j_aload_n X (q := 0) dX0_isLetGo_44 rfl ?_
      refine j_get X 0 3 hiX0 k_102 dX0_isLetGo_45 rfl rfl (by decide) rfl ?_
      refine j_icmp_lt X (tgt := 66) dX0_isLetGo_48 (by decide) (fun cv3 => ?_) (fun cv3 => ?_)
      · replace hR := (if_pos cv3).symm.trans hR
        refine j_iconst X (v := 0) dX0_isLetGo_66 (by decide) ?_
        have hR := Option.some.inj hR
        exact j_zret X hr rfl dX0_isLetGo_67 (by rw [← hR]) rfl
      · replace hR := (if_neg cv3).symm.trans hR
        refine j_aload_n X (q := 0) dX0_isLetGo_51 rfl ?_
        refine j_get X 0 0 hiX0 k_98 dX0_isLetGo_52 rfl rfl (by decide) rfl ?_
        refine j_aload_n X (q := 0) dX0_isLetGo_55 rfl ?_
        refine j_get X 0 3 hiX0 k_102 dX0_isLetGo_56 rfl rfl (by decide) rfl ?_
        refine j_icmp_ge X (tgt := 66) dX0_isLetGo_59 (by decide) (fun cv4 => ?_) (fun cv4 => ?_)
        · replace hR := (if_pos cv4).symm.trans hR
          refine j_iconst X (v := 0) dX0_isLetGo_66 (by decide) ?_
          have hR := Option.some.inj hR
          exact j_zret X hr rfl dX0_isLetGo_67 (by rw [← hR]) rfl
        · replace hR := (if_neg cv4).symm.trans hR
          refine j_iconst X (v := 1) dX0_isLetGo_62 (by decide) ?_
          refine j_goto X (tgt := 67) dX0_isLetGo_63 (by decide) ?_
          have hR := Option.some.inj hR
          exact j_zret X hr rfl dX0_isLetGo_67 (by rw [← hR]) rfl
    · replace hR := (if_pos cv2).symm.trans hR
      refine j_iload_n X (q := 1) dX0_isLetGo_16 rfl ?_
      refine j_aload_n X (q := 0) dX0_isLetGo_17 rfl ?_
      refine j_get X 0 3 hiX0 k_102 dX0_isLetGo_18 rfl rfl (by decide) rfl ?_
      refine j_icmp_gt X (tgt := 39) dX0_isLetGo_21 (by decide) (fun cv5 => ?_) (fun cv5 => ?_)
      · replace hR := (if_pos cv5).symm.trans hR
        refine j_iconst X (v := 0) dX0_isLetGo_39 (by decide) ?_
        refine j_goto X (tgt := 67) dX0_isLetGo_40 (by decide) ?_
        have hR := Option.some.inj hR
        exact j_zret X hr rfl dX0_isLetGo_67 (by rw [← hR]) rfl
      · replace hR := (if_neg cv5).symm.trans hR
        refine j_aload_n X (q := 0) dX0_isLetGo_24 rfl ?_
        refine j_get X 0 0 hiX0 k_98 dX0_isLetGo_25 rfl rfl (by decide) rfl ?_
        refine j_aload_n X (q := 0) dX0_isLetGo_28 rfl ?_
        refine j_get X 0 3 hiX0 k_102 dX0_isLetGo_29 rfl rfl (by decide) rfl ?_
        refine j_icmp_le X (tgt := 39) dX0_isLetGo_32 (by decide) (fun cv6 => ?_) (fun cv6 => ?_)
        · replace hR := (if_pos cv6).symm.trans hR
          refine j_iconst X (v := 0) dX0_isLetGo_39 (by decide) ?_
          refine j_goto X (tgt := 67) dX0_isLetGo_40 (by decide) ?_
          have hR := Option.some.inj hR
          exact j_zret X hr rfl dX0_isLetGo_67 (by rw [← hR]) rfl
        · replace hR := (if_neg cv6).symm.trans hR
          refine j_iconst X (v := 1) dX0_isLetGo_35 (by decide) ?_
          refine j_goto X (tgt := 67) dX0_isLetGo_36 (by decide) ?_
          have hR := Option.some.inj hR
          exact j_zret X hr rfl dX0_isLetGo_67 (by rw [← hR]) rfl
  · replace hR := (if_neg cv1).symm.trans hR
    refine j_iconst X (v := 0) dX0_isLetGo_7 (by decide) ?_
    have hR := Option.some.inj hR
    exact j_zret X hr rfl dX0_isLetGo_8 (by rw [← hR]) rfl

def rmX0_beKicked : Room := { frames := 0, cells := 0, slots := 0, locals := 0 }
theorem hdX0_beKicked : yX0_beKicked.cls ≠ "java/lang/invoke/MethodHandle" ∧ yX0_beKicked.cls ≠ "java/lang/invoke/VarHandle" ∧ (parseMethodDescriptor yX0_beKicked.desc).map (fun d => d.parameters.length) = some 0 := by decide +kernel
def fX0_beKicked_49 (se : Int64) (z : Int32) : (Nat → Int32) → Option ((Nat → Int32)) := fun b =>
    lt' (upd b 9 ((b 9) + 1)) fun bv7 =>
  if (bv7 6) ≤ 0 then (some bv7) else (gd (!decide (bv7 6 = 0)) (if ((bv7 9) - (bv7 9) / (bv7 6) * (bv7 6)) = 0 then (lt' (upd bv7 5 ((bv7 5) - 1)) fun bv11 =>
  some bv11) else (some bv7)))
def fX0_beKicked (b : Nat → Int32) (se : Int64) (z : Int32) : Option ((Nat → Int32)) :=
  lt' (((b 5) + 3) / 4) fun x1v1 =>
  if (b 7) = 0 then (lt' (upd b 1 ((b 1) + x1v1)) fun bv5 =>
  lt' (upd bv5 7 1) fun bv6 =>
  fX0_beKicked_49 se z bv6) else (lt' (upd b 1 ((b 1) - x1v1)) fun bv3 =>
  lt' (upd bv3 7 0) fun bv4 =>
  fX0_beKicked_49 se z bv4)
set_option maxHeartbeats 8000000 in
set_option maxRecDepth 100000 in
theorem mX0_beKicked (l : Launch) (D : va_G) (cI cJ cB cT : ClassId) (tt : Nat → Nat) (r_ r_P r_A : Nat)  {b : Nat → Int32} {se : Int64} {z : Int32} {out : (Nat → Int32)} (h : fX0_beKicked b se z = some out) :
    jM l yX0_beKicked (.code yX0_beKicked cX0_beKicked 2 none) rmX0_beKicked D (wTy cI cJ cB cT) tt [.ref r_] [cBal r_ r_P r_A b se z] (none) [cBal r_ r_P r_A out se z] := by
  refine jM.of (by decide) (Nat.le_of_ble_eq_true rfl) ?_
  intro p e s m below meth c A X hr
  have L_49 : ∀ (b : Nat → Int32), fX0_beKicked_49 se z  b = some out → jW p l e rmX0_beKicked s m ([.ref r_] : List Value).toArray below meth c D A 2 (MQ below (jQ D (none) [cBal r_ r_P r_A out se z] A) ([.ref r_] : List Value).toArray s 0 0 A) 0 0 49 [(0, .ref r_)] [] [cBal r_ r_P r_A b se z] := by
    intro  b hR
    unfold fX0_beKicked_49 at hR
    refine j_aload_n X (q := 0) dX0_beKicked_49 rfl ?_
    refine j_dup X dX0_beKicked_50 rfl ?_
    refine j_get X 0 6 hiX0 k_107 dX0_beKicked_51 rfl rfl (by decide) rfl ?_
    refine j_iconst X (v := 1) dX0_beKicked_54 (by decide) ?_
    refine j_iadd X dX0_beKicked_55 ?_
    obtain ⟨bv7, ebv7, hR⟩ := lt_some hR
    refine j_put X (ws2 := [cBal r_ r_P r_A bv7 se z]) 0 6 hiX0 tyX0_ok nmX0 k_107 dX0_beKicked_56 rfl rfl (by decide) (by decide) rfl rfl (Nat.le_of_ble_eq_true rfl) (by subst ebv7; rfl) ?_
    refine j_aload_n X (q := 0) dX0_beKicked_59 rfl ?_
    refine j_get X 0 10 hiX0 k_112 dX0_beKicked_60 rfl rfl (by decide) rfl ?_
    refine j_if_le X (tgt := 88) dX0_beKicked_63 (by decide) (fun cv8 => ?_) (fun cv8 => ?_)
    · replace hR := (if_pos cv8).symm.trans hR
      have hR := Option.some.inj hR
      exact j_vret X hr dX0_beKicked_88 rfl (by rw [← hR])
    · replace hR := (if_neg cv8).symm.trans hR
      refine j_aload_n X (q := 0) dX0_beKicked_66 rfl ?_
      refine j_get X 0 6 hiX0 k_107 dX0_beKicked_67 rfl rfl (by decide) rfl ?_
      refine j_aload_n X (q := 0) dX0_beKicked_70 rfl ?_
      refine j_get X 0 10 hiX0 k_112 dX0_beKicked_71 rfl rfl (by decide) rfl ?_
      obtain ⟨gv9, hR⟩ := gd_some hR
      refine j_irem X dX0_beKicked_74 (by simpa using gv9) ?_
      refine j_if_ne X (tgt := 88) dX0_beKicked_75 (by decide) (fun cv10 => ?_) (fun cv10 => ?_)
      · replace hR := (if_neg cv10).symm.trans hR
        have hR := Option.some.inj hR
        exact j_vret X hr dX0_beKicked_88 rfl (by rw [← hR])
      · replace hR := (if_pos cv10).symm.trans hR
        refine j_aload_n X (q := 0) dX0_beKicked_78 rfl ?_
        refine j_dup X dX0_beKicked_79 rfl ?_
        refine j_get X 0 9 hiX0 k_111 dX0_beKicked_80 rfl rfl (by decide) rfl ?_
        refine j_iconst X (v := 1) dX0_beKicked_83 (by decide) ?_
        refine j_isub X dX0_beKicked_84 ?_
        obtain ⟨bv11, ebv11, hR⟩ := lt_some hR
        refine j_put X (ws2 := [cBal r_ r_P r_A bv11 se z]) 0 9 hiX0 tyX0_ok nmX0 k_111 dX0_beKicked_85 rfl rfl (by decide) (by decide) rfl rfl (Nat.le_of_ble_eq_true rfl) (by subst ebv11; rfl) ?_
        have hR := Option.some.inj hR
        exact j_vret X hr dX0_beKicked_88 rfl (by rw [← hR])
  refine j_sub (lv2 := [(0, .ref r_)]) [0] rfl ?_
  have hR := h
  unfold fX0_beKicked at hR
  refine j_aload_n X (q := 0) dX0_beKicked_0 rfl ?_
  refine j_get X 0 9 hiX0 k_111 dX0_beKicked_1 rfl rfl (by decide) rfl ?_
  refine j_iconst X (v := 3) dX0_beKicked_4 (by decide) ?_
  refine j_iadd X dX0_beKicked_5 ?_
  refine j_iconst X (v := 4) dX0_beKicked_6 (by decide) ?_
  refine j_idiv X dX0_beKicked_7 (by decide) ?_
  obtain ⟨x1v1, ex1v1, hR⟩ := lt_some hR
  refine j_eq (congrArg (fun z => Value.int z :: _) ex1v1) rfl ?_
  refine j_istore_n X (lv2 := [(1, .int x1v1), (0, .ref r_)]) dX0_beKicked_8 (by decide) rfl ?_
  refine j_aload_n X (q := 1) dX0_beKicked_9 rfl ?_
  refine j_get X 0 4 hiX0 k_104 dX0_beKicked_10 rfl rfl (by decide) rfl ?_
  refine j_if_ne X (tgt := 34) dX0_beKicked_13 (by decide) (fun cv2 => ?_) (fun cv2 => ?_)
  · replace hR := (if_neg cv2).symm.trans hR
    refine j_aload_n X (q := 1) dX0_beKicked_34 rfl ?_
    refine j_dup X dX0_beKicked_35 rfl ?_
    refine j_get X 0 1 hiX0 k_100 dX0_beKicked_36 rfl rfl (by decide) rfl ?_
    refine j_iload_n X (q := 0) dX0_beKicked_39 rfl ?_
    refine j_isub X dX0_beKicked_40 ?_
    obtain ⟨bv3, ebv3, hR⟩ := lt_some hR
    refine j_put X (ws2 := [cBal r_ r_P r_A bv3 se z]) 0 1 hiX0 tyX0_ok nmX0 k_100 dX0_beKicked_41 rfl rfl (by decide) (by decide) rfl rfl (Nat.le_of_ble_eq_true rfl) (by subst ebv3; rfl) ?_
    refine j_aload_n X (q := 1) dX0_beKicked_44 rfl ?_
    refine j_iconst X (v := 0) dX0_beKicked_45 (by decide) ?_
    obtain ⟨bv4, ebv4, hR⟩ := lt_some hR
    refine j_put X (ws2 := [cBal r_ r_P r_A bv4 se z]) 0 4 hiX0 tyX0_ok nmX0 k_104 dX0_beKicked_46 rfl rfl (by decide) (by decide) rfl rfl (Nat.le_of_ble_eq_true rfl) (by subst ebv4; rfl) ?_
    refine j_sub (lv2 := [(0, .ref r_)]) [1] rfl ?_
    exact L_49 _ hR
  · replace hR := (if_pos cv2).symm.trans hR
    refine j_aload_n X (q := 1) dX0_beKicked_16 rfl ?_
    refine j_dup X dX0_beKicked_17 rfl ?_
    refine j_get X 0 1 hiX0 k_100 dX0_beKicked_18 rfl rfl (by decide) rfl ?_
    refine j_iload_n X (q := 0) dX0_beKicked_21 rfl ?_
    refine j_iadd X dX0_beKicked_22 ?_
    obtain ⟨bv5, ebv5, hR⟩ := lt_some hR
    refine j_put X (ws2 := [cBal r_ r_P r_A bv5 se z]) 0 1 hiX0 tyX0_ok nmX0 k_100 dX0_beKicked_23 rfl rfl (by decide) (by decide) rfl rfl (Nat.le_of_ble_eq_true rfl) (by subst ebv5; rfl) ?_
    refine j_aload_n X (q := 1) dX0_beKicked_26 rfl ?_
    refine j_iconst X (v := 1) dX0_beKicked_27 (by decide) ?_
    obtain ⟨bv6, ebv6, hR⟩ := lt_some hR
    refine j_put X (ws2 := [cBal r_ r_P r_A bv6 se z]) 0 4 hiX0 tyX0_ok nmX0 k_104 dX0_beKicked_28 rfl rfl (by decide) (by decide) rfl rfl (Nat.le_of_ble_eq_true rfl) (by subst ebv6; rfl) ?_
    refine j_goto X (tgt := 49) dX0_beKicked_31 (by decide) ?_
    refine j_sub (lv2 := [(0, .ref r_)]) [1] rfl ?_
    exact L_49 _ hR

def rmX0_tick : Room := { frames := 3, cells := 0, slots := 0, locals := 58 }
theorem hdX0_tick : yX0_tick.cls ≠ "java/lang/invoke/MethodHandle" ∧ yX0_tick.cls ≠ "java/lang/invoke/VarHandle" ∧ (parseMethodDescriptor yX0_tick.desc).map (fun d => d.parameters.length) = some 0 := by decide +kernel
def fX0_tick_72 (z : Int32) : Int32 → (Nat → Int32) → Int64 → (Nat → Int64) → Int32 → (Nat → Int32) → (Nat → Int32) → (Nat → Int32) → Option (Int32 × (Nat → Int32) × Int64 × (Nat → Int64) × Int32 × (Nat → Int32) × (Nat → Int32) × (Nat → Int32)) := fun x2 b se f_A k_P f_Ps f_Pt f_Pw =>
    (fX0_settle 3 b se z f_A).bind fun ov13 =>
  lt' (upd b 8 ((b 8) + 1)) fun bv14 =>
  gd (zb x2) (some (x2, bv14, ov13.1, ov13.2, k_P, f_Ps, f_Pt, f_Pw))
def fX0_tick (b : Nat → Int32) (se : Int64) (z : Int32) (f_A : Nat → Int64) (k_P : Int32) (f_Ps : Nat → Int32) (f_Pt : Nat → Int32) (f_Pw : Nat → Int32) : Option (Int32 × (Nat → Int32) × Int64 × (Nat → Int64) × Int32 × (Nat → Int32) × (Nat → Int32) × (Nat → Int32)) :=
  (fX0_bePushed b se z k_P f_Ps f_Pt f_Pw).bind fun ov1 =>
  (fX0_settle 0 ov1.1 se z f_A).bind fun ov2 =>
  lt' (upd ov1.1 1 ((ov1.1 1) - (((ov1.1 0) * (ov1.1 2)) / 32))) fun bv3 =>
  (fX0_settle 1 bv3 ov2.1 z ov2.2).bind fun ov4 =>
  (fX0_beDragged bv3 ov4.1 z).bind fun ov5 =>
  (fX0_settle 2 ov5 ov4.1 z ov4.2).bind fun ov6 =>
  lt' (ov5 0) fun x1v7 =>
  (fX0_swing ov5 ov6.1 z).bind fun ov8 =>
  (fX0_settle 1 ov8 ov6.1 z ov6.2).bind fun ov9 =>
  (fX0_isLetGo x1v7 ov8 ov9.1 z).bind fun ov10 =>
  if ov10 = 0 then (fX0_tick_72 z ov10 ov8 ov9.1 ov9.2 ov1.2.1 ov1.2.2.1 ov1.2.2.2.1 ov1.2.2.2.2) else ((fX0_beKicked ov8 ov9.1 z).bind fun ov12 =>
  fX0_tick_72 z ov10 ov12 ov9.1 ov9.2 ov1.2.1 ov1.2.2.1 ov1.2.2.2.1 ov1.2.2.2.2)
set_option maxHeartbeats 8000000 in
set_option maxRecDepth 100000 in
theorem mX0_tick (l : Launch) (D : va_G) (cI cJ cB cT : ClassId) (tt : Nat → Nat) (r_ r_P r_A r_Pt r_Pw r_Ps : Nat)  {b : Nat → Int32} {se : Int64} {z : Int32} {f_A : Nat → Int64} {k_P : Int32} {f_Ps : Nat → Int32} {f_Pt : Nat → Int32} {f_Pw : Nat → Int32} {out : Int32 × (Nat → Int32) × Int64 × (Nat → Int64) × Int32 × (Nat → Int32) × (Nat → Int32) × (Nat → Int32)} (h : fX0_tick b se z f_A k_P f_Ps f_Pt f_Pw = some out) :
    jM l yX0_tick (.code yX0_tick cX0_tick 3 (some .boolean)) rmX0_tick D (wTy cI cJ cB cT) tt [.ref r_] [cBal r_ r_P r_A b se z, cJar cJ r_A 4 f_A, cPus r_P r_Pt r_Pw r_Ps k_P, cIar cI r_Ps 8 f_Ps, cIar cI r_Pt 8 f_Pt, cIar cI r_Pw 8 f_Pw] (some (.int out.1)) [cBal r_ r_P r_A out.2.1 out.2.2.1 z, cJar cJ r_A 4 out.2.2.2.1, cPus r_P r_Pt r_Pw r_Ps out.2.2.2.2.1, cIar cI r_Ps 8 out.2.2.2.2.2.1, cIar cI r_Pt 8 out.2.2.2.2.2.2.1, cIar cI r_Pw 8 out.2.2.2.2.2.2.2] := by
  refine jM.of (by decide) (Nat.le_of_ble_eq_true rfl) ?_
  intro p e s m below meth c A X hr
  have L_72 : ∀ (x2 : Int32) (b : Nat → Int32) (se : Int64) (f_A : Nat → Int64) (k_P : Int32) (f_Ps : Nat → Int32) (f_Pt : Nat → Int32) (f_Pw : Nat → Int32), fX0_tick_72 z  x2 b se f_A k_P f_Ps f_Pt f_Pw = some out → jW p l e rmX0_tick s m ([.ref r_] : List Value).toArray below meth c D A 3 (MQ below (jQ D (some (.int out.1)) [cBal r_ r_P r_A out.2.1 out.2.2.1 z, cJar cJ r_A 4 out.2.2.2.1, cPus r_P r_Pt r_Pw r_Ps out.2.2.2.2.1, cIar cI r_Ps 8 out.2.2.2.2.2.1, cIar cI r_Pt 8 out.2.2.2.2.2.2.1, cIar cI r_Pw 8 out.2.2.2.2.2.2.2] A) ([.ref r_] : List Value).toArray s 0 0 A) 0 0 72 [(0, .ref r_), (2, .int x2)] [] [cBal r_ r_P r_A b se z, cJar cJ r_A 4 f_A, cPus r_P r_Pt r_Pw r_Ps k_P, cIar cI r_Ps 8 f_Ps, cIar cI r_Pt 8 f_Pt, cIar cI r_Pw 8 f_Pw] := by
    intro  x2 b se f_A k_P f_Ps f_Pt f_Pw hR
    unfold fX0_tick_72 at hR
    refine j_aload_n X (q := 0) dX0_tick_72 rfl ?_
    refine j_iconst X (v := 3) dX0_tick_73 (by decide) ?_
    obtain ⟨ov13, hov13, hR⟩ := bd_some hR
    refine j_callV X (As := [.int 3]) (rest := []) (ws2 := [cBal r_ r_P r_A b ov13.1 z, cJar cJ r_A 4 ov13.2, cPus r_P r_Pt r_Pw r_Ps k_P, cIar cI r_Ps 8 f_Ps, cIar cI r_Pt 8 f_Pt, cIar cI r_Pw 8 f_Pw]) (q0 := 0) (ci := 0) (mX0_settle l D cI cJ cB cT tt r_ r_P r_A hov13) [0, 1] [.inr 0, .inr 1, .inl 2, .inl 3, .inl 4, .inl 5] k_315 k_312 k_314 k_0 rfl rfl k_40 hdX0_settle (by decide) (Nat.le_of_ble_eq_true rfl) dX0_tick_74 (by decide) rfl rfl (by decide) rfl rfl ?_
    refine j_aload_n X (q := 0) dX0_tick_77 rfl ?_
    refine j_dup X dX0_tick_78 rfl ?_
    refine j_get X 0 5 hiX0 k_105 dX0_tick_79 rfl rfl (by decide) rfl ?_
    refine j_iconst X (v := 1) dX0_tick_82 (by decide) ?_
    refine j_iadd X dX0_tick_83 ?_
    obtain ⟨bv14, ebv14, hR⟩ := lt_some hR
    refine j_put X (ws2 := [cBal r_ r_P r_A bv14 ov13.1 z, cJar cJ r_A 4 ov13.2, cPus r_P r_Pt r_Pw r_Ps k_P, cIar cI r_Ps 8 f_Ps, cIar cI r_Pt 8 f_Pt, cIar cI r_Pw 8 f_Pw]) 0 5 hiX0 tyX0_ok nmX0 k_105 dX0_tick_84 rfl rfl (by decide) (by decide) rfl rfl (Nat.le_of_ble_eq_true rfl) (by subst ebv14; rfl) ?_
    refine j_iload_n X (q := 1) dX0_tick_87 rfl ?_
    obtain ⟨gv15, hR⟩ := gd_some hR
    have hR := Option.some.inj hR
    exact j_zret X hr (zb_nar gv15) dX0_tick_88 (by rw [← hR]) (by rw [← hR])
  refine j_sub (lv2 := [(0, .ref r_)]) [0] rfl ?_
  have hR := h
  unfold fX0_tick at hR
  refine j_aload_n X (q := 0) dX0_tick_0 rfl ?_
  obtain ⟨ov1, hov1, hR⟩ := bd_some hR
  refine j_callV X (As := []) (rest := []) (ws2 := [cBal r_ r_P r_A ov1.1 se z, cJar cJ r_A 4 f_A, cPus r_P r_Pt r_Pw r_Ps ov1.2.1, cIar cI r_Ps 8 ov1.2.2.1, cIar cI r_Pt 8 ov1.2.2.2.1, cIar cI r_Pw 8 ov1.2.2.2.2]) (q0 := 0) (ci := 0) (mX0_bePushed l D cI cJ cB cT tt r_ r_P r_A r_Pt r_Pw r_Ps hov1) [0, 2, 3, 4, 5] [.inr 0, .inl 1, .inr 1, .inr 2, .inr 3, .inr 4] k_356 k_353 k_355 k_1 rfl rfl k_40 hdX0_bePushed (by decide) (Nat.le_of_ble_eq_true rfl) dX0_tick_1 (by decide) rfl rfl (by decide) rfl rfl ?_
  refine j_aload_n X (q := 0) dX0_tick_4 rfl ?_
  refine j_iconst X (v := 0) dX0_tick_5 (by decide) ?_
  obtain ⟨ov2, hov2, hR⟩ := bd_some hR
  refine j_callV X (As := [.int 0]) (rest := []) (ws2 := [cBal r_ r_P r_A ov1.1 ov2.1 z, cJar cJ r_A 4 ov2.2, cPus r_P r_Pt r_Pw r_Ps ov1.2.1, cIar cI r_Ps 8 ov1.2.2.1, cIar cI r_Pt 8 ov1.2.2.2.1, cIar cI r_Pw 8 ov1.2.2.2.2]) (q0 := 0) (ci := 0) (mX0_settle l D cI cJ cB cT tt r_ r_P r_A hov2) [0, 1] [.inr 0, .inr 1, .inl 2, .inl 3, .inl 4, .inl 5] k_315 k_312 k_314 k_0 rfl rfl k_40 hdX0_settle (by decide) (Nat.le_of_ble_eq_true rfl) dX0_tick_6 (by decide) rfl rfl (by decide) rfl rfl ?_
  refine j_aload_n X (q := 0) dX0_tick_9 rfl ?_
  refine j_dup X dX0_tick_10 rfl ?_
  refine j_get X 0 1 hiX0 k_100 dX0_tick_11 rfl rfl (by decide) rfl ?_
  refine j_aload_n X (q := 0) dX0_tick_14 rfl ?_
  refine j_get X 0 0 hiX0 k_98 dX0_tick_15 rfl rfl (by decide) rfl ?_
  refine j_aload_n X (q := 0) dX0_tick_18 rfl ?_
  refine j_get X 0 8 hiX0 k_110 dX0_tick_19 rfl rfl (by decide) rfl ?_
  refine j_imul X dX0_tick_22 ?_
  refine j_bipush X (v := 32) dX0_tick_23 (by decide) ?_
  refine j_idiv X dX0_tick_25 (by decide) ?_
  refine j_isub X dX0_tick_26 ?_
  obtain ⟨bv3, ebv3, hR⟩ := lt_some hR
  refine j_put X (ws2 := [cBal r_ r_P r_A bv3 ov2.1 z, cJar cJ r_A 4 ov2.2, cPus r_P r_Pt r_Pw r_Ps ov1.2.1, cIar cI r_Ps 8 ov1.2.2.1, cIar cI r_Pt 8 ov1.2.2.2.1, cIar cI r_Pw 8 ov1.2.2.2.2]) 0 1 hiX0 tyX0_ok nmX0 k_100 dX0_tick_27 rfl rfl (by decide) (by decide) rfl rfl (Nat.le_of_ble_eq_true rfl) (by subst ebv3; rfl) ?_
  refine j_aload_n X (q := 0) dX0_tick_30 rfl ?_
  refine j_iconst X (v := 1) dX0_tick_31 (by decide) ?_
  obtain ⟨ov4, hov4, hR⟩ := bd_some hR
  refine j_callV X (As := [.int 1]) (rest := []) (ws2 := [cBal r_ r_P r_A bv3 ov4.1 z, cJar cJ r_A 4 ov4.2, cPus r_P r_Pt r_Pw r_Ps ov1.2.1, cIar cI r_Ps 8 ov1.2.2.1, cIar cI r_Pt 8 ov1.2.2.2.1, cIar cI r_Pw 8 ov1.2.2.2.2]) (q0 := 0) (ci := 0) (mX0_settle l D cI cJ cB cT tt r_ r_P r_A hov4) [0, 1] [.inr 0, .inr 1, .inl 2, .inl 3, .inl 4, .inl 5] k_315 k_312 k_314 k_0 rfl rfl k_40 hdX0_settle (by decide) (Nat.le_of_ble_eq_true rfl) dX0_tick_32 (by decide) rfl rfl (by decide) rfl rfl ?_
  refine j_aload_n X (q := 0) dX0_tick_35 rfl ?_
  obtain ⟨ov5, hov5, hR⟩ := bd_some hR
  refine j_callV X (As := []) (rest := []) (ws2 := [cBal r_ r_P r_A ov5 ov4.1 z, cJar cJ r_A 4 ov4.2, cPus r_P r_Pt r_Pw r_Ps ov1.2.1, cIar cI r_Ps 8 ov1.2.2.1, cIar cI r_Pt 8 ov1.2.2.2.1, cIar cI r_Pw 8 ov1.2.2.2.2]) (q0 := 0) (ci := 0) (mX0_beDragged l D cI cJ cB cT tt r_ r_P r_A hov5) [0] [.inr 0, .inl 1, .inl 2, .inl 3, .inl 4, .inl 5] k_374 k_371 k_373 k_3 rfl rfl k_40 hdX0_beDragged (by decide) (Nat.le_of_ble_eq_true rfl) dX0_tick_36 (by decide) rfl rfl (by decide) rfl rfl ?_
  refine j_aload_n X (q := 0) dX0_tick_39 rfl ?_
  refine j_iconst X (v := 2) dX0_tick_40 (by decide) ?_
  obtain ⟨ov6, hov6, hR⟩ := bd_some hR
  refine j_callV X (As := [.int 2]) (rest := []) (ws2 := [cBal r_ r_P r_A ov5 ov6.1 z, cJar cJ r_A 4 ov6.2, cPus r_P r_Pt r_Pw r_Ps ov1.2.1, cIar cI r_Ps 8 ov1.2.2.1, cIar cI r_Pt 8 ov1.2.2.2.1, cIar cI r_Pw 8 ov1.2.2.2.2]) (q0 := 0) (ci := 0) (mX0_settle l D cI cJ cB cT tt r_ r_P r_A hov6) [0, 1] [.inr 0, .inr 1, .inl 2, .inl 3, .inl 4, .inl 5] k_315 k_312 k_314 k_0 rfl rfl k_40 hdX0_settle (by decide) (Nat.le_of_ble_eq_true rfl) dX0_tick_41 (by decide) rfl rfl (by decide) rfl rfl ?_
  refine j_aload_n X (q := 0) dX0_tick_44 rfl ?_
  refine j_get X 0 0 hiX0 k_98 dX0_tick_45 rfl rfl (by decide) rfl ?_
  obtain ⟨x1v7, ex1v7, hR⟩ := lt_some hR
  refine j_eq (congrArg (fun z => Value.int z :: _) ex1v7) rfl ?_
  refine j_istore_n X (lv2 := [(1, .int x1v7), (0, .ref r_)]) dX0_tick_48 (by decide) rfl ?_
  refine j_aload_n X (q := 1) dX0_tick_49 rfl ?_
  obtain ⟨ov8, hov8, hR⟩ := bd_some hR
  refine j_callV X (As := []) (rest := []) (ws2 := [cBal r_ r_P r_A ov8 ov6.1 z, cJar cJ r_A 4 ov6.2, cPus r_P r_Pt r_Pw r_Ps ov1.2.1, cIar cI r_Ps 8 ov1.2.2.1, cIar cI r_Pt 8 ov1.2.2.2.1, cIar cI r_Pw 8 ov1.2.2.2.2]) (q0 := 0) (ci := 0) (mX0_swing l D cI cJ cB cT tt r_ r_P r_A hov8) [0] [.inr 0, .inl 1, .inl 2, .inl 3, .inl 4, .inl 5] k_378 k_375 k_377 k_4 rfl rfl k_40 hdX0_swing (by decide) (Nat.le_of_ble_eq_true rfl) dX0_tick_50 (by decide) rfl rfl (by decide) rfl rfl ?_
  refine j_aload_n X (q := 1) dX0_tick_53 rfl ?_
  refine j_iconst X (v := 1) dX0_tick_54 (by decide) ?_
  obtain ⟨ov9, hov9, hR⟩ := bd_some hR
  refine j_callV X (As := [.int 1]) (rest := []) (ws2 := [cBal r_ r_P r_A ov8 ov9.1 z, cJar cJ r_A 4 ov9.2, cPus r_P r_Pt r_Pw r_Ps ov1.2.1, cIar cI r_Ps 8 ov1.2.2.1, cIar cI r_Pt 8 ov1.2.2.2.1, cIar cI r_Pw 8 ov1.2.2.2.2]) (q0 := 0) (ci := 0) (mX0_settle l D cI cJ cB cT tt r_ r_P r_A hov9) [0, 1] [.inr 0, .inr 1, .inl 2, .inl 3, .inl 4, .inl 5] k_315 k_312 k_314 k_0 rfl rfl k_40 hdX0_settle (by decide) (Nat.le_of_ble_eq_true rfl) dX0_tick_55 (by decide) rfl rfl (by decide) rfl rfl ?_
  refine j_aload_n X (q := 1) dX0_tick_58 rfl ?_
  refine j_iload_n X (q := 0) dX0_tick_59 rfl ?_
  obtain ⟨ov10, hov10, hR⟩ := bd_some hR
  refine j_callV X (As := [.int x1v7]) (rest := []) (ws2 := [cBal r_ r_P r_A ov8 ov9.1 z, cJar cJ r_A 4 ov9.2, cPus r_P r_Pt r_Pw r_Ps ov1.2.1, cIar cI r_Ps 8 ov1.2.2.1, cIar cI r_Pt 8 ov1.2.2.2.1, cIar cI r_Pw 8 ov1.2.2.2.2]) (q0 := 0) (ci := 0) (mX0_isLetGo l D cI cJ cB cT tt r_ r_P r_A hov10) [0] [.inr 0, .inl 1, .inl 2, .inl 3, .inl 4, .inl 5] k_382 k_379 k_381 k_5 rfl rfl k_40 hdX0_isLetGo (by decide) (Nat.le_of_ble_eq_true rfl) dX0_tick_60 (by decide) rfl rfl (by decide) rfl rfl ?_
  refine j_istore_n X (lv2 := [(2, .int ov10), (1, .int x1v7), (0, .ref r_)]) dX0_tick_63 (by decide) rfl ?_
  refine j_iload_n X (q := 0) dX0_tick_64 rfl ?_
  refine j_if_eq X (tgt := 72) dX0_tick_65 (by decide) (fun cv11 => ?_) (fun cv11 => ?_)
  · replace hR := (if_pos cv11).symm.trans hR
    refine j_sub (lv2 := [(0, .ref r_), (2, .int ov10)]) [2, 0] rfl ?_
    exact L_72 _ _ _ _ _ _ _ _ hR
  · replace hR := (if_neg cv11).symm.trans hR
    refine j_aload_n X (q := 2) dX0_tick_68 rfl ?_
    obtain ⟨ov12, hov12, hR⟩ := bd_some hR
    refine j_callV X (As := []) (rest := []) (ws2 := [cBal r_ r_P r_A ov12 ov9.1 z, cJar cJ r_A 4 ov9.2, cPus r_P r_Pt r_Pw r_Ps ov1.2.1, cIar cI r_Ps 8 ov1.2.2.1, cIar cI r_Pt 8 ov1.2.2.2.1, cIar cI r_Pw 8 ov1.2.2.2.2]) (q0 := 0) (ci := 0) (mX0_beKicked l D cI cJ cB cT tt r_ r_P r_A hov12) [0] [.inr 0, .inl 1, .inl 2, .inl 3, .inl 4, .inl 5] k_386 k_383 k_385 k_6 rfl rfl k_40 hdX0_beKicked (by decide) (Nat.le_of_ble_eq_true rfl) dX0_tick_69 (by decide) rfl rfl (by decide) rfl rfl ?_
    refine j_sub (lv2 := [(0, .ref r_), (2, .int ov10)]) [2, 0] rfl ?_
    exact L_72 _ _ _ _ _ _ _ _ hR

def rmX2_add : Room := { frames := 0, cells := 0, slots := 0, locals := 0 }
theorem hdX2_add : yX2_add.cls ≠ "java/lang/invoke/MethodHandle" ∧ yX2_add.cls ≠ "java/lang/invoke/VarHandle" ∧ (parseMethodDescriptor yX2_add.desc).map (fun d => d.parameters.length) = some 3 := by decide +kernel
def fX2_add_95 (i1 : Int32) (i2 : Int32) (i3 : Int32) : Int32 → Int32 → (Nat → Int32) → (Nat → Int32) → (Nat → Int32) → Option (Int32 × (Nat → Int32) × (Nat → Int32) × (Nat → Int32)) := fun x4 k f_s f_t f_w =>
    gd (inb x4 8) (lt' (upd f_t x4.toNatClampNeg i1) fun f_tv17 =>
  gd (inb x4 8) (lt' (upd f_w x4.toNatClampNeg i2) fun f_wv19 =>
  gd (inb x4 8) (lt' (upd f_s x4.toNatClampNeg i3) fun f_sv21 =>
  lt' (k + 1) fun kv22 =>
  some (kv22, f_sv21, f_tv17, f_wv19))))
def fX2_add_23 (i1 : Int32) (i2 : Int32) (i3 : Int32) : Nat → Int32 → Int32 → (Nat → Int32) → (Nat → Int32) → (Nat → Int32) → Option (Int32 × (Nat → Int32) × (Nat → Int32) × (Nat → Int32))
  | 0, _, _, _, _, _ => none
  | fu + 1, x4, k, f_s, f_t, f_w =>
    if x4 ≤ 0 then (fX2_add_95 i1 i2 i3 x4 k f_s f_t f_w) else (gd (inb (x4 - 1) 8) (if (f_t (x4 - 1).toNatClampNeg) ≤ i1 then (fX2_add_95 i1 i2 i3 x4 k f_s f_t f_w) else (gd (inb (x4 - 1) 8) (gd (inb x4 8) (lt' (upd f_t x4.toNatClampNeg (f_t (x4 - 1).toNatClampNeg)) fun f_tv8 =>
  gd (inb (x4 - 1) 8) (gd (inb x4 8) (lt' (upd f_w x4.toNatClampNeg (f_w (x4 - 1).toNatClampNeg)) fun f_wv11 =>
  gd (inb (x4 - 1) 8) (gd (inb x4 8) (lt' (upd f_s x4.toNatClampNeg (f_s (x4 - 1).toNatClampNeg)) fun f_sv14 =>
  lt' (x4 + (-1)) fun x4v15 =>
  fX2_add_23 i1 i2 i3 fu x4v15 k f_sv14 f_tv8 f_wv11)))))))))
def fX2_add (i1 : Int32) (i2 : Int32) (i3 : Int32) (k : Int32) (f_s : Nat → Int32) (f_t : Nat → Int32) (f_w : Nat → Int32) : Option (Int32 × (Nat → Int32) × (Nat → Int32) × (Nat → Int32)) :=
  if k < 0 then (some (k, f_s, f_t, f_w)) else (if k < 8 then (fX2_add_23 i1 i2 i3 500 k k f_s f_t f_w) else (some (k, f_s, f_t, f_w)))
set_option maxHeartbeats 8000000 in
set_option maxRecDepth 100000 in
theorem mX2_add (l : Launch) (D : va_G) (cI cJ cB cT : ClassId) (tt : Nat → Nat) (r_ r_t r_w r_s : Nat) {i1 : Int32} {i2 : Int32} {i3 : Int32} {k : Int32} {f_s : Nat → Int32} {f_t : Nat → Int32} {f_w : Nat → Int32} {out : Int32 × (Nat → Int32) × (Nat → Int32) × (Nat → Int32)} (h : fX2_add i1 i2 i3 k f_s f_t f_w = some out) :
    jM l yX2_add (.code yX2_add cX2_add 5 none) rmX2_add D (wTy cI cJ cB cT) tt [.ref r_, .int i1, .int i2, .int i3] [cPus r_ r_t r_w r_s k, cIar cI r_s 8 f_s, cIar cI r_t 8 f_t, cIar cI r_w 8 f_w] (none) [cPus r_ r_t r_w r_s out.1, cIar cI r_s 8 out.2.1, cIar cI r_t 8 out.2.2.1, cIar cI r_w 8 out.2.2.2] := by
  refine jM.of (by decide) (Nat.le_of_ble_eq_true rfl) ?_
  intro p e s m below meth c A X hr
  have L_95 : ∀ (x4 : Int32) (k : Int32) (f_s : Nat → Int32) (f_t : Nat → Int32) (f_w : Nat → Int32), fX2_add_95 i1 i2 i3  x4 k f_s f_t f_w = some out → jW p l e rmX2_add s m ([.ref r_, .int i1, .int i2, .int i3] : List Value).toArray below meth c D A 5 (MQ below (jQ D (none) [cPus r_ r_t r_w r_s out.1, cIar cI r_s 8 out.2.1, cIar cI r_t 8 out.2.2.1, cIar cI r_w 8 out.2.2.2] A) ([.ref r_, .int i1, .int i2, .int i3] : List Value).toArray s 0 0 A) 0 0 95 [(0, .ref r_), (1, .int i1), (2, .int i2), (3, .int i3), (4, .int x4)] [] [cPus r_ r_t r_w r_s k, cIar cI r_s 8 f_s, cIar cI r_t 8 f_t, cIar cI r_w 8 f_w] := by
    intro  x4 k f_s f_t f_w hR
    unfold fX2_add_95 at hR
    refine j_aload_n X (q := 0) dX2_add_95 rfl ?_
    refine j_get X 0 0 hiX2 k_76 dX2_add_96 rfl rfl (by decide) rfl ?_
    refine j_iload X (q := 4) dX2_add_99 rfl ?_
    refine j_iload_n X (q := 1) dX2_add_101 rfl ?_
    obtain ⟨gv16, hR⟩ := gd_some hR
    obtain ⟨f_tv17, ef_tv17, hR⟩ := lt_some hR
    refine j_iast X (ws2 := [cPus r_ r_t r_w r_s k, cIar cI r_s 8 f_s, cIar cI r_t 8 f_tv17, cIar cI r_w 8 f_w]) 2 0 rfl dX2_add_102 rfl rfl gv16 ef_tv17 rfl ?_
    refine j_aload_n X (q := 0) dX2_add_103 rfl ?_
    refine j_get X 0 1 hiX2 k_79 dX2_add_104 rfl rfl (by decide) rfl ?_
    refine j_iload X (q := 4) dX2_add_107 rfl ?_
    refine j_iload_n X (q := 2) dX2_add_109 rfl ?_
    obtain ⟨gv18, hR⟩ := gd_some hR
    obtain ⟨f_wv19, ef_wv19, hR⟩ := lt_some hR
    refine j_iast X (ws2 := [cPus r_ r_t r_w r_s k, cIar cI r_s 8 f_s, cIar cI r_t 8 f_tv17, cIar cI r_w 8 f_wv19]) 3 0 rfl dX2_add_110 rfl rfl gv18 ef_wv19 rfl ?_
    refine j_aload_n X (q := 0) dX2_add_111 rfl ?_
    refine j_get X 0 2 hiX2 k_82 dX2_add_112 rfl rfl (by decide) rfl ?_
    refine j_iload X (q := 4) dX2_add_115 rfl ?_
    refine j_iload_n X (q := 3) dX2_add_117 rfl ?_
    obtain ⟨gv20, hR⟩ := gd_some hR
    obtain ⟨f_sv21, ef_sv21, hR⟩ := lt_some hR
    refine j_iast X (ws2 := [cPus r_ r_t r_w r_s k, cIar cI r_s 8 f_sv21, cIar cI r_t 8 f_tv17, cIar cI r_w 8 f_wv19]) 1 0 rfl dX2_add_118 rfl rfl gv20 ef_sv21 rfl ?_
    refine j_aload_n X (q := 0) dX2_add_119 rfl ?_
    refine j_dup X dX2_add_120 rfl ?_
    refine j_get X 0 3 hiX2 k_85 dX2_add_121 rfl rfl (by decide) rfl ?_
    refine j_iconst X (v := 1) dX2_add_124 (by decide) ?_
    refine j_iadd X dX2_add_125 ?_
    obtain ⟨kv22, ekv22, hR⟩ := lt_some hR
    refine j_put X (ws2 := [cPus r_ r_t r_w r_s kv22, cIar cI r_s 8 f_sv21, cIar cI r_t 8 f_tv17, cIar cI r_w 8 f_wv19]) 0 3 hiX2 tyX2_ok nmX2 k_85 dX2_add_126 rfl rfl (by decide) (by decide) rfl rfl (Nat.le_of_ble_eq_true rfl) (by subst ekv22; rfl) ?_
    have hR := Option.some.inj hR
    exact j_vret X hr dX2_add_129 rfl (by rw [← hR])
  have L_23 : ∀ (fuel : Nat) (x4 : Int32) (k : Int32) (f_s : Nat → Int32) (f_t : Nat → Int32) (f_w : Nat → Int32), fX2_add_23 i1 i2 i3  fuel x4 k f_s f_t f_w = some out → jW p l e rmX2_add s m ([.ref r_, .int i1, .int i2, .int i3] : List Value).toArray below meth c D A 5 (MQ below (jQ D (none) [cPus r_ r_t r_w r_s out.1, cIar cI r_s 8 out.2.1, cIar cI r_t 8 out.2.2.1, cIar cI r_w 8 out.2.2.2] A) ([.ref r_, .int i1, .int i2, .int i3] : List Value).toArray s 0 0 A) 0 0 23 [(0, .ref r_), (1, .int i1), (2, .int i2), (3, .int i3), (4, .int x4)] [] [cPus r_ r_t r_w r_s k, cIar cI r_s 8 f_s, cIar cI r_t 8 f_t, cIar cI r_w 8 f_w] := by
    intro  fuel
    induction fuel with
    | zero =>
      intro x4 k f_s f_t f_w hR
      rw [fX2_add_23] at hR
      cases hR
    | succ fu ih =>
      intro x4 k f_s f_t f_w hR
      rw [fX2_add_23] at hR
      refine j_iload X (q := 4) dX2_add_23 rfl ?_
      refine j_if_le X (tgt := 95) dX2_add_25 (by decide) (fun cv3 => ?_) (fun cv3 => ?_)
      · replace hR := (if_pos cv3).symm.trans hR
        exact L_95 _ _ _ _ _ hR
      · replace hR := (if_neg cv3).symm.trans hR
        refine j_aload_n X (q := 0) dX2_add_28 rfl ?_
        refine j_get X 0 0 hiX2 k_76 dX2_add_29 rfl rfl (by decide) rfl ?_
        refine j_iload X (q := 4) dX2_add_32 rfl ?_
        refine j_iconst X (v := 1) dX2_add_34 (by decide) ?_
        refine j_isub X dX2_add_35 ?_
        obtain ⟨gv4, hR⟩ := gd_some hR
        refine j_iald X 2 0 rfl dX2_add_36 rfl rfl gv4 ?_
        refine j_iload_n X (q := 1) dX2_add_37 rfl ?_
        refine j_icmp_le X (tgt := 95) dX2_add_38 (by decide) (fun cv5 => ?_) (fun cv5 => ?_)
        · replace hR := (if_pos cv5).symm.trans hR
          exact L_95 _ _ _ _ _ hR
        · replace hR := (if_neg cv5).symm.trans hR
          refine j_aload_n X (q := 0) dX2_add_41 rfl ?_
          refine j_get X 0 0 hiX2 k_76 dX2_add_42 rfl rfl (by decide) rfl ?_
          refine j_iload X (q := 4) dX2_add_45 rfl ?_
          refine j_aload_n X (q := 0) dX2_add_47 rfl ?_
          refine j_get X 0 0 hiX2 k_76 dX2_add_48 rfl rfl (by decide) rfl ?_
          refine j_iload X (q := 4) dX2_add_51 rfl ?_
          refine j_iconst X (v := 1) dX2_add_53 (by decide) ?_
          refine j_isub X dX2_add_54 ?_
          obtain ⟨gv6, hR⟩ := gd_some hR
          refine j_iald X 2 0 rfl dX2_add_55 rfl rfl gv6 ?_
          obtain ⟨gv7, hR⟩ := gd_some hR
          obtain ⟨f_tv8, ef_tv8, hR⟩ := lt_some hR
          refine j_iast X (ws2 := [cPus r_ r_t r_w r_s k, cIar cI r_s 8 f_s, cIar cI r_t 8 f_tv8, cIar cI r_w 8 f_w]) 2 0 rfl dX2_add_56 rfl rfl gv7 ef_tv8 rfl ?_
          refine j_aload_n X (q := 0) dX2_add_57 rfl ?_
          refine j_get X 0 1 hiX2 k_79 dX2_add_58 rfl rfl (by decide) rfl ?_
          refine j_iload X (q := 4) dX2_add_61 rfl ?_
          refine j_aload_n X (q := 0) dX2_add_63 rfl ?_
          refine j_get X 0 1 hiX2 k_79 dX2_add_64 rfl rfl (by decide) rfl ?_
          refine j_iload X (q := 4) dX2_add_67 rfl ?_
          refine j_iconst X (v := 1) dX2_add_69 (by decide) ?_
          refine j_isub X dX2_add_70 ?_
          obtain ⟨gv9, hR⟩ := gd_some hR
          refine j_iald X 3 0 rfl dX2_add_71 rfl rfl gv9 ?_
          obtain ⟨gv10, hR⟩ := gd_some hR
          obtain ⟨f_wv11, ef_wv11, hR⟩ := lt_some hR
          refine j_iast X (ws2 := [cPus r_ r_t r_w r_s k, cIar cI r_s 8 f_s, cIar cI r_t 8 f_tv8, cIar cI r_w 8 f_wv11]) 3 0 rfl dX2_add_72 rfl rfl gv10 ef_wv11 rfl ?_
          refine j_aload_n X (q := 0) dX2_add_73 rfl ?_
          refine j_get X 0 2 hiX2 k_82 dX2_add_74 rfl rfl (by decide) rfl ?_
          refine j_iload X (q := 4) dX2_add_77 rfl ?_
          refine j_aload_n X (q := 0) dX2_add_79 rfl ?_
          refine j_get X 0 2 hiX2 k_82 dX2_add_80 rfl rfl (by decide) rfl ?_
          refine j_iload X (q := 4) dX2_add_83 rfl ?_
          refine j_iconst X (v := 1) dX2_add_85 (by decide) ?_
          refine j_isub X dX2_add_86 ?_
          obtain ⟨gv12, hR⟩ := gd_some hR
          refine j_iald X 1 0 rfl dX2_add_87 rfl rfl gv12 ?_
          obtain ⟨gv13, hR⟩ := gd_some hR
          obtain ⟨f_sv14, ef_sv14, hR⟩ := lt_some hR
          refine j_iast X (ws2 := [cPus r_ r_t r_w r_s k, cIar cI r_s 8 f_sv14, cIar cI r_t 8 f_tv8, cIar cI r_w 8 f_wv11]) 1 0 rfl dX2_add_88 rfl rfl gv13 ef_sv14 rfl ?_
          obtain ⟨x4v15, ex4v15, hR⟩ := lt_some hR
          refine j_iinc X (k := 4) (v := x4v15) (lv2 := [(4, .int x4v15), (0, .ref r_), (1, .int i1), (2, .int i2), (3, .int i3)]) dX2_add_89 rfl (by rw [← ex4v15]; rfl) (by decide) rfl ?_
          refine j_goto X (tgt := 23) dX2_add_92 (by decide) ?_
          refine j_sub (lv2 := [(0, .ref r_), (1, .int i1), (2, .int i2), (3, .int i3), (4, .int x4v15)]) [1, 2, 3, 4, 0] rfl ?_
          exact ih _ _ _ _ _ hR
  refine j_sub (lv2 := [(0, .ref r_), (1, .int i1), (2, .int i2), (3, .int i3)]) [0, 1, 2, 3] rfl ?_
  have hR := h
  unfold fX2_add at hR
  refine j_aload_n X (q := 0) dX2_add_0 rfl ?_
  refine j_get X 0 3 hiX2 k_85 dX2_add_1 rfl rfl (by decide) rfl ?_
  refine j_if_lt X (tgt := 16) dX2_add_4 (by decide) (fun cv1 => ?_) (fun cv1 => ?_)
  · replace hR := (if_pos cv1).symm.trans hR
    have hR := Option.some.inj hR
    exact j_vret X hr dX2_add_16 rfl (by rw [← hR])
  · replace hR := (if_neg cv1).symm.trans hR
    refine j_aload_n X (q := 0) dX2_add_7 rfl ?_
    refine j_get X 0 3 hiX2 k_85 dX2_add_8 rfl rfl (by decide) rfl ?_
    refine j_bipush X (v := 8) dX2_add_11 (by decide) ?_
    refine j_icmp_lt X (tgt := 17) dX2_add_13 (by decide) (fun cv2 => ?_) (fun cv2 => ?_)
    · replace hR := (if_pos cv2).symm.trans hR
      refine j_aload_n X (q := 0) dX2_add_17 rfl ?_
      refine j_get X 0 3 hiX2 k_85 dX2_add_18 rfl rfl (by decide) rfl ?_
      refine j_istore X (lv2 := [(4, .int k), (0, .ref r_), (1, .int i1), (2, .int i2), (3, .int i3)]) dX2_add_21 (by decide) rfl ?_
      refine j_sub (lv2 := [(0, .ref r_), (1, .int i1), (2, .int i2), (3, .int i3), (4, .int k)]) [1, 2, 3, 4, 0] rfl ?_
      exact L_23 _ _ _ _ _ _ hR
    · replace hR := (if_neg cv2).symm.trans hR
      have hR := Option.some.inj hR
      exact j_vret X hr dX2_add_16 rfl (by rw [← hR])

def rmX8_isBetween : Room := { frames := 0, cells := 0, slots := 0, locals := 0 }
theorem hdX8_isBetween : yX8_isBetween.cls ≠ "java/lang/invoke/MethodHandle" ∧ yX8_isBetween.cls ≠ "java/lang/invoke/VarHandle" ∧ (parseMethodDescriptor yX8_isBetween.desc).map (fun d => d.parameters.length) = some 3 := by decide +kernel
def fX8_isBetween (i0 : Int32) (i1 : Int32) (i2 : Int32) : Option (Int32) :=
  if i0 < i1 then (some 0) else (if i2 < i0 then (some 0) else (some 1))
set_option maxHeartbeats 8000000 in
set_option maxRecDepth 100000 in
theorem mX8_isBetween (l : Launch) (D : va_G) (cI cJ cB cT : ClassId) (tt : Nat → Nat) {i0 : Int32} {i1 : Int32} {i2 : Int32}  {out : Int32} (h : fX8_isBetween i0 i1 i2 = some out) :
    jM l yX8_isBetween (.code yX8_isBetween cX8_isBetween 3 (some .boolean)) rmX8_isBetween D (wTy cI cJ cB cT) tt [.int i0, .int i1, .int i2] [] (some (.int out)) [] := by
  refine jM.of (by decide) (Nat.le_of_ble_eq_true rfl) ?_
  intro p e s m below meth c A X hr
  refine j_sub (lv2 := [(0, .int i0), (1, .int i1), (2, .int i2)]) [0, 1, 2] rfl ?_
  have hR := h
  unfold fX8_isBetween at hR
  refine j_iload_n X (q := 0) dX8_isBetween_0 rfl ?_
  refine j_iload_n X (q := 1) dX8_isBetween_1 rfl ?_
  refine j_icmp_lt X (tgt := 14) dX8_isBetween_2 (by decide) (fun cv1 => ?_) (fun cv1 => ?_)
  · replace hR := (if_pos cv1).symm.trans hR
    refine j_iconst X (v := 0) dX8_isBetween_14 (by decide) ?_
    have hR := Option.some.inj hR
    exact j_zret X hr rfl dX8_isBetween_15 (by rw [← hR]) rfl
  · replace hR := (if_neg cv1).symm.trans hR
    refine j_iload_n X (q := 0) dX8_isBetween_5 rfl ?_
    refine j_iload_n X (q := 2) dX8_isBetween_6 rfl ?_
    refine j_icmp_gt X (tgt := 14) dX8_isBetween_7 (by decide) (fun cv2 => ?_) (fun cv2 => ?_)
    · replace hR := (if_pos cv2).symm.trans hR
      refine j_iconst X (v := 0) dX8_isBetween_14 (by decide) ?_
      have hR := Option.some.inj hR
      exact j_zret X hr rfl dX8_isBetween_15 (by rw [← hR]) rfl
    · replace hR := (if_neg cv2).symm.trans hR
      refine j_iconst X (v := 1) dX8_isBetween_10 (by decide) ?_
      refine j_goto X (tgt := 15) dX8_isBetween_11 (by decide) ?_
      have hR := Option.some.inj hR
      exact j_zret X hr rfl dX8_isBetween_15 (by rw [← hR]) rfl
