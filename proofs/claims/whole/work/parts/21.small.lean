def rmX1_listen : Room := { frames := 4, cells := 0, slots := 0, locals := 80 }
theorem hdX1_listen : yX1_listen.cls ≠ "java/lang/invoke/MethodHandle" ∧ yX1_listen.cls ≠ "java/lang/invoke/VarHandle" ∧ (parseMethodDescriptor yX1_listen.desc).map (fun d => d.parameters.length) = some 1 := by decide +kernel
def fX1_listen_7 (z_1 : Int32) : Nat → Int32 → Int32 → (Nat → Int32) → Int64 → (Nat → Int32) → (Nat → Int64) → Int32 → (Nat → Int32) → (Nat → Int32) → (Nat → Int32) → Option (Int32 × (Nat → Int32) × Int64 × (Nat → Int32) × (Nat → Int64) × Int32 × (Nat → Int32) × (Nat → Int32) × (Nat → Int32))
  | 0, _, _, _, _, _, _, _, _, _, _ => none
  | fu + 1, x2, n, b_1, se_1, f_a, f_1A, k_1P, f_1Ps, f_1Pt, f_1Pw =>
    if (400 : Int32) ≤ x2 then (some (n, b_1, se_1, f_a, f_1A, k_1P, f_1Ps, f_1Pt, f_1Pw)) else ((fX0_tick b_1 se_1 z_1 f_1A k_1P f_1Ps f_1Pt f_1Pw).bind fun ov2 =>
  if ov2.1 = 0 then (lt' (x2 + 1) fun x2v4 =>
  fX1_listen_7 z_1 fu x2v4 n ov2.2.1 ov2.2.2.1 f_a ov2.2.2.2.1 ov2.2.2.2.2.1 ov2.2.2.2.2.2.1 ov2.2.2.2.2.2.2.1 ov2.2.2.2.2.2.2.2) else (if (400 : Int32) ≤ n then (lt' (x2 + 1) fun x2v6 =>
  fX1_listen_7 z_1 fu x2v6 n ov2.2.1 ov2.2.2.1 f_a ov2.2.2.2.1 ov2.2.2.2.2.1 ov2.2.2.2.2.2.1 ov2.2.2.2.2.2.2.1 ov2.2.2.2.2.2.2.2) else (gd (inb n 400) (lt' (upd f_a n.toNatClampNeg x2) fun f_av8 =>
  lt' (n + 1) fun nv9 =>
  lt' (x2 + 1) fun x2v10 =>
  fX1_listen_7 z_1 fu x2v10 nv9 ov2.2.1 ov2.2.2.1 f_av8 ov2.2.2.2.1 ov2.2.2.2.2.1 ov2.2.2.2.2.2.1 ov2.2.2.2.2.2.2.1 ov2.2.2.2.2.2.2.2))))
def fX1_listen (n : Int32) (b_1 : Nat → Int32) (se_1 : Int64) (z_1 : Int32) (f_a : Nat → Int32) (f_1A : Nat → Int64) (k_1P : Int32) (f_1Ps : Nat → Int32) (f_1Pt : Nat → Int32) (f_1Pw : Nat → Int32) : Option (Int32 × (Nat → Int32) × Int64 × (Nat → Int32) × (Nat → Int64) × Int32 × (Nat → Int32) × (Nat → Int32) × (Nat → Int32)) :=
  fX1_listen_7 z_1 500 0 0 b_1 se_1 f_a f_1A k_1P f_1Ps f_1Pt f_1Pw
set_option maxHeartbeats 8000000 in
set_option maxRecDepth 100000 in
theorem mX1_listen (l : Launch) (D : va_G) (cI cJ cB cT : ClassId) (tt : Nat → Nat) (r_ r_a r_1 r_1P r_1A r_1Pt r_1Pw r_1Ps : Nat)  {n : Int32} {b_1 : Nat → Int32} {se_1 : Int64} {z_1 : Int32} {f_a : Nat → Int32} {f_1A : Nat → Int64} {k_1P : Int32} {f_1Ps : Nat → Int32} {f_1Pt : Nat → Int32} {f_1Pw : Nat → Int32} {out : Int32 × (Nat → Int32) × Int64 × (Nat → Int32) × (Nat → Int64) × Int32 × (Nat → Int32) × (Nat → Int32) × (Nat → Int32)} (h : fX1_listen n b_1 se_1 z_1 f_a f_1A k_1P f_1Ps f_1Pt f_1Pw = some out) :
    jM l yX1_listen (.code yX1_listen cX1_listen 3 none) rmX1_listen D (wTy cI cJ cB cT) tt [.ref r_, .ref r_1] [cHea r_ r_a n, cBal r_1 r_1P r_1A b_1 se_1 z_1, cIar cI r_a 400 f_a, cJar cJ r_1A 4 f_1A, cPus r_1P r_1Pt r_1Pw r_1Ps k_1P, cIar cI r_1Ps 8 f_1Ps, cIar cI r_1Pt 8 f_1Pt, cIar cI r_1Pw 8 f_1Pw] (none) [cHea r_ r_a out.1, cBal r_1 r_1P r_1A out.2.1 out.2.2.1 z_1, cIar cI r_a 400 out.2.2.2.1, cJar cJ r_1A 4 out.2.2.2.2.1, cPus r_1P r_1Pt r_1Pw r_1Ps out.2.2.2.2.2.1, cIar cI r_1Ps 8 out.2.2.2.2.2.2.1, cIar cI r_1Pt 8 out.2.2.2.2.2.2.2.1, cIar cI r_1Pw 8 out.2.2.2.2.2.2.2.2] := by
  refine jM.of (by decide) (Nat.le_of_ble_eq_true rfl) ?_
  intro p e s m below meth c A X hr
  have L_7 : ∀ (fuel : Nat) (x2 : Int32) (n : Int32) (b_1 : Nat → Int32) (se_1 : Int64) (f_a : Nat → Int32) (f_1A : Nat → Int64) (k_1P : Int32) (f_1Ps : Nat → Int32) (f_1Pt : Nat → Int32) (f_1Pw : Nat → Int32), fX1_listen_7 z_1  fuel x2 n b_1 se_1 f_a f_1A k_1P f_1Ps f_1Pt f_1Pw = some out → jW p l e rmX1_listen s m ([.ref r_, .ref r_1] : List Value).toArray below meth c D A 3 (MQ below (jQ D (none) [cHea r_ r_a out.1, cBal r_1 r_1P r_1A out.2.1 out.2.2.1 z_1, cIar cI r_a 400 out.2.2.2.1, cJar cJ r_1A 4 out.2.2.2.2.1, cPus r_1P r_1Pt r_1Pw r_1Ps out.2.2.2.2.2.1, cIar cI r_1Ps 8 out.2.2.2.2.2.2.1, cIar cI r_1Pt 8 out.2.2.2.2.2.2.2.1, cIar cI r_1Pw 8 out.2.2.2.2.2.2.2.2] A) ([.ref r_, .ref r_1] : List Value).toArray s 0 0 A) 0 0 7 [(0, .ref r_), (1, .ref r_1), (2, .int x2)] [] [cHea r_ r_a n, cBal r_1 r_1P r_1A b_1 se_1 z_1, cIar cI r_a 400 f_a, cJar cJ r_1A 4 f_1A, cPus r_1P r_1Pt r_1Pw r_1Ps k_1P, cIar cI r_1Ps 8 f_1Ps, cIar cI r_1Pt 8 f_1Pt, cIar cI r_1Pw 8 f_1Pw] := by
    intro  fuel
    induction fuel with
    | zero =>
      intro x2 n b_1 se_1 f_a f_1A k_1P f_1Ps f_1Pt f_1Pw hR
      rw [fX1_listen_7] at hR
      cases hR
    | succ fu ih =>
      intro x2 n b_1 se_1 f_a f_1A k_1P f_1Ps f_1Pt f_1Pw hR
      rw [fX1_listen_7] at hR
      refine j_iload_n X (q := 2) dX1_listen_7 rfl ?_
      refine j_sipush X (v := 400) dX1_listen_8 (by decide) ?_
      refine j_icmp_ge X (tgt := 59) dX1_listen_11 (by decide) (fun cv1 => ?_) (fun cv1 => ?_)
      · replace hR := (if_pos cv1).symm.trans hR
        have hR := Option.some.inj hR
        exact j_vret X hr dX1_listen_59 rfl (by rw [← hR])
      · replace hR := (if_neg cv1).symm.trans hR
        refine j_aload_n X (q := 1) dX1_listen_14 rfl ?_
        obtain ⟨ov2, hov2, hR⟩ := bd_some hR
        refine j_callV X (As := []) (rest := []) (ws2 := [cHea r_ r_a n, cBal r_1 r_1P r_1A ov2.2.1 ov2.2.2.1 z_1, cIar cI r_a 400 f_a, cJar cJ r_1A 4 ov2.2.2.2.1, cPus r_1P r_1Pt r_1Pw r_1Ps ov2.2.2.2.2.1, cIar cI r_1Ps 8 ov2.2.2.2.2.2.1, cIar cI r_1Pt 8 ov2.2.2.2.2.2.2.1, cIar cI r_1Pw 8 ov2.2.2.2.2.2.2.2]) (q0 := 1) (ci := 0) (mX0_tick l D cI cJ cB cT tt r_1 r_1P r_1A r_1Pt r_1Pw r_1Ps hov2) [1, 3, 4, 5, 6, 7] [.inl 0, .inr 0, .inl 2, .inr 1, .inr 2, .inr 3, .inr 4, .inr 5] k_352 k_491 k_350 k_351 rfl rfl k_40 hdX0_tick (by decide) (Nat.le_of_ble_eq_true rfl) dX1_listen_15 (by decide) rfl rfl (by decide) rfl rfl ?_
        refine j_if_eq X (tgt := 53) dX1_listen_18 (by decide) (fun cv3 => ?_) (fun cv3 => ?_)
        · replace hR := (if_pos cv3).symm.trans hR
          obtain ⟨x2v4, ex2v4, hR⟩ := lt_some hR
          refine j_iinc X (k := 2) (v := x2v4) (lv2 := [(2, .int x2v4), (0, .ref r_), (1, .ref r_1)]) dX1_listen_53 rfl (by rw [← ex2v4]; rfl) (by decide) rfl ?_
          refine j_goto X (tgt := 7) dX1_listen_56 (by decide) ?_
          refine j_sub (lv2 := [(0, .ref r_), (1, .ref r_1), (2, .int x2v4)]) [1, 2, 0] rfl ?_
          exact ih _ _ _ _ _ _ _ _ _ _ hR
        · replace hR := (if_neg cv3).symm.trans hR
          refine j_aload_n X (q := 0) dX1_listen_21 rfl ?_
          refine j_get X 0 1 hiX1 k_210 dX1_listen_22 rfl rfl (by decide) rfl ?_
          refine j_aload_n X (q := 0) dX1_listen_25 rfl ?_
          refine j_get X 0 0 hiX1 k_209 dX1_listen_26 rfl rfl (by decide) rfl ?_
          refine j_alen X (v := 400) 2 0 dX1_listen_29 rfl rfl rfl ?_
          refine j_icmp_ge X (tgt := 53) dX1_listen_30 (by decide) (fun cv5 => ?_) (fun cv5 => ?_)
          · replace hR := (if_pos cv5).symm.trans hR
            obtain ⟨x2v6, ex2v6, hR⟩ := lt_some hR
            refine j_iinc X (k := 2) (v := x2v6) (lv2 := [(2, .int x2v6), (0, .ref r_), (1, .ref r_1)]) dX1_listen_53 rfl (by rw [← ex2v6]; rfl) (by decide) rfl ?_
            refine j_goto X (tgt := 7) dX1_listen_56 (by decide) ?_
            refine j_sub (lv2 := [(0, .ref r_), (1, .ref r_1), (2, .int x2v6)]) [1, 2, 0] rfl ?_
            exact ih _ _ _ _ _ _ _ _ _ _ hR
          · replace hR := (if_neg cv5).symm.trans hR
            refine j_aload_n X (q := 0) dX1_listen_33 rfl ?_
            refine j_get X 0 0 hiX1 k_209 dX1_listen_34 rfl rfl (by decide) rfl ?_
            refine j_aload_n X (q := 0) dX1_listen_37 rfl ?_
            refine j_get X 0 1 hiX1 k_210 dX1_listen_38 rfl rfl (by decide) rfl ?_
            refine j_iload_n X (q := 2) dX1_listen_41 rfl ?_
            obtain ⟨gv7, hR⟩ := gd_some hR
            obtain ⟨f_av8, ef_av8, hR⟩ := lt_some hR
            refine j_iast X (ws2 := [cHea r_ r_a n, cBal r_1 r_1P r_1A ov2.2.1 ov2.2.2.1 z_1, cIar cI r_a 400 f_av8, cJar cJ r_1A 4 ov2.2.2.2.1, cPus r_1P r_1Pt r_1Pw r_1Ps ov2.2.2.2.2.1, cIar cI r_1Ps 8 ov2.2.2.2.2.2.1, cIar cI r_1Pt 8 ov2.2.2.2.2.2.2.1, cIar cI r_1Pw 8 ov2.2.2.2.2.2.2.2]) 2 0 rfl dX1_listen_42 rfl rfl gv7 ef_av8 rfl ?_
            refine j_aload_n X (q := 0) dX1_listen_43 rfl ?_
            refine j_dup X dX1_listen_44 rfl ?_
            refine j_get X 0 1 hiX1 k_210 dX1_listen_45 rfl rfl (by decide) rfl ?_
            refine j_iconst X (v := 1) dX1_listen_48 (by decide) ?_
            refine j_iadd X dX1_listen_49 ?_
            obtain ⟨nv9, env9, hR⟩ := lt_some hR
            refine j_put X (ws2 := [cHea r_ r_a nv9, cBal r_1 r_1P r_1A ov2.2.1 ov2.2.2.1 z_1, cIar cI r_a 400 f_av8, cJar cJ r_1A 4 ov2.2.2.2.1, cPus r_1P r_1Pt r_1Pw r_1Ps ov2.2.2.2.2.1, cIar cI r_1Ps 8 ov2.2.2.2.2.2.1, cIar cI r_1Pt 8 ov2.2.2.2.2.2.2.1, cIar cI r_1Pw 8 ov2.2.2.2.2.2.2.2]) 0 1 hiX1 tyX1_ok nmX1 k_210 dX1_listen_50 rfl rfl (by decide) (by decide) rfl rfl (Nat.le_of_ble_eq_true rfl) (by subst env9; rfl) ?_
            obtain ⟨x2v10, ex2v10, hR⟩ := lt_some hR
            refine j_iinc X (k := 2) (v := x2v10) (lv2 := [(2, .int x2v10), (0, .ref r_), (1, .ref r_1)]) dX1_listen_53 rfl (by rw [← ex2v10]; rfl) (by decide) rfl ?_
            refine j_goto X (tgt := 7) dX1_listen_56 (by decide) ?_
            refine j_sub (lv2 := [(0, .ref r_), (1, .ref r_1), (2, .int x2v10)]) [1, 2, 0] rfl ?_
            exact ih _ _ _ _ _ _ _ _ _ _ hR
  refine j_sub (lv2 := [(0, .ref r_), (1, .ref r_1)]) [0, 1] rfl ?_
  have hR := h
  unfold fX1_listen at hR
  refine j_aload_n X (q := 0) dX1_listen_0 rfl ?_
  refine j_iconst X (v := 0) dX1_listen_1 (by decide) ?_
  refine j_put X (ws2 := [cHea r_ r_a 0, cBal r_1 r_1P r_1A b_1 se_1 z_1, cIar cI r_a 400 f_a, cJar cJ r_1A 4 f_1A, cPus r_1P r_1Pt r_1Pw r_1Ps k_1P, cIar cI r_1Ps 8 f_1Ps, cIar cI r_1Pt 8 f_1Pt, cIar cI r_1Pw 8 f_1Pw]) 0 1 hiX1 tyX1_ok nmX1 k_210 dX1_listen_2 rfl rfl (by decide) (by decide) rfl rfl (Nat.le_of_ble_eq_true rfl) rfl ?_
  refine j_iconst X (v := 0) dX1_listen_5 (by decide) ?_
  refine j_istore_n X (lv2 := [(2, .int 0), (0, .ref r_), (1, .ref r_1)]) dX1_listen_6 (by decide) rfl ?_
  refine j_sub (lv2 := [(0, .ref r_), (1, .ref r_1), (2, .int 0)]) [1, 2, 0] rfl ?_
  exact L_7 _ _ _ _ _ _ _ _ _ _ _ hR

def rmX1_beatAt : Room := { frames := 0, cells := 0, slots := 0, locals := 0 }
theorem hdX1_beatAt : yX1_beatAt.cls ≠ "java/lang/invoke/MethodHandle" ∧ yX1_beatAt.cls ≠ "java/lang/invoke/VarHandle" ∧ (parseMethodDescriptor yX1_beatAt.desc).map (fun d => d.parameters.length) = some 1 := by decide +kernel
def fX1_beatAt (i1 : Int32) (n : Int32) (f_a : Nat → Int32) : Option (Int32) :=
  if i1 < 0 then (some (-5)) else (if n ≤ i1 then (some (-5)) else (if (400 : Int32) ≤ i1 then (some (-5)) else (gd (inb i1 400) (some (f_a i1.toNatClampNeg)))))
set_option maxHeartbeats 8000000 in
set_option maxRecDepth 100000 in
theorem mX1_beatAt (l : Launch) (D : va_G) (cI cJ cB cT : ClassId) (tt : Nat → Nat) (r_ r_a : Nat) {i1 : Int32} {n : Int32} {f_a : Nat → Int32} {out : Int32} (h : fX1_beatAt i1 n f_a = some out) :
    jM l yX1_beatAt (.code yX1_beatAt cX1_beatAt 2 (some .int)) rmX1_beatAt D (wTy cI cJ cB cT) tt [.ref r_, .int i1] [cHea r_ r_a n, cIar cI r_a 400 f_a] (some (.int out)) [cHea r_ r_a n, cIar cI r_a 400 f_a] := by
  refine jM.of (by decide) (Nat.le_of_ble_eq_true rfl) ?_
  intro p e s m below meth c A X hr
  refine j_sub (lv2 := [(0, .ref r_), (1, .int i1)]) [0, 1] rfl ?_
  have hR := h
  unfold fX1_beatAt at hR
  refine j_iload_n X (q := 1) dX1_beatAt_0 rfl ?_
  refine j_if_lt X (tgt := 30) dX1_beatAt_1 (by decide) (fun cv1 => ?_) (fun cv1 => ?_)
  · replace hR := (if_pos cv1).symm.trans hR
    refine j_bipush X (v := (-5)) dX1_beatAt_30 (by decide) ?_
    have hR := Option.some.inj hR
    exact j_iret X hr dX1_beatAt_32 (by rw [← hR]) rfl
  · replace hR := (if_neg cv1).symm.trans hR
    refine j_iload_n X (q := 1) dX1_beatAt_4 rfl ?_
    refine j_aload_n X (q := 0) dX1_beatAt_5 rfl ?_
    refine j_get X 0 1 hiX1 k_210 dX1_beatAt_6 rfl rfl (by decide) rfl ?_
    refine j_icmp_ge X (tgt := 30) dX1_beatAt_9 (by decide) (fun cv2 => ?_) (fun cv2 => ?_)
    · replace hR := (if_pos cv2).symm.trans hR
      refine j_bipush X (v := (-5)) dX1_beatAt_30 (by decide) ?_
      have hR := Option.some.inj hR
      exact j_iret X hr dX1_beatAt_32 (by rw [← hR]) rfl
    · replace hR := (if_neg cv2).symm.trans hR
      refine j_iload_n X (q := 1) dX1_beatAt_12 rfl ?_
      refine j_aload_n X (q := 0) dX1_beatAt_13 rfl ?_
      refine j_get X 0 0 hiX1 k_209 dX1_beatAt_14 rfl rfl (by decide) rfl ?_
      refine j_alen X (v := 400) 1 0 dX1_beatAt_17 rfl rfl rfl ?_
      refine j_icmp_ge X (tgt := 30) dX1_beatAt_18 (by decide) (fun cv3 => ?_) (fun cv3 => ?_)
      · replace hR := (if_pos cv3).symm.trans hR
        refine j_bipush X (v := (-5)) dX1_beatAt_30 (by decide) ?_
        have hR := Option.some.inj hR
        exact j_iret X hr dX1_beatAt_32 (by rw [← hR]) rfl
      · replace hR := (if_neg cv3).symm.trans hR
        refine j_aload_n X (q := 0) dX1_beatAt_21 rfl ?_
        refine j_get X 0 0 hiX1 k_209 dX1_beatAt_22 rfl rfl (by decide) rfl ?_
        refine j_iload_n X (q := 1) dX1_beatAt_25 rfl ?_
        obtain ⟨gv4, hR⟩ := gd_some hR
        refine j_iald X 1 0 rfl dX1_beatAt_26 rfl rfl gv4 ?_
        refine j_goto X (tgt := 32) dX1_beatAt_27 (by decide) ?_
        have hR := Option.some.inj hR
        exact j_iret X hr dX1_beatAt_32 (by rw [← hR]) rfl

def rmX1_gaps : Room := { frames := 1, cells := 0, slots := 0, locals := 13 }
theorem hdX1_gaps : yX1_gaps.cls ≠ "java/lang/invoke/MethodHandle" ∧ yX1_gaps.cls ≠ "java/lang/invoke/VarHandle" ∧ (parseMethodDescriptor yX1_gaps.desc).map (fun d => d.parameters.length) = some 0 := by decide +kernel
def fX1_gaps (n : Int32) : Option (Int32) :=
  lt' (n - 1) fun uv1 =>
  some (if (0 : Int32) < uv1 then uv1 else 0)
set_option maxHeartbeats 8000000 in
set_option maxRecDepth 100000 in
theorem mX1_gaps (l : Launch) (D : va_G) (cI cJ cB cT : ClassId) (tt : Nat → Nat) (r_ r_a : Nat)  {n : Int32} {out : Int32} (h : fX1_gaps n = some out) :
    jM l yX1_gaps (.code yX1_gaps cX1_gaps 1 (some .int)) rmX1_gaps D (wTy cI cJ cB cT) tt [.ref r_] [cHea r_ r_a n] (some (.int out)) [cHea r_ r_a n] := by
  refine jM.of (by decide) (Nat.le_of_ble_eq_true rfl) ?_
  intro p e s m below meth c A X hr
  refine j_sub (lv2 := [(0, .ref r_)]) [0] rfl ?_
  have hR := h
  unfold fX1_gaps at hR
  refine j_iconst X (v := 0) dX1_gaps_0 (by decide) ?_
  refine j_aload_n X (q := 0) dX1_gaps_1 rfl ?_
  refine j_get X 0 1 hiX1 k_210 dX1_gaps_2 rfl rfl (by decide) rfl ?_
  refine j_iconst X (v := 1) dX1_gaps_5 (by decide) ?_
  refine j_isub X dX1_gaps_6 ?_
  obtain ⟨uv1, euv1, hR⟩ := lt_some hR
  refine j_eq (congrArg (fun z => Value.int z :: _) euv1) rfl ?_
  refine j_mmax X k_517 k_365 k_48 k_366 ⟨by decide, Nat.le_of_ble_eq_true rfl, Nat.zero_le _, Nat.zero_le _⟩ dX1_gaps_7 ?_
  have hR := Option.some.inj hR
  exact j_iret X hr dX1_gaps_10 (by rw [← hR]) rfl

def rmX1_gapAt : Room := { frames := 2, cells := 0, slots := 0, locals := 33 }
theorem hdX1_gapAt : yX1_gapAt.cls ≠ "java/lang/invoke/MethodHandle" ∧ yX1_gapAt.cls ≠ "java/lang/invoke/VarHandle" ∧ (parseMethodDescriptor yX1_gapAt.desc).map (fun d => d.parameters.length) = some 1 := by decide +kernel
def fX1_gapAt (i1 : Int32) (n : Int32) (f_a : Nat → Int32) : Option (Int32) :=
  if i1 < 0 then (some (-5)) else ((fX1_gaps n).bind fun ov2 =>
  if ov2 ≤ i1 then (some (-5)) else ((fX1_beatAt (i1 + 1) n f_a).bind fun ov4 =>
  (fX1_beatAt i1 n f_a).bind fun ov5 =>
  some (ov4 - ov5)))
set_option maxHeartbeats 8000000 in
set_option maxRecDepth 100000 in
theorem mX1_gapAt (l : Launch) (D : va_G) (cI cJ cB cT : ClassId) (tt : Nat → Nat) (r_ r_a : Nat) {i1 : Int32} {n : Int32} {f_a : Nat → Int32} {out : Int32} (h : fX1_gapAt i1 n f_a = some out) :
    jM l yX1_gapAt (.code yX1_gapAt cX1_gapAt 2 (some .int)) rmX1_gapAt D (wTy cI cJ cB cT) tt [.ref r_, .int i1] [cHea r_ r_a n, cIar cI r_a 400 f_a] (some (.int out)) [cHea r_ r_a n, cIar cI r_a 400 f_a] := by
  refine jM.of (by decide) (Nat.le_of_ble_eq_true rfl) ?_
  intro p e s m below meth c A X hr
  refine j_sub (lv2 := [(0, .ref r_), (1, .int i1)]) [0, 1] rfl ?_
  have hR := h
  unfold fX1_gapAt at hR
  refine j_iload_n X (q := 1) dX1_gapAt_0 rfl ?_
  refine j_if_lt X (tgt := 28) dX1_gapAt_1 (by decide) (fun cv1 => ?_) (fun cv1 => ?_)
  · replace hR := (if_pos cv1).symm.trans hR
    refine j_bipush X (v := (-5)) dX1_gapAt_28 (by decide) ?_
    have hR := Option.some.inj hR
    exact j_iret X hr dX1_gapAt_30 (by rw [← hR]) rfl
  · replace hR := (if_neg cv1).symm.trans hR
    refine j_iload_n X (q := 1) dX1_gapAt_4 rfl ?_
    refine j_aload_n X (q := 0) dX1_gapAt_5 rfl ?_
    obtain ⟨ov2, hov2, hR⟩ := bd_some hR
    refine j_callV X (As := []) (rest := [.int i1]) (ws2 := [cHea r_ r_a n, cIar cI r_a 400 f_a]) (q0 := 0) (ci := 1) (mX1_gaps l D cI cJ cB cT tt r_ r_a hov2) [0] [.inr 0, .inl 1] k_516 k_513 k_514 k_515 rfl rfl k_44 hdX1_gaps (by decide) (Nat.le_of_ble_eq_true rfl) dX1_gapAt_6 (by decide) rfl rfl (by decide) rfl rfl ?_
    refine j_icmp_ge X (tgt := 28) dX1_gapAt_9 (by decide) (fun cv3 => ?_) (fun cv3 => ?_)
    · replace hR := (if_pos cv3).symm.trans hR
      refine j_bipush X (v := (-5)) dX1_gapAt_28 (by decide) ?_
      have hR := Option.some.inj hR
      exact j_iret X hr dX1_gapAt_30 (by rw [← hR]) rfl
    · replace hR := (if_neg cv3).symm.trans hR
      refine j_aload_n X (q := 0) dX1_gapAt_12 rfl ?_
      refine j_iload_n X (q := 1) dX1_gapAt_13 rfl ?_
      refine j_iconst X (v := 1) dX1_gapAt_14 (by decide) ?_
      refine j_iadd X dX1_gapAt_15 ?_
      obtain ⟨ov4, hov4, hR⟩ := bd_some hR
      refine j_callV X (As := [.int (i1 + 1)]) (rest := []) (ws2 := [cHea r_ r_a n, cIar cI r_a 400 f_a]) (q0 := 0) (ci := 1) (mX1_beatAt l D cI cJ cB cT tt r_ r_a hov4) [0, 1] [.inr 0, .inr 1] k_495 k_522 k_493 k_494 rfl rfl k_44 hdX1_beatAt (by decide) (Nat.le_of_ble_eq_true rfl) dX1_gapAt_16 (by decide) rfl rfl (by decide) rfl rfl ?_
      refine j_aload_n X (q := 0) dX1_gapAt_19 rfl ?_
      refine j_iload_n X (q := 1) dX1_gapAt_20 rfl ?_
      obtain ⟨ov5, hov5, hR⟩ := bd_some hR
      refine j_callV X (As := [.int i1]) (rest := [.int ov4]) (ws2 := [cHea r_ r_a n, cIar cI r_a 400 f_a]) (q0 := 0) (ci := 1) (mX1_beatAt l D cI cJ cB cT tt r_ r_a hov5) [0, 1] [.inr 0, .inr 1] k_495 k_522 k_493 k_494 rfl rfl k_44 hdX1_beatAt (by decide) (Nat.le_of_ble_eq_true rfl) dX1_gapAt_21 (by decide) rfl rfl (by decide) rfl rfl ?_
      refine j_isub X dX1_gapAt_24 ?_
      refine j_goto X (tgt := 30) dX1_gapAt_25 (by decide) ?_
      have hR := Option.some.inj hR
      exact j_iret X hr dX1_gapAt_30 (by rw [← hR]) rfl

def rmX1_uneven : Room := { frames := 3, cells := 0, slots := 0, locals := 54 }
theorem hdX1_uneven : yX1_uneven.cls ≠ "java/lang/invoke/MethodHandle" ∧ yX1_uneven.cls ≠ "java/lang/invoke/VarHandle" ∧ (parseMethodDescriptor yX1_uneven.desc).map (fun d => d.parameters.length) = some 0 := by decide +kernel
def fX1_uneven_9 (n : Int32) (f_a : Nat → Int32) : Nat → Int32 → Int32 → Int32 → Option (Int32)
  | 0, _, _, _ => none
  | fu + 1, x1, x2, x3 =>
    if x2 ≤ (x3 + 1) then (some x1) else ((fX1_gapAt x3 n f_a).bind fun ov3 =>
  (fX1_gapAt (x3 + 1) n f_a).bind fun ov4 =>
  lt' (x1 + (ov3 - ov4)) fun x1v5 =>
  lt' (x3 + 2) fun x3v6 =>
  fX1_uneven_9 n f_a fu x1v5 x2 x3v6)
def fX1_uneven (n : Int32) (f_a : Nat → Int32) : Option (Int32) :=
  (fX1_gaps n).bind fun ov1 =>
  fX1_uneven_9 n f_a 500 0 ov1 0
set_option maxHeartbeats 8000000 in
set_option maxRecDepth 100000 in
theorem mX1_uneven (l : Launch) (D : va_G) (cI cJ cB cT : ClassId) (tt : Nat → Nat) (r_ r_a : Nat)  {n : Int32} {f_a : Nat → Int32} {out : Int32} (h : fX1_uneven n f_a = some out) :
    jM l yX1_uneven (.code yX1_uneven cX1_uneven 4 (some .int)) rmX1_uneven D (wTy cI cJ cB cT) tt [.ref r_] [cHea r_ r_a n, cIar cI r_a 400 f_a] (some (.int out)) [cHea r_ r_a n, cIar cI r_a 400 f_a] := by
  refine jM.of (by decide) (Nat.le_of_ble_eq_true rfl) ?_
  intro p e s m below meth c A X hr
  have L_9 : ∀ (fuel : Nat) (x1 : Int32) (x2 : Int32) (x3 : Int32), fX1_uneven_9 n f_a  fuel x1 x2 x3 = some out → jW p l e rmX1_uneven s m ([.ref r_] : List Value).toArray below meth c D A 4 (MQ below (jQ D (some (.int out)) [cHea r_ r_a n, cIar cI r_a 400 f_a] A) ([.ref r_] : List Value).toArray s 0 0 A) 0 0 9 [(0, .ref r_), (1, .int x1), (2, .int x2), (3, .int x3)] [] [cHea r_ r_a n, cIar cI r_a 400 f_a] := by
    intro  fuel
    induction fuel with
    | zero =>
      intro x1 x2 x3 hR
      rw [fX1_uneven_9] at hR
      cases hR
    | succ fu ih =>
      intro x1 x2 x3 hR
      rw [fX1_uneven_9] at hR
      refine j_iload_n X (q := 3) dX1_uneven_9 rfl ?_
      refine j_iconst X (v := 1) dX1_uneven_10 (by decide) ?_
      refine j_iadd X dX1_uneven_11 ?_
      refine j_iload_n X (q := 2) dX1_uneven_12 rfl ?_
      refine j_icmp_ge X (tgt := 38) dX1_uneven_13 (by decide) (fun cv2 => ?_) (fun cv2 => ?_)
      · replace hR := (if_pos cv2).symm.trans hR
        refine j_iload_n X (q := 1) dX1_uneven_38 rfl ?_
        have hR := Option.some.inj hR
        exact j_iret X hr dX1_uneven_39 (by rw [← hR]) rfl
      · replace hR := (if_neg cv2).symm.trans hR
        refine j_iload_n X (q := 1) dX1_uneven_16 rfl ?_
        refine j_aload_n X (q := 0) dX1_uneven_17 rfl ?_
        refine j_iload_n X (q := 3) dX1_uneven_18 rfl ?_
        obtain ⟨ov3, hov3, hR⟩ := bd_some hR
        refine j_callV X (As := [.int x3]) (rest := [.int x1]) (ws2 := [cHea r_ r_a n, cIar cI r_a 400 f_a]) (q0 := 0) (ci := 1) (mX1_gapAt l D cI cJ cB cT tt r_ r_a hov3) [0, 1] [.inr 0, .inr 1] k_521 k_518 k_519 k_520 rfl rfl k_44 hdX1_gapAt (by decide) (Nat.le_of_ble_eq_true rfl) dX1_uneven_19 (by decide) rfl rfl (by decide) rfl rfl ?_
        refine j_aload_n X (q := 0) dX1_uneven_22 rfl ?_
        refine j_iload_n X (q := 3) dX1_uneven_23 rfl ?_
        refine j_iconst X (v := 1) dX1_uneven_24 (by decide) ?_
        refine j_iadd X dX1_uneven_25 ?_
        obtain ⟨ov4, hov4, hR⟩ := bd_some hR
        refine j_callV X (As := [.int (x3 + 1)]) (rest := [.int ov3, .int x1]) (ws2 := [cHea r_ r_a n, cIar cI r_a 400 f_a]) (q0 := 0) (ci := 1) (mX1_gapAt l D cI cJ cB cT tt r_ r_a hov4) [0, 1] [.inr 0, .inr 1] k_521 k_518 k_519 k_520 rfl rfl k_44 hdX1_gapAt (by decide) (Nat.le_of_ble_eq_true rfl) dX1_uneven_26 (by decide) rfl rfl (by decide) rfl rfl ?_
        refine j_isub X dX1_uneven_29 ?_
        refine j_iadd X dX1_uneven_30 ?_
        obtain ⟨x1v5, ex1v5, hR⟩ := lt_some hR
        refine j_eq (congrArg (fun z => Value.int z :: _) ex1v5) rfl ?_
        refine j_istore_n X (lv2 := [(1, .int x1v5), (0, .ref r_), (2, .int x2), (3, .int x3)]) dX1_uneven_31 (by decide) rfl ?_
        obtain ⟨x3v6, ex3v6, hR⟩ := lt_some hR
        refine j_iinc X (k := 3) (v := x3v6) (lv2 := [(3, .int x3v6), (1, .int x1v5), (0, .ref r_), (2, .int x2)]) dX1_uneven_32 rfl (by rw [← ex3v6]; rfl) (by decide) rfl ?_
        refine j_goto X (tgt := 9) dX1_uneven_35 (by decide) ?_
        refine j_sub (lv2 := [(0, .ref r_), (1, .int x1v5), (2, .int x2), (3, .int x3v6)]) [2, 1, 3, 0] rfl ?_
        exact ih _ _ _ hR
  refine j_sub (lv2 := [(0, .ref r_)]) [0] rfl ?_
  have hR := h
  unfold fX1_uneven at hR
  refine j_iconst X (v := 0) dX1_uneven_0 (by decide) ?_
  refine j_istore_n X (lv2 := [(1, .int 0), (0, .ref r_)]) dX1_uneven_1 (by decide) rfl ?_
  refine j_aload_n X (q := 1) dX1_uneven_2 rfl ?_
  obtain ⟨ov1, hov1, hR⟩ := bd_some hR
  refine j_callV X (As := []) (rest := []) (ws2 := [cHea r_ r_a n, cIar cI r_a 400 f_a]) (q0 := 0) (ci := 1) (mX1_gaps l D cI cJ cB cT tt r_ r_a hov1) [0] [.inr 0, .inl 1] k_516 k_513 k_514 k_515 rfl rfl k_44 hdX1_gaps (by decide) (Nat.le_of_ble_eq_true rfl) dX1_uneven_3 (by decide) rfl rfl (by decide) rfl rfl ?_
  refine j_istore_n X (lv2 := [(2, .int ov1), (1, .int 0), (0, .ref r_)]) dX1_uneven_6 (by decide) rfl ?_
  refine j_iconst X (v := 0) dX1_uneven_7 (by decide) ?_
  refine j_istore_n X (lv2 := [(3, .int 0), (2, .int ov1), (1, .int 0), (0, .ref r_)]) dX1_uneven_8 (by decide) rfl ?_
  refine j_sub (lv2 := [(0, .ref r_), (1, .int 0), (2, .int ov1), (3, .int 0)]) [3, 2, 1, 0] rfl ?_
  exact L_9 _ _ _ _ hR

def rmX1_gapsAheadOf : Room := { frames := 3, cells := 0, slots := 0, locals := 54 }
theorem hdX1_gapsAheadOf : yX1_gapsAheadOf.cls ≠ "java/lang/invoke/MethodHandle" ∧ yX1_gapsAheadOf.cls ≠ "java/lang/invoke/VarHandle" ∧ (parseMethodDescriptor yX1_gapsAheadOf.desc).map (fun d => d.parameters.length) = some 1 := by decide +kernel
def fX1_gapsAheadOf_17 (i1 : Int32) (n : Int32) (f_a : Nat → Int32) : Nat → Int32 → Int32 → Int32 → Int32 → Option (Int32)
  | 0, _, _, _, _ => none
  | fu + 1, x2, x3, x4, x5 =>
    if x4 ≤ x5 then (some x3) else ((fX1_gapAt x5 n f_a).bind fun ov4 =>
  if x2 < ov4 then (lt' (x3 + 1) fun x3v6 =>
  lt' (x5 + 1) fun x5v7 =>
  fX1_gapsAheadOf_17 i1 n f_a fu x2 x3v6 x4 x5v7) else (if ov4 = x2 then (if i1 ≤ x5 then (lt' (x5 + 1) fun x5v11 =>
  fX1_gapsAheadOf_17 i1 n f_a fu x2 x3 x4 x5v11) else (lt' (x3 + 1) fun x3v12 =>
  lt' (x5 + 1) fun x5v13 =>
  fX1_gapsAheadOf_17 i1 n f_a fu x2 x3v12 x4 x5v13)) else (lt' (x5 + 1) fun x5v9 =>
  fX1_gapsAheadOf_17 i1 n f_a fu x2 x3 x4 x5v9)))
def fX1_gapsAheadOf (i1 : Int32) (n : Int32) (f_a : Nat → Int32) : Option (Int32) :=
  (fX1_gapAt i1 n f_a).bind fun ov1 =>
  (fX1_gaps n).bind fun ov2 =>
  fX1_gapsAheadOf_17 i1 n f_a 500 ov1 0 ov2 0
set_option maxHeartbeats 8000000 in
set_option maxRecDepth 100000 in
theorem mX1_gapsAheadOf (l : Launch) (D : va_G) (cI cJ cB cT : ClassId) (tt : Nat → Nat) (r_ r_a : Nat) {i1 : Int32} {n : Int32} {f_a : Nat → Int32} {out : Int32} (h : fX1_gapsAheadOf i1 n f_a = some out) :
    jM l yX1_gapsAheadOf (.code yX1_gapsAheadOf cX1_gapsAheadOf 7 (some .int)) rmX1_gapsAheadOf D (wTy cI cJ cB cT) tt [.ref r_, .int i1] [cHea r_ r_a n, cIar cI r_a 400 f_a] (some (.int out)) [cHea r_ r_a n, cIar cI r_a 400 f_a] := by
  refine jM.of (by decide) (Nat.le_of_ble_eq_true rfl) ?_
  intro p e s m below meth c A X hr
  have L_17 : ∀ (fuel : Nat) (x2 : Int32) (x3 : Int32) (x4 : Int32) (x5 : Int32), fX1_gapsAheadOf_17 i1 n f_a  fuel x2 x3 x4 x5 = some out → jW p l e rmX1_gapsAheadOf s m ([.ref r_, .int i1] : List Value).toArray below meth c D A 7 (MQ below (jQ D (some (.int out)) [cHea r_ r_a n, cIar cI r_a 400 f_a] A) ([.ref r_, .int i1] : List Value).toArray s 0 0 A) 0 0 17 [(0, .ref r_), (1, .int i1), (2, .int x2), (3, .int x3), (4, .int x4), (5, .int x5)] [] [cHea r_ r_a n, cIar cI r_a 400 f_a] := by
    intro  fuel
    induction fuel with
    | zero =>
      intro x2 x3 x4 x5 hR
      rw [fX1_gapsAheadOf_17] at hR
      cases hR
    | succ fu ih =>
      intro x2 x3 x4 x5 hR
      rw [fX1_gapsAheadOf_17] at hR
      refine j_iload X (q := 5) dX1_gapsAheadOf_17 rfl ?_
      refine j_iload X (q := 4) dX1_gapsAheadOf_19 rfl ?_
      refine j_icmp_ge X (tgt := 59) dX1_gapsAheadOf_21 (by decide) (fun cv3 => ?_) (fun cv3 => ?_)
      · replace hR := (if_pos cv3).symm.trans hR
        refine j_iload_n X (q := 3) dX1_gapsAheadOf_59 rfl ?_
        have hR := Option.some.inj hR
        exact j_iret X hr dX1_gapsAheadOf_60 (by rw [← hR]) rfl
      · replace hR := (if_neg cv3).symm.trans hR
        refine j_aload_n X (q := 0) dX1_gapsAheadOf_24 rfl ?_
        refine j_iload X (q := 5) dX1_gapsAheadOf_25 rfl ?_
        obtain ⟨ov4, hov4, hR⟩ := bd_some hR
        refine j_callV X (As := [.int x5]) (rest := []) (ws2 := [cHea r_ r_a n, cIar cI r_a 400 f_a]) (q0 := 0) (ci := 1) (mX1_gapAt l D cI cJ cB cT tt r_ r_a hov4) [0, 1] [.inr 0, .inr 1] k_521 k_518 k_519 k_520 rfl rfl k_44 hdX1_gapAt (by decide) (Nat.le_of_ble_eq_true rfl) dX1_gapsAheadOf_27 (by decide) rfl rfl (by decide) rfl rfl ?_
        refine j_istore X (lv2 := [(6, .int ov4), (0, .ref r_), (1, .int i1), (2, .int x2), (3, .int x3), (4, .int x4), (5, .int x5)]) dX1_gapsAheadOf_30 (by decide) rfl ?_
        refine j_iload X (q := 0) dX1_gapsAheadOf_32 rfl ?_
        refine j_iload_n X (q := 3) dX1_gapsAheadOf_34 rfl ?_
        refine j_icmp_gt X (tgt := 50) dX1_gapsAheadOf_35 (by decide) (fun cv5 => ?_) (fun cv5 => ?_)
        · replace hR := (if_pos cv5).symm.trans hR
          obtain ⟨x3v6, ex3v6, hR⟩ := lt_some hR
          refine j_iinc X (k := 4) (v := x3v6) (lv2 := [(3, .int x3v6), (6, .int ov4), (0, .ref r_), (1, .int i1), (2, .int x2), (4, .int x4), (5, .int x5)]) dX1_gapsAheadOf_50 rfl (by rw [← ex3v6]; rfl) (by decide) rfl ?_
          obtain ⟨x5v7, ex5v7, hR⟩ := lt_some hR
          refine j_iinc X (k := 6) (v := x5v7) (lv2 := [(5, .int x5v7), (3, .int x3v6), (6, .int ov4), (0, .ref r_), (1, .int i1), (2, .int x2), (4, .int x4)]) dX1_gapsAheadOf_53 rfl (by rw [← ex5v7]; rfl) (by decide) rfl ?_
          refine j_goto X (tgt := 17) dX1_gapsAheadOf_56 (by decide) ?_
          refine j_sub (lv2 := [(0, .ref r_), (1, .int i1), (2, .int x2), (3, .int x3v6), (4, .int x4), (5, .int x5v7)]) [3, 4, 5, 1, 6, 0] rfl ?_
          exact ih _ _ _ _ hR
        · replace hR := (if_neg cv5).symm.trans hR
          refine j_iload X (q := 0) dX1_gapsAheadOf_38 rfl ?_
          refine j_iload_n X (q := 3) dX1_gapsAheadOf_40 rfl ?_
          refine j_icmp_ne X (tgt := 53) dX1_gapsAheadOf_41 (by decide) (fun cv8 => ?_) (fun cv8 => ?_)
          · replace hR := (if_neg cv8).symm.trans hR
            obtain ⟨x5v9, ex5v9, hR⟩ := lt_some hR
            refine j_iinc X (k := 6) (v := x5v9) (lv2 := [(5, .int x5v9), (6, .int ov4), (0, .ref r_), (1, .int i1), (2, .int x2), (3, .int x3), (4, .int x4)]) dX1_gapsAheadOf_53 rfl (by rw [← ex5v9]; rfl) (by decide) rfl ?_
            refine j_goto X (tgt := 17) dX1_gapsAheadOf_56 (by decide) ?_
            refine j_sub (lv2 := [(0, .ref r_), (1, .int i1), (2, .int x2), (3, .int x3), (4, .int x4), (5, .int x5v9)]) [2, 3, 4, 5, 6, 0] rfl ?_
            exact ih _ _ _ _ hR
          · replace hR := (if_pos cv8).symm.trans hR
            refine j_iload X (q := 6) dX1_gapsAheadOf_44 rfl ?_
            refine j_iload_n X (q := 2) dX1_gapsAheadOf_46 rfl ?_
            refine j_icmp_ge X (tgt := 53) dX1_gapsAheadOf_47 (by decide) (fun cv10 => ?_) (fun cv10 => ?_)
            · replace hR := (if_pos cv10).symm.trans hR
              obtain ⟨x5v11, ex5v11, hR⟩ := lt_some hR
              refine j_iinc X (k := 6) (v := x5v11) (lv2 := [(5, .int x5v11), (6, .int ov4), (0, .ref r_), (1, .int i1), (2, .int x2), (3, .int x3), (4, .int x4)]) dX1_gapsAheadOf_53 rfl (by rw [← ex5v11]; rfl) (by decide) rfl ?_
              refine j_goto X (tgt := 17) dX1_gapsAheadOf_56 (by decide) ?_
              refine j_sub (lv2 := [(0, .ref r_), (1, .int i1), (2, .int x2), (3, .int x3), (4, .int x4), (5, .int x5v11)]) [2, 3, 4, 5, 6, 0] rfl ?_
              exact ih _ _ _ _ hR
            · replace hR := (if_neg cv10).symm.trans hR
              obtain ⟨x3v12, ex3v12, hR⟩ := lt_some hR
              refine j_iinc X (k := 4) (v := x3v12) (lv2 := [(3, .int x3v12), (6, .int ov4), (0, .ref r_), (1, .int i1), (2, .int x2), (4, .int x4), (5, .int x5)]) dX1_gapsAheadOf_50 rfl (by rw [← ex3v12]; rfl) (by decide) rfl ?_
              obtain ⟨x5v13, ex5v13, hR⟩ := lt_some hR
              refine j_iinc X (k := 6) (v := x5v13) (lv2 := [(5, .int x5v13), (3, .int x3v12), (6, .int ov4), (0, .ref r_), (1, .int i1), (2, .int x2), (4, .int x4)]) dX1_gapsAheadOf_53 rfl (by rw [← ex5v13]; rfl) (by decide) rfl ?_
              refine j_goto X (tgt := 17) dX1_gapsAheadOf_56 (by decide) ?_
              refine j_sub (lv2 := [(0, .ref r_), (1, .int i1), (2, .int x2), (3, .int x3v12), (4, .int x4), (5, .int x5v13)]) [3, 4, 5, 1, 6, 0] rfl ?_
              exact ih _ _ _ _ hR
  refine j_sub (lv2 := [(0, .ref r_), (1, .int i1)]) [0, 1] rfl ?_
  have hR := h
  unfold fX1_gapsAheadOf at hR
  refine j_aload_n X (q := 0) dX1_gapsAheadOf_0 rfl ?_
  refine j_iload_n X (q := 1) dX1_gapsAheadOf_1 rfl ?_
  obtain ⟨ov1, hov1, hR⟩ := bd_some hR
  refine j_callV X (As := [.int i1]) (rest := []) (ws2 := [cHea r_ r_a n, cIar cI r_a 400 f_a]) (q0 := 0) (ci := 1) (mX1_gapAt l D cI cJ cB cT tt r_ r_a hov1) [0, 1] [.inr 0, .inr 1] k_521 k_518 k_519 k_520 rfl rfl k_44 hdX1_gapAt (by decide) (Nat.le_of_ble_eq_true rfl) dX1_gapsAheadOf_2 (by decide) rfl rfl (by decide) rfl rfl ?_
  refine j_istore_n X (lv2 := [(2, .int ov1), (0, .ref r_), (1, .int i1)]) dX1_gapsAheadOf_5 (by decide) rfl ?_
  refine j_iconst X (v := 0) dX1_gapsAheadOf_6 (by decide) ?_
  refine j_istore_n X (lv2 := [(3, .int 0), (2, .int ov1), (0, .ref r_), (1, .int i1)]) dX1_gapsAheadOf_7 (by decide) rfl ?_
  refine j_aload_n X (q := 2) dX1_gapsAheadOf_8 rfl ?_
  obtain ⟨ov2, hov2, hR⟩ := bd_some hR
  refine j_callV X (As := []) (rest := []) (ws2 := [cHea r_ r_a n, cIar cI r_a 400 f_a]) (q0 := 0) (ci := 1) (mX1_gaps l D cI cJ cB cT tt r_ r_a hov2) [0] [.inr 0, .inl 1] k_516 k_513 k_514 k_515 rfl rfl k_44 hdX1_gaps (by decide) (Nat.le_of_ble_eq_true rfl) dX1_gapsAheadOf_9 (by decide) rfl rfl (by decide) rfl rfl ?_
  refine j_istore X (lv2 := [(4, .int ov2), (3, .int 0), (2, .int ov1), (0, .ref r_), (1, .int i1)]) dX1_gapsAheadOf_12 (by decide) rfl ?_
  refine j_iconst X (v := 0) dX1_gapsAheadOf_14 (by decide) ?_
  refine j_istore X (lv2 := [(5, .int 0), (4, .int ov2), (3, .int 0), (2, .int ov1), (0, .ref r_), (1, .int i1)]) dX1_gapsAheadOf_15 (by decide) rfl ?_
  refine j_sub (lv2 := [(0, .ref r_), (1, .int i1), (2, .int ov1), (3, .int 0), (4, .int ov2), (5, .int 0)]) [4, 5, 3, 2, 1, 0] rfl ?_
  exact L_17 _ _ _ _ _ hR

def rmX1_longestGap : Room := { frames := 4, cells := 0, slots := 0, locals := 80 }
theorem hdX1_longestGap : yX1_longestGap.cls ≠ "java/lang/invoke/MethodHandle" ∧ yX1_longestGap.cls ≠ "java/lang/invoke/VarHandle" ∧ (parseMethodDescriptor yX1_longestGap.desc).map (fun d => d.parameters.length) = some 1 := by decide +kernel
def fX1_longestGap_7 (i1 : Int32) (n : Int32) (f_a : Nat → Int32) : Nat → Int32 → Int32 → Option (Int32)
  | 0, _, _ => none
  | fu + 1, x2, x3 =>
    if x2 ≤ x3 then (some (-5)) else ((fX1_gapsAheadOf x3 n f_a).bind fun ov3 =>
  if ov3 = i1 then (some x3) else (lt' (x3 + 1) fun x3v5 =>
  fX1_longestGap_7 i1 n f_a fu x2 x3v5))
def fX1_longestGap (i1 : Int32) (n : Int32) (f_a : Nat → Int32) : Option (Int32) :=
  (fX1_gaps n).bind fun ov1 =>
  fX1_longestGap_7 i1 n f_a 500 ov1 0
set_option maxHeartbeats 8000000 in
set_option maxRecDepth 100000 in
theorem mX1_longestGap (l : Launch) (D : va_G) (cI cJ cB cT : ClassId) (tt : Nat → Nat) (r_ r_a : Nat) {i1 : Int32} {n : Int32} {f_a : Nat → Int32} {out : Int32} (h : fX1_longestGap i1 n f_a = some out) :
    jM l yX1_longestGap (.code yX1_longestGap cX1_longestGap 4 (some .int)) rmX1_longestGap D (wTy cI cJ cB cT) tt [.ref r_, .int i1] [cHea r_ r_a n, cIar cI r_a 400 f_a] (some (.int out)) [cHea r_ r_a n, cIar cI r_a 400 f_a] := by
  refine jM.of (by decide) (Nat.le_of_ble_eq_true rfl) ?_
  intro p e s m below meth c A X hr
  have L_7 : ∀ (fuel : Nat) (x2 : Int32) (x3 : Int32), fX1_longestGap_7 i1 n f_a  fuel x2 x3 = some out → jW p l e rmX1_longestGap s m ([.ref r_, .int i1] : List Value).toArray below meth c D A 4 (MQ below (jQ D (some (.int out)) [cHea r_ r_a n, cIar cI r_a 400 f_a] A) ([.ref r_, .int i1] : List Value).toArray s 0 0 A) 0 0 7 [(0, .ref r_), (1, .int i1), (2, .int x2), (3, .int x3)] [] [cHea r_ r_a n, cIar cI r_a 400 f_a] := by
    intro  fuel
    induction fuel with
    | zero =>
      intro x2 x3 hR
      rw [fX1_longestGap_7] at hR
      cases hR
    | succ fu ih =>
      intro x2 x3 hR
      rw [fX1_longestGap_7] at hR
      refine j_iload_n X (q := 3) dX1_longestGap_7 rfl ?_
      refine j_iload_n X (q := 2) dX1_longestGap_8 rfl ?_
      refine j_icmp_ge X (tgt := 29) dX1_longestGap_9 (by decide) (fun cv2 => ?_) (fun cv2 => ?_)
      · replace hR := (if_pos cv2).symm.trans hR
        refine j_bipush X (v := (-5)) dX1_longestGap_29 (by decide) ?_
        have hR := Option.some.inj hR
        exact j_iret X hr dX1_longestGap_31 (by rw [← hR]) rfl
      · replace hR := (if_neg cv2).symm.trans hR
        refine j_aload_n X (q := 0) dX1_longestGap_12 rfl ?_
        refine j_iload_n X (q := 3) dX1_longestGap_13 rfl ?_
        obtain ⟨ov3, hov3, hR⟩ := bd_some hR
        refine j_callV X (As := [.int x3]) (rest := []) (ws2 := [cHea r_ r_a n, cIar cI r_a 400 f_a]) (q0 := 0) (ci := 1) (mX1_gapsAheadOf l D cI cJ cB cT tt r_ r_a hov3) [0, 1] [.inr 0, .inr 1] k_544 k_541 k_543 k_16 rfl rfl k_44 hdX1_gapsAheadOf (by decide) (Nat.le_of_ble_eq_true rfl) dX1_longestGap_14 (by decide) rfl rfl (by decide) rfl rfl ?_
        refine j_iload_n X (q := 1) dX1_longestGap_17 rfl ?_
        refine j_icmp_ne X (tgt := 23) dX1_longestGap_18 (by decide) (fun cv4 => ?_) (fun cv4 => ?_)
        · replace hR := (if_neg cv4).symm.trans hR
          obtain ⟨x3v5, ex3v5, hR⟩ := lt_some hR
          refine j_iinc X (k := 3) (v := x3v5) (lv2 := [(3, .int x3v5), (0, .ref r_), (1, .int i1), (2, .int x2)]) dX1_longestGap_23 rfl (by rw [← ex3v5]; rfl) (by decide) rfl ?_
          refine j_goto X (tgt := 7) dX1_longestGap_26 (by decide) ?_
          refine j_sub (lv2 := [(0, .ref r_), (1, .int i1), (2, .int x2), (3, .int x3v5)]) [1, 2, 3, 0] rfl ?_
          exact ih _ _ hR
        · replace hR := (if_pos cv4).symm.trans hR
          refine j_iload_n X (q := 3) dX1_longestGap_21 rfl ?_
          have hR := Option.some.inj hR
          exact j_iret X hr dX1_longestGap_22 (by rw [← hR]) rfl
  refine j_sub (lv2 := [(0, .ref r_), (1, .int i1)]) [0, 1] rfl ?_
  have hR := h
  unfold fX1_longestGap at hR
  refine j_aload_n X (q := 0) dX1_longestGap_0 rfl ?_
  obtain ⟨ov1, hov1, hR⟩ := bd_some hR
  refine j_callV X (As := []) (rest := []) (ws2 := [cHea r_ r_a n, cIar cI r_a 400 f_a]) (q0 := 0) (ci := 1) (mX1_gaps l D cI cJ cB cT tt r_ r_a hov1) [0] [.inr 0, .inl 1] k_516 k_513 k_514 k_515 rfl rfl k_44 hdX1_gaps (by decide) (Nat.le_of_ble_eq_true rfl) dX1_longestGap_1 (by decide) rfl rfl (by decide) rfl rfl ?_
  refine j_istore_n X (lv2 := [(2, .int ov1), (0, .ref r_), (1, .int i1)]) dX1_longestGap_4 (by decide) rfl ?_
  refine j_iconst X (v := 0) dX1_longestGap_5 (by decide) ?_
  refine j_istore_n X (lv2 := [(3, .int 0), (2, .int ov1), (0, .ref r_), (1, .int i1)]) dX1_longestGap_6 (by decide) rfl ?_
  refine j_sub (lv2 := [(0, .ref r_), (1, .int i1), (2, .int ov1), (3, .int 0)]) [2, 3, 1, 0] rfl ?_
  exact L_7 _ _ _ hR

def rmX3_add : Room := { frames := 0, cells := 0, slots := 0, locals := 0 }
theorem hdX3_add : yX3_add.cls ≠ "java/lang/invoke/MethodHandle" ∧ yX3_add.cls ≠ "java/lang/invoke/VarHandle" ∧ (parseMethodDescriptor yX3_add.desc).map (fun d => d.parameters.length) = some 2 := by decide +kernel
def fX3_add (i1 : Int32) (i2 : Int32) (k : Int32) (f_f : Nat → Int32) (f_s : Nat → Int32) : Option (Int32 × (Nat → Int32) × (Nat → Int32)) :=
  if k < 0 then (some (k, f_f, f_s)) else (if (8 : Int32) ≤ k then (some (k, f_f, f_s)) else (gd (inb k 8) (lt' (upd f_f k.toNatClampNeg i1) fun f_fv4 =>
  gd (inb k 8) (lt' (upd f_s k.toNatClampNeg i2) fun f_sv6 =>
  lt' (k + 1) fun kv7 =>
  some (kv7, f_fv4, f_sv6)))))
set_option maxHeartbeats 8000000 in
set_option maxRecDepth 100000 in
theorem mX3_add (l : Launch) (D : va_G) (cI cJ cB cT : ClassId) (tt : Nat → Nat) (r_ r_f r_s : Nat) {i1 : Int32} {i2 : Int32} {k : Int32} {f_f : Nat → Int32} {f_s : Nat → Int32} {out : Int32 × (Nat → Int32) × (Nat → Int32)} (h : fX3_add i1 i2 k f_f f_s = some out) :
    jM l yX3_add (.code yX3_add cX3_add 3 none) rmX3_add D (wTy cI cJ cB cT) tt [.ref r_, .int i1, .int i2] [cRow r_ r_f r_s k, cIar cI r_f 8 f_f, cIar cI r_s 8 f_s] (none) [cRow r_ r_f r_s out.1, cIar cI r_f 8 out.2.1, cIar cI r_s 8 out.2.2] := by
  refine jM.of (by decide) (Nat.le_of_ble_eq_true rfl) ?_
  intro p e s m below meth c A X hr
  refine j_sub (lv2 := [(0, .ref r_), (1, .int i1), (2, .int i2)]) [0, 1, 2] rfl ?_
  have hR := h
  unfold fX3_add at hR
  refine j_aload_n X (q := 0) dX3_add_0 rfl ?_
  refine j_get X 0 2 hiX3 k_175 dX3_add_1 rfl rfl (by decide) rfl ?_
  refine j_if_lt X (tgt := 46) dX3_add_4 (by decide) (fun cv1 => ?_) (fun cv1 => ?_)
  · replace hR := (if_pos cv1).symm.trans hR
    have hR := Option.some.inj hR
    exact j_vret X hr dX3_add_46 rfl (by rw [← hR])
  · replace hR := (if_neg cv1).symm.trans hR
    refine j_aload_n X (q := 0) dX3_add_7 rfl ?_
    refine j_get X 0 2 hiX3 k_175 dX3_add_8 rfl rfl (by decide) rfl ?_
    refine j_bipush X (v := 8) dX3_add_11 (by decide) ?_
    refine j_icmp_ge X (tgt := 46) dX3_add_13 (by decide) (fun cv2 => ?_) (fun cv2 => ?_)
    · replace hR := (if_pos cv2).symm.trans hR
      have hR := Option.some.inj hR
      exact j_vret X hr dX3_add_46 rfl (by rw [← hR])
    · replace hR := (if_neg cv2).symm.trans hR
      refine j_aload_n X (q := 0) dX3_add_16 rfl ?_
      refine j_get X 0 0 hiX3 k_171 dX3_add_17 rfl rfl (by decide) rfl ?_
      refine j_aload_n X (q := 0) dX3_add_20 rfl ?_
      refine j_get X 0 2 hiX3 k_175 dX3_add_21 rfl rfl (by decide) rfl ?_
      refine j_iload_n X (q := 1) dX3_add_24 rfl ?_
      obtain ⟨gv3, hR⟩ := gd_some hR
      obtain ⟨f_fv4, ef_fv4, hR⟩ := lt_some hR
      refine j_iast X (ws2 := [cRow r_ r_f r_s k, cIar cI r_f 8 f_fv4, cIar cI r_s 8 f_s]) 1 0 rfl dX3_add_25 rfl rfl gv3 ef_fv4 rfl ?_
      refine j_aload_n X (q := 0) dX3_add_26 rfl ?_
      refine j_get X 0 1 hiX3 k_173 dX3_add_27 rfl rfl (by decide) rfl ?_
      refine j_aload_n X (q := 0) dX3_add_30 rfl ?_
      refine j_get X 0 2 hiX3 k_175 dX3_add_31 rfl rfl (by decide) rfl ?_
      refine j_iload_n X (q := 2) dX3_add_34 rfl ?_
      obtain ⟨gv5, hR⟩ := gd_some hR
      obtain ⟨f_sv6, ef_sv6, hR⟩ := lt_some hR
      refine j_iast X (ws2 := [cRow r_ r_f r_s k, cIar cI r_f 8 f_fv4, cIar cI r_s 8 f_sv6]) 2 0 rfl dX3_add_35 rfl rfl gv5 ef_sv6 rfl ?_
      refine j_aload_n X (q := 0) dX3_add_36 rfl ?_
      refine j_dup X dX3_add_37 rfl ?_
      refine j_get X 0 2 hiX3 k_175 dX3_add_38 rfl rfl (by decide) rfl ?_
      refine j_iconst X (v := 1) dX3_add_41 (by decide) ?_
      refine j_iadd X dX3_add_42 ?_
      obtain ⟨kv7, ekv7, hR⟩ := lt_some hR
      refine j_put X (ws2 := [cRow r_ r_f r_s kv7, cIar cI r_f 8 f_fv4, cIar cI r_s 8 f_sv6]) 0 2 hiX3 tyX3_ok nmX3 k_175 dX3_add_43 rfl rfl (by decide) (by decide) rfl rfl (Nat.le_of_ble_eq_true rfl) (by subst ekv7; rfl) ?_
      have hR := Option.some.inj hR
      exact j_vret X hr dX3_add_46 rfl (by rw [← hR])

def rmX3_greatestFirst : Room := { frames := 1, cells := 0, slots := 0, locals := 13 }
theorem hdX3_greatestFirst : yX3_greatestFirst.cls ≠ "java/lang/invoke/MethodHandle" ∧ yX3_greatestFirst.cls ≠ "java/lang/invoke/VarHandle" ∧ (parseMethodDescriptor yX3_greatestFirst.desc).map (fun d => d.parameters.length) = some 0 := by decide +kernel
def fX3_greatestFirst_4 (k : Int32) (f_f : Nat → Int32) : Nat → Int32 → Int32 → Option (Int32)
  | 0, _, _ => none
  | fu + 1, x1, x2 =>
    if k ≤ x2 then (some x1) else (if (8 : Int32) ≤ x2 then (some x1) else (gd (inb x2 8) (lt' (f_f x2.toNatClampNeg) fun uv4 =>
  lt' (if x1 < uv4 then uv4 else x1) fun x1v5 =>
  lt' (x2 + 1) fun x2v6 =>
  fX3_greatestFirst_4 k f_f fu x1v5 x2v6)))
def fX3_greatestFirst (k : Int32) (f_f : Nat → Int32) : Option (Int32) :=
  fX3_greatestFirst_4 k f_f 500 (-1) 0
set_option maxHeartbeats 8000000 in
set_option maxRecDepth 100000 in
theorem mX3_greatestFirst (l : Launch) (D : va_G) (cI cJ cB cT : ClassId) (tt : Nat → Nat) (r_ r_f r_s : Nat)  {k : Int32} {f_f : Nat → Int32} {out : Int32} (h : fX3_greatestFirst k f_f = some out) :
    jM l yX3_greatestFirst (.code yX3_greatestFirst cX3_greatestFirst 3 (some .int)) rmX3_greatestFirst D (wTy cI cJ cB cT) tt [.ref r_] [cRow r_ r_f r_s k, cIar cI r_f 8 f_f] (some (.int out)) [cRow r_ r_f r_s k, cIar cI r_f 8 f_f] := by
  refine jM.of (by decide) (Nat.le_of_ble_eq_true rfl) ?_
  intro p e s m below meth c A X hr
  have L_4 : ∀ (fuel : Nat) (x1 : Int32) (x2 : Int32), fX3_greatestFirst_4 k f_f  fuel x1 x2 = some out → jW p l e rmX3_greatestFirst s m ([.ref r_] : List Value).toArray below meth c D A 3 (MQ below (jQ D (some (.int out)) [cRow r_ r_f r_s k, cIar cI r_f 8 f_f] A) ([.ref r_] : List Value).toArray s 0 0 A) 0 0 4 [(0, .ref r_), (1, .int x1), (2, .int x2)] [] [cRow r_ r_f r_s k, cIar cI r_f 8 f_f] := by
    intro  fuel
    induction fuel with
    | zero =>
      intro x1 x2 hR
      rw [fX3_greatestFirst_4] at hR
      cases hR
    | succ fu ih =>
      intro x1 x2 hR
      rw [fX3_greatestFirst_4] at hR
      refine j_iload_n X (q := 2) dX3_greatestFirst_4 rfl ?_
      refine j_aload_n X (q := 0) dX3_greatestFirst_5 rfl ?_
      refine j_get X 0 2 hiX3 k_175 dX3_greatestFirst_6 rfl rfl (by decide) rfl ?_
      refine j_icmp_ge X (tgt := 35) dX3_greatestFirst_9 (by decide) (fun cv1 => ?_) (fun cv1 => ?_)
      · replace hR := (if_pos cv1).symm.trans hR
        refine j_iload_n X (q := 1) dX3_greatestFirst_35 rfl ?_
        have hR := Option.some.inj hR
        exact j_iret X hr dX3_greatestFirst_36 (by rw [← hR]) rfl
      · replace hR := (if_neg cv1).symm.trans hR
        refine j_iload_n X (q := 2) dX3_greatestFirst_12 rfl ?_
        refine j_bipush X (v := 8) dX3_greatestFirst_13 (by decide) ?_
        refine j_icmp_ge X (tgt := 35) dX3_greatestFirst_15 (by decide) (fun cv2 => ?_) (fun cv2 => ?_)
        · replace hR := (if_pos cv2).symm.trans hR
          refine j_iload_n X (q := 1) dX3_greatestFirst_35 rfl ?_
          have hR := Option.some.inj hR
          exact j_iret X hr dX3_greatestFirst_36 (by rw [← hR]) rfl
        · replace hR := (if_neg cv2).symm.trans hR
          refine j_iload_n X (q := 1) dX3_greatestFirst_18 rfl ?_
          refine j_aload_n X (q := 0) dX3_greatestFirst_19 rfl ?_
          refine j_get X 0 0 hiX3 k_171 dX3_greatestFirst_20 rfl rfl (by decide) rfl ?_
          refine j_iload_n X (q := 2) dX3_greatestFirst_23 rfl ?_
          obtain ⟨gv3, hR⟩ := gd_some hR
          refine j_iald X 1 0 rfl dX3_greatestFirst_24 rfl rfl gv3 ?_
          obtain ⟨uv4, euv4, hR⟩ := lt_some hR
          refine j_eq (congrArg (fun z => Value.int z :: _) euv4) rfl ?_
          refine j_mmax X k_565 k_365 k_48 k_366 ⟨by decide, Nat.le_of_ble_eq_true rfl, Nat.zero_le _, Nat.zero_le _⟩ dX3_greatestFirst_25 ?_
          obtain ⟨x1v5, ex1v5, hR⟩ := lt_some hR
          refine j_eq (congrArg (fun z => Value.int z :: _) ex1v5) rfl ?_
          refine j_istore_n X (lv2 := [(1, .int x1v5), (0, .ref r_), (2, .int x2)]) dX3_greatestFirst_28 (by decide) rfl ?_
          obtain ⟨x2v6, ex2v6, hR⟩ := lt_some hR
          refine j_iinc X (k := 2) (v := x2v6) (lv2 := [(2, .int x2v6), (1, .int x1v5), (0, .ref r_)]) dX3_greatestFirst_29 rfl (by rw [← ex2v6]; rfl) (by decide) rfl ?_
          refine j_goto X (tgt := 4) dX3_greatestFirst_32 (by decide) ?_
          refine j_sub (lv2 := [(0, .ref r_), (1, .int x1v5), (2, .int x2v6)]) [2, 1, 0] rfl ?_
          exact ih _ _ hR
  refine j_sub (lv2 := [(0, .ref r_)]) [0] rfl ?_
  have hR := h
  unfold fX3_greatestFirst at hR
  refine j_iconst X (v := (-1)) dX3_greatestFirst_0 (by decide) ?_
  refine j_istore_n X (lv2 := [(1, .int (-1)), (0, .ref r_)]) dX3_greatestFirst_1 (by decide) rfl ?_
  refine j_iconst X (v := 0) dX3_greatestFirst_2 (by decide) ?_
  refine j_istore_n X (lv2 := [(2, .int 0), (1, .int (-1)), (0, .ref r_)]) dX3_greatestFirst_3 (by decide) rfl ?_
  refine j_sub (lv2 := [(0, .ref r_), (1, .int (-1)), (2, .int 0)]) [2, 1, 0] rfl ?_
  exact L_4 _ _ _ hR

def rmX3_allows : Room := { frames := 0, cells := 0, slots := 0, locals := 0 }
theorem hdX3_allows : yX3_allows.cls ≠ "java/lang/invoke/MethodHandle" ∧ yX3_allows.cls ≠ "java/lang/invoke/VarHandle" ∧ (parseMethodDescriptor yX3_allows.desc).map (fun d => d.parameters.length) = some 2 := by decide +kernel
def fX3_allows_2 (i1 : Int32) (i2 : Int32) (k : Int32) (f_f : Nat → Int32) (f_s : Nat → Int32) : Nat → Int32 → Option (Int32)
  | 0, _ => none
  | fu + 1, x3 =>
    if k ≤ x3 then (some 1) else (if (8 : Int32) ≤ x3 then (some 1) else (gd (inb x3 8) (if (f_f x3.toNatClampNeg) = i1 then (gd (inb x3 8) (if (f_s x3.toNatClampNeg) = i2 then (lt' (x3 + 1) fun x3v8 =>
  fX3_allows_2 i1 i2 k f_f f_s fu x3v8) else (some 0))) else (lt' (x3 + 1) fun x3v5 =>
  fX3_allows_2 i1 i2 k f_f f_s fu x3v5))))
def fX3_allows (i1 : Int32) (i2 : Int32) (k : Int32) (f_f : Nat → Int32) (f_s : Nat → Int32) : Option (Int32) :=
  fX3_allows_2 i1 i2 k f_f f_s 500 0
set_option maxHeartbeats 8000000 in
set_option maxRecDepth 100000 in
theorem mX3_allows (l : Launch) (D : va_G) (cI cJ cB cT : ClassId) (tt : Nat → Nat) (r_ r_f r_s : Nat) {i1 : Int32} {i2 : Int32} {k : Int32} {f_f : Nat → Int32} {f_s : Nat → Int32} {out : Int32} (h : fX3_allows i1 i2 k f_f f_s = some out) :
    jM l yX3_allows (.code yX3_allows cX3_allows 4 (some .boolean)) rmX3_allows D (wTy cI cJ cB cT) tt [.ref r_, .int i1, .int i2] [cRow r_ r_f r_s k, cIar cI r_f 8 f_f, cIar cI r_s 8 f_s] (some (.int out)) [cRow r_ r_f r_s k, cIar cI r_f 8 f_f, cIar cI r_s 8 f_s] := by
  refine jM.of (by decide) (Nat.le_of_ble_eq_true rfl) ?_
  intro p e s m below meth c A X hr
  have L_2 : ∀ (fuel : Nat) (x3 : Int32), fX3_allows_2 i1 i2 k f_f f_s  fuel x3 = some out → jW p l e rmX3_allows s m ([.ref r_, .int i1, .int i2] : List Value).toArray below meth c D A 4 (MQ below (jQ D (some (.int out)) [cRow r_ r_f r_s k, cIar cI r_f 8 f_f, cIar cI r_s 8 f_s] A) ([.ref r_, .int i1, .int i2] : List Value).toArray s 0 0 A) 0 0 2 [(0, .ref r_), (1, .int i1), (2, .int i2), (3, .int x3)] [] [cRow r_ r_f r_s k, cIar cI r_f 8 f_f, cIar cI r_s 8 f_s] := by
    intro  fuel
    induction fuel with
    | zero =>
      intro x3 hR
      rw [fX3_allows_2] at hR
      cases hR
    | succ fu ih =>
      intro x3 hR
      rw [fX3_allows_2] at hR
      refine j_iload_n X (q := 3) dX3_allows_2 rfl ?_
      refine j_aload_n X (q := 0) dX3_allows_3 rfl ?_
      refine j_get X 0 2 hiX3 k_175 dX3_allows_4 rfl rfl (by decide) rfl ?_
      refine j_icmp_ge X (tgt := 44) dX3_allows_7 (by decide) (fun cv1 => ?_) (fun cv1 => ?_)
      · replace hR := (if_pos cv1).symm.trans hR
        refine j_iconst X (v := 1) dX3_allows_44 (by decide) ?_
        have hR := Option.some.inj hR
        exact j_zret X hr rfl dX3_allows_45 (by rw [← hR]) rfl
      · replace hR := (if_neg cv1).symm.trans hR
        refine j_iload_n X (q := 3) dX3_allows_10 rfl ?_
        refine j_bipush X (v := 8) dX3_allows_11 (by decide) ?_
        refine j_icmp_ge X (tgt := 44) dX3_allows_13 (by decide) (fun cv2 => ?_) (fun cv2 => ?_)
        · replace hR := (if_pos cv2).symm.trans hR
          refine j_iconst X (v := 1) dX3_allows_44 (by decide) ?_
          have hR := Option.some.inj hR
          exact j_zret X hr rfl dX3_allows_45 (by rw [← hR]) rfl
        · replace hR := (if_neg cv2).symm.trans hR
          refine j_aload_n X (q := 0) dX3_allows_16 rfl ?_
          refine j_get X 0 0 hiX3 k_171 dX3_allows_17 rfl rfl (by decide) rfl ?_
          refine j_iload_n X (q := 3) dX3_allows_20 rfl ?_
          obtain ⟨gv3, hR⟩ := gd_some hR
          refine j_iald X 1 0 rfl dX3_allows_21 rfl rfl gv3 ?_
          refine j_iload_n X (q := 1) dX3_allows_22 rfl ?_
          refine j_icmp_ne X (tgt := 38) dX3_allows_23 (by decide) (fun cv4 => ?_) (fun cv4 => ?_)
          · replace hR := (if_neg cv4).symm.trans hR
            obtain ⟨x3v5, ex3v5, hR⟩ := lt_some hR
            refine j_iinc X (k := 3) (v := x3v5) (lv2 := [(3, .int x3v5), (0, .ref r_), (1, .int i1), (2, .int i2)]) dX3_allows_38 rfl (by rw [← ex3v5]; rfl) (by decide) rfl ?_
            refine j_goto X (tgt := 2) dX3_allows_41 (by decide) ?_
            refine j_sub (lv2 := [(0, .ref r_), (1, .int i1), (2, .int i2), (3, .int x3v5)]) [1, 2, 3, 0] rfl ?_
            exact ih _ hR
          · replace hR := (if_pos cv4).symm.trans hR
            refine j_aload_n X (q := 0) dX3_allows_26 rfl ?_
            refine j_get X 0 1 hiX3 k_173 dX3_allows_27 rfl rfl (by decide) rfl ?_
            refine j_iload_n X (q := 3) dX3_allows_30 rfl ?_
            obtain ⟨gv6, hR⟩ := gd_some hR
            refine j_iald X 2 0 rfl dX3_allows_31 rfl rfl gv6 ?_
            refine j_iload_n X (q := 2) dX3_allows_32 rfl ?_
            refine j_icmp_eq X (tgt := 38) dX3_allows_33 (by decide) (fun cv7 => ?_) (fun cv7 => ?_)
            · replace hR := (if_pos cv7).symm.trans hR
              obtain ⟨x3v8, ex3v8, hR⟩ := lt_some hR
              refine j_iinc X (k := 3) (v := x3v8) (lv2 := [(3, .int x3v8), (0, .ref r_), (1, .int i1), (2, .int i2)]) dX3_allows_38 rfl (by rw [← ex3v8]; rfl) (by decide) rfl ?_
              refine j_goto X (tgt := 2) dX3_allows_41 (by decide) ?_
              refine j_sub (lv2 := [(0, .ref r_), (1, .int i1), (2, .int i2), (3, .int x3v8)]) [1, 2, 3, 0] rfl ?_
              exact ih _ hR
            · replace hR := (if_neg cv7).symm.trans hR
              refine j_iconst X (v := 0) dX3_allows_36 (by decide) ?_
              have hR := Option.some.inj hR
              exact j_zret X hr rfl dX3_allows_37 (by rw [← hR]) rfl
  refine j_sub (lv2 := [(0, .ref r_), (1, .int i1), (2, .int i2)]) [0, 1, 2] rfl ?_
  have hR := h
  unfold fX3_allows at hR
  refine j_iconst X (v := 0) dX3_allows_0 (by decide) ?_
  refine j_istore_n X (lv2 := [(3, .int 0), (0, .ref r_), (1, .int i1), (2, .int i2)]) dX3_allows_1 (by decide) rfl ?_
  refine j_sub (lv2 := [(0, .ref r_), (1, .int i1), (2, .int i2), (3, .int 0)]) [1, 2, 3, 0] rfl ?_
  exact L_2 _ _ hR

def rmX3_copy : Room := { frames := 0, cells := 0, slots := 0, locals := 0 }
theorem hdX3_copy : yX3_copy.cls ≠ "java/lang/invoke/MethodHandle" ∧ yX3_copy.cls ≠ "java/lang/invoke/VarHandle" ∧ (parseMethodDescriptor yX3_copy.desc).map (fun d => d.parameters.length) = some 1 := by decide +kernel
def fX3_copy_10 (k_1 : Int32) (f_1f : Nat → Int32) (f_1s : Nat → Int32) : Nat → Int32 → Int32 → (Nat → Int32) → (Nat → Int32) → Option (Int32 × (Nat → Int32) × (Nat → Int32))
  | 0, _, _, _, _ => none
  | fu + 1, x2, k, f_f, f_s =>
    if (8 : Int32) ≤ x2 then (some (k, f_f, f_s)) else (gd (inb x2 8) (gd (inb x2 8) (lt' (upd f_f x2.toNatClampNeg (f_1f x2.toNatClampNeg)) fun f_fv4 =>
  gd (inb x2 8) (gd (inb x2 8) (lt' (upd f_s x2.toNatClampNeg (f_1s x2.toNatClampNeg)) fun f_sv7 =>
  lt' (x2 + 1) fun x2v8 =>
  fX3_copy_10 k_1 f_1f f_1s fu x2v8 k f_fv4 f_sv7)))))
def fX3_copy (k : Int32) (k_1 : Int32) (f_f : Nat → Int32) (f_s : Nat → Int32) (f_1f : Nat → Int32) (f_1s : Nat → Int32) : Option (Int32 × (Nat → Int32) × (Nat → Int32)) :=
  fX3_copy_10 k_1 f_1f f_1s 500 0 k_1 f_f f_s
set_option maxHeartbeats 8000000 in
set_option maxRecDepth 100000 in
theorem mX3_copy (l : Launch) (D : va_G) (cI cJ cB cT : ClassId) (tt : Nat → Nat) (r_ r_f r_s r_1 r_1f r_1s : Nat)  {k : Int32} {k_1 : Int32} {f_f : Nat → Int32} {f_s : Nat → Int32} {f_1f : Nat → Int32} {f_1s : Nat → Int32} {out : Int32 × (Nat → Int32) × (Nat → Int32)} (h : fX3_copy k k_1 f_f f_s f_1f f_1s = some out) :
    jM l yX3_copy (.code yX3_copy cX3_copy 3 none) rmX3_copy D (wTy cI cJ cB cT) tt [.ref r_, .ref r_1] [cRow r_ r_f r_s k, cRow r_1 r_1f r_1s k_1, cIar cI r_f 8 f_f, cIar cI r_s 8 f_s, cIar cI r_1f 8 f_1f, cIar cI r_1s 8 f_1s] (none) [cRow r_ r_f r_s out.1, cRow r_1 r_1f r_1s k_1, cIar cI r_f 8 out.2.1, cIar cI r_s 8 out.2.2, cIar cI r_1f 8 f_1f, cIar cI r_1s 8 f_1s] := by
  refine jM.of (by decide) (Nat.le_of_ble_eq_true rfl) ?_
  intro p e s m below meth c A X hr
  have L_10 : ∀ (fuel : Nat) (x2 : Int32) (k : Int32) (f_f : Nat → Int32) (f_s : Nat → Int32), fX3_copy_10 k_1 f_1f f_1s  fuel x2 k f_f f_s = some out → jW p l e rmX3_copy s m ([.ref r_, .ref r_1] : List Value).toArray below meth c D A 3 (MQ below (jQ D (none) [cRow r_ r_f r_s out.1, cRow r_1 r_1f r_1s k_1, cIar cI r_f 8 out.2.1, cIar cI r_s 8 out.2.2, cIar cI r_1f 8 f_1f, cIar cI r_1s 8 f_1s] A) ([.ref r_, .ref r_1] : List Value).toArray s 0 0 A) 0 0 10 [(0, .ref r_), (1, .ref r_1), (2, .int x2)] [] [cRow r_ r_f r_s k, cRow r_1 r_1f r_1s k_1, cIar cI r_f 8 f_f, cIar cI r_s 8 f_s, cIar cI r_1f 8 f_1f, cIar cI r_1s 8 f_1s] := by
    intro  fuel
    induction fuel with
    | zero =>
      intro x2 k f_f f_s hR
      rw [fX3_copy_10] at hR
      cases hR
    | succ fu ih =>
      intro x2 k f_f f_s hR
      rw [fX3_copy_10] at hR
      refine j_iload_n X (q := 2) dX3_copy_10 rfl ?_
      refine j_bipush X (v := 8) dX3_copy_11 (by decide) ?_
      refine j_icmp_ge X (tgt := 46) dX3_copy_13 (by decide) (fun cv1 => ?_) (fun cv1 => ?_)
      · replace hR := (if_pos cv1).symm.trans hR
        have hR := Option.some.inj hR
        exact j_vret X hr dX3_copy_46 rfl (by rw [← hR])
      · replace hR := (if_neg cv1).symm.trans hR
        refine j_aload_n X (q := 0) dX3_copy_16 rfl ?_
        refine j_get X 0 0 hiX3 k_171 dX3_copy_17 rfl rfl (by decide) rfl ?_
        refine j_iload_n X (q := 2) dX3_copy_20 rfl ?_
        refine j_aload_n X (q := 1) dX3_copy_21 rfl ?_
        refine j_get X 1 0 hiX3 k_171 dX3_copy_22 rfl rfl (by decide) rfl ?_
        refine j_iload_n X (q := 2) dX3_copy_25 rfl ?_
        obtain ⟨gv2, hR⟩ := gd_some hR
        refine j_iald X 4 0 rfl dX3_copy_26 rfl rfl gv2 ?_
        obtain ⟨gv3, hR⟩ := gd_some hR
        obtain ⟨f_fv4, ef_fv4, hR⟩ := lt_some hR
        refine j_iast X (ws2 := [cRow r_ r_f r_s k, cRow r_1 r_1f r_1s k_1, cIar cI r_f 8 f_fv4, cIar cI r_s 8 f_s, cIar cI r_1f 8 f_1f, cIar cI r_1s 8 f_1s]) 2 0 rfl dX3_copy_27 rfl rfl gv3 ef_fv4 rfl ?_
        refine j_aload_n X (q := 0) dX3_copy_28 rfl ?_
        refine j_get X 0 1 hiX3 k_173 dX3_copy_29 rfl rfl (by decide) rfl ?_
        refine j_iload_n X (q := 2) dX3_copy_32 rfl ?_
        refine j_aload_n X (q := 1) dX3_copy_33 rfl ?_
        refine j_get X 1 1 hiX3 k_173 dX3_copy_34 rfl rfl (by decide) rfl ?_
        refine j_iload_n X (q := 2) dX3_copy_37 rfl ?_
        obtain ⟨gv5, hR⟩ := gd_some hR
        refine j_iald X 5 0 rfl dX3_copy_38 rfl rfl gv5 ?_
        obtain ⟨gv6, hR⟩ := gd_some hR
        obtain ⟨f_sv7, ef_sv7, hR⟩ := lt_some hR
        refine j_iast X (ws2 := [cRow r_ r_f r_s k, cRow r_1 r_1f r_1s k_1, cIar cI r_f 8 f_fv4, cIar cI r_s 8 f_sv7, cIar cI r_1f 8 f_1f, cIar cI r_1s 8 f_1s]) 3 0 rfl dX3_copy_39 rfl rfl gv6 ef_sv7 rfl ?_
        obtain ⟨x2v8, ex2v8, hR⟩ := lt_some hR
        refine j_iinc X (k := 2) (v := x2v8) (lv2 := [(2, .int x2v8), (0, .ref r_), (1, .ref r_1)]) dX3_copy_40 rfl (by rw [← ex2v8]; rfl) (by decide) rfl ?_
        refine j_goto X (tgt := 10) dX3_copy_43 (by decide) ?_
        refine j_sub (lv2 := [(0, .ref r_), (1, .ref r_1), (2, .int x2v8)]) [1, 2, 0] rfl ?_
        exact ih _ _ _ _ hR
  refine j_sub (lv2 := [(0, .ref r_), (1, .ref r_1)]) [0, 1] rfl ?_
  have hR := h
  unfold fX3_copy at hR
  refine j_aload_n X (q := 0) dX3_copy_0 rfl ?_
  refine j_aload_n X (q := 1) dX3_copy_1 rfl ?_
  refine j_get X 1 2 hiX3 k_175 dX3_copy_2 rfl rfl (by decide) rfl ?_
  refine j_put X (ws2 := [cRow r_ r_f r_s k_1, cRow r_1 r_1f r_1s k_1, cIar cI r_f 8 f_f, cIar cI r_s 8 f_s, cIar cI r_1f 8 f_1f, cIar cI r_1s 8 f_1s]) 0 2 hiX3 tyX3_ok nmX3 k_175 dX3_copy_5 rfl rfl (by decide) (by decide) rfl rfl (Nat.le_of_ble_eq_true rfl) rfl ?_
  refine j_iconst X (v := 0) dX3_copy_8 (by decide) ?_
  refine j_istore_n X (lv2 := [(2, .int 0), (0, .ref r_), (1, .ref r_1)]) dX3_copy_9 (by decide) rfl ?_
  refine j_sub (lv2 := [(0, .ref r_), (1, .ref r_1), (2, .int 0)]) [1, 2, 0] rfl ?_
  exact L_10 _ _ _ _ _ hR

def rmX4_clear : Room := { frames := 0, cells := 0, slots := 0, locals := 0 }
theorem hdX4_clear : yX4_clear.cls ≠ "java/lang/invoke/MethodHandle" ∧ yX4_clear.cls ≠ "java/lang/invoke/VarHandle" ∧ (parseMethodDescriptor yX4_clear.desc).map (fun d => d.parameters.length) = some 2 := by decide +kernel
def fX4_clear_12 (i1 : Int32) (i2 : Int32) : Nat → Int32 → Int32 → Int32 → (Nat → Int64) → Option (Int32 × Int32 × (Nat → Int64))
  | 0, _, _, _, _ => none
  | fu + 1, x3, so, si, f_i =>
    if (60 : Int32) ≤ x3 then (some (so, si, f_i)) else (gd (inb x3 60) (lt' (vp_updL f_i x3.toNatClampNeg 0) fun f_iv3 =>
  lt' (x3 + 1) fun x3v4 =>
  fX4_clear_12 i1 i2 fu x3v4 so si f_iv3))
def fX4_clear (i1 : Int32) (i2 : Int32) (so : Int32) (si : Int32) (f_i : Nat → Int64) : Option (Int32 × Int32 × (Nat → Int64)) :=
  fX4_clear_12 i1 i2 500 0 i1 i2 f_i
set_option maxHeartbeats 8000000 in
set_option maxRecDepth 100000 in
theorem mX4_clear (l : Launch) (D : va_G) (cI cJ cB cT : ClassId) (tt : Nat → Nat) (r_ r_i : Nat) {i1 : Int32} {i2 : Int32} {so : Int32} {si : Int32} {f_i : Nat → Int64} {out : Int32 × Int32 × (Nat → Int64)} (h : fX4_clear i1 i2 so si f_i = some out) :
    jM l yX4_clear (.code yX4_clear cX4_clear 4 none) rmX4_clear D (wTy cI cJ cB cT) tt [.ref r_, .int i1, .int i2] [cTap r_ r_i so si, cJar cJ r_i 60 f_i] (none) [cTap r_ r_i out.1 out.2.1, cJar cJ r_i 60 out.2.2] := by
  refine jM.of (by decide) (Nat.le_of_ble_eq_true rfl) ?_
  intro p e s m below meth c A X hr
  have L_12 : ∀ (fuel : Nat) (x3 : Int32) (so : Int32) (si : Int32) (f_i : Nat → Int64), fX4_clear_12 i1 i2  fuel x3 so si f_i = some out → jW p l e rmX4_clear s m ([.ref r_, .int i1, .int i2] : List Value).toArray below meth c D A 4 (MQ below (jQ D (none) [cTap r_ r_i out.1 out.2.1, cJar cJ r_i 60 out.2.2] A) ([.ref r_, .int i1, .int i2] : List Value).toArray s 0 0 A) 0 0 12 [(0, .ref r_), (3, .int x3)] [] [cTap r_ r_i so si, cJar cJ r_i 60 f_i] := by
    intro  fuel
    induction fuel with
    | zero =>
      intro x3 so si f_i hR
      rw [fX4_clear_12] at hR
      cases hR
    | succ fu ih =>
      intro x3 so si f_i hR
      rw [fX4_clear_12] at hR
      refine j_iload_n X (q := 1) dX4_clear_12 rfl ?_
      refine j_aload_n X (q := 0) dX4_clear_13 rfl ?_
      refine j_get X 0 2 hiX4 k_255 dX4_clear_14 rfl rfl (by decide) rfl ?_
      refine j_alen X (v := 60) 1 1 dX4_clear_17 rfl rfl rfl ?_
      refine j_icmp_ge X (tgt := 34) dX4_clear_18 (by decide) (fun cv1 => ?_) (fun cv1 => ?_)
      · replace hR := (if_pos cv1).symm.trans hR
        have hR := Option.some.inj hR
        exact j_vret X hr dX4_clear_34 rfl (by rw [← hR])
      · replace hR := (if_neg cv1).symm.trans hR
        refine j_aload_n X (q := 0) dX4_clear_21 rfl ?_
        refine j_get X 0 2 hiX4 k_255 dX4_clear_22 rfl rfl (by decide) rfl ?_
        refine j_iload_n X (q := 1) dX4_clear_25 rfl ?_
        refine j_lconst X (v := 0) dX4_clear_26 (by decide) ?_
        obtain ⟨gv2, hR⟩ := gd_some hR
        obtain ⟨f_iv3, ef_iv3, hR⟩ := lt_some hR
        refine j_last X (ws2 := [cTap r_ r_i so si, cJar cJ r_i 60 f_iv3]) 1 1 rfl dX4_clear_27 rfl rfl gv2 ef_iv3 rfl ?_
        obtain ⟨x3v4, ex3v4, hR⟩ := lt_some hR
        refine j_iinc X (k := 1) (v := x3v4) (lv2 := [(3, .int x3v4), (0, .ref r_)]) dX4_clear_28 rfl (by rw [← ex3v4]; rfl) (by decide) rfl ?_
        refine j_goto X (tgt := 12) dX4_clear_31 (by decide) ?_
        refine j_sub (lv2 := [(0, .ref r_), (3, .int x3v4)]) [1, 0] rfl ?_
        exact ih _ _ _ _ hR
  refine j_sub (lv2 := [(0, .ref r_), (1, .int i1), (2, .int i2)]) [0, 1, 2] rfl ?_
  have hR := h
  unfold fX4_clear at hR
  refine j_aload_n X (q := 0) dX4_clear_0 rfl ?_
  refine j_iload_n X (q := 1) dX4_clear_1 rfl ?_
  refine j_put X (ws2 := [cTap r_ r_i i1 si, cJar cJ r_i 60 f_i]) 0 0 hiX4 tyX4_ok nmX4 k_251 dX4_clear_2 rfl rfl (by decide) (by decide) rfl rfl (Nat.le_of_ble_eq_true rfl) rfl ?_
  refine j_aload_n X (q := 0) dX4_clear_5 rfl ?_
  refine j_iload_n X (q := 2) dX4_clear_6 rfl ?_
  refine j_put X (ws2 := [cTap r_ r_i i1 i2, cJar cJ r_i 60 f_i]) 0 1 hiX4 tyX4_ok nmX4 k_253 dX4_clear_7 rfl rfl (by decide) (by decide) rfl rfl (Nat.le_of_ble_eq_true rfl) rfl ?_
  refine j_iconst X (v := 0) dX4_clear_10 (by decide) ?_
  refine j_istore_n X (lv2 := [(3, .int 0), (0, .ref r_), (1, .int i1), (2, .int i2)]) dX4_clear_11 (by decide) rfl ?_
  refine j_sub (lv2 := [(0, .ref r_), (3, .int 0)]) [1, 0] rfl ?_
  exact L_12 _ _ _ _ _ hR

def rmX4_has : Room := { frames := 0, cells := 0, slots := 0, locals := 0 }
theorem hdX4_has : yX4_has.cls ≠ "java/lang/invoke/MethodHandle" ∧ yX4_has.cls ≠ "java/lang/invoke/VarHandle" ∧ (parseMethodDescriptor yX4_has.desc).map (fun d => d.parameters.length) = some 1 := by decide +kernel
def fX4_has (i1 : Int32) (so : Int32) (si : Int32) (f_i : Nat → Int64) : Option (Int32) :=
  if i1 < 0 then (some 0) else (if si ≤ i1 then (some 0) else (if (60 : Int32) ≤ i1 then (some 0) else (some 1)))
set_option maxHeartbeats 8000000 in
set_option maxRecDepth 100000 in
theorem mX4_has (l : Launch) (D : va_G) (cI cJ cB cT : ClassId) (tt : Nat → Nat) (r_ r_i : Nat) {i1 : Int32} {so : Int32} {si : Int32} {f_i : Nat → Int64} {out : Int32} (h : fX4_has i1 so si f_i = some out) :
    jM l yX4_has (.code yX4_has cX4_has 2 (some .boolean)) rmX4_has D (wTy cI cJ cB cT) tt [.ref r_, .int i1] [cTap r_ r_i so si, cJar cJ r_i 60 f_i] (some (.int out)) [cTap r_ r_i so si, cJar cJ r_i 60 f_i] := by
  refine jM.of (by decide) (Nat.le_of_ble_eq_true rfl) ?_
  intro p e s m below meth c A X hr
  refine j_sub (lv2 := [(0, .ref r_), (1, .int i1)]) [0, 1] rfl ?_
  have hR := h
  unfold fX4_has at hR
  refine j_iload_n X (q := 1) dX4_has_0 rfl ?_
  refine j_if_lt X (tgt := 25) dX4_has_1 (by decide) (fun cv1 => ?_) (fun cv1 => ?_)
  · replace hR := (if_pos cv1).symm.trans hR
    refine j_iconst X (v := 0) dX4_has_25 (by decide) ?_
    have hR := Option.some.inj hR
    exact j_zret X hr rfl dX4_has_26 (by rw [← hR]) rfl
  · replace hR := (if_neg cv1).symm.trans hR
    refine j_iload_n X (q := 1) dX4_has_4 rfl ?_
    refine j_aload_n X (q := 0) dX4_has_5 rfl ?_
    refine j_get X 0 1 hiX4 k_253 dX4_has_6 rfl rfl (by decide) rfl ?_
    refine j_icmp_ge X (tgt := 25) dX4_has_9 (by decide) (fun cv2 => ?_) (fun cv2 => ?_)
    · replace hR := (if_pos cv2).symm.trans hR
      refine j_iconst X (v := 0) dX4_has_25 (by decide) ?_
      have hR := Option.some.inj hR
      exact j_zret X hr rfl dX4_has_26 (by rw [← hR]) rfl
    · replace hR := (if_neg cv2).symm.trans hR
      refine j_iload_n X (q := 1) dX4_has_12 rfl ?_
      refine j_aload_n X (q := 0) dX4_has_13 rfl ?_
      refine j_get X 0 2 hiX4 k_255 dX4_has_14 rfl rfl (by decide) rfl ?_
      refine j_alen X (v := 60) 1 1 dX4_has_17 rfl rfl rfl ?_
      refine j_icmp_ge X (tgt := 25) dX4_has_18 (by decide) (fun cv3 => ?_) (fun cv3 => ?_)
      · replace hR := (if_pos cv3).symm.trans hR
        refine j_iconst X (v := 0) dX4_has_25 (by decide) ?_
        have hR := Option.some.inj hR
        exact j_zret X hr rfl dX4_has_26 (by rw [← hR]) rfl
      · replace hR := (if_neg cv3).symm.trans hR
        refine j_iconst X (v := 1) dX4_has_21 (by decide) ?_
        refine j_goto X (tgt := 26) dX4_has_22 (by decide) ?_
        have hR := Option.some.inj hR
        exact j_zret X hr rfl dX4_has_26 (by rw [← hR]) rfl

def rmX4_hasRun : Room := { frames := 0, cells := 0, slots := 0, locals := 0 }
theorem hdX4_hasRun : yX4_hasRun.cls ≠ "java/lang/invoke/MethodHandle" ∧ yX4_hasRun.cls ≠ "java/lang/invoke/VarHandle" ∧ (parseMethodDescriptor yX4_hasRun.desc).map (fun d => d.parameters.length) = some 2 := by decide +kernel
def fX4_hasRun (i1 : Int32) (i2 : Int32) (so : Int32) (si : Int32) (f_i : Nat → Int64) : Option (Int32) :=
  if i2 < 0 then (some 0) else (if i1 < 0 then (some 0) else (if (si - i2) < i1 then (some 0) else (if (60 : Int32) < si then (some 0) else (some 1))))
set_option maxHeartbeats 8000000 in
set_option maxRecDepth 100000 in
theorem mX4_hasRun (l : Launch) (D : va_G) (cI cJ cB cT : ClassId) (tt : Nat → Nat) (r_ r_i : Nat) {i1 : Int32} {i2 : Int32} {so : Int32} {si : Int32} {f_i : Nat → Int64} {out : Int32} (h : fX4_hasRun i1 i2 so si f_i = some out) :
    jM l yX4_hasRun (.code yX4_hasRun cX4_hasRun 3 (some .boolean)) rmX4_hasRun D (wTy cI cJ cB cT) tt [.ref r_, .int i1, .int i2] [cTap r_ r_i so si, cJar cJ r_i 60 f_i] (some (.int out)) [cTap r_ r_i so si, cJar cJ r_i 60 f_i] := by
  refine jM.of (by decide) (Nat.le_of_ble_eq_true rfl) ?_
  intro p e s m below meth c A X hr
  refine j_sub (lv2 := [(0, .ref r_), (1, .int i1), (2, .int i2)]) [0, 1, 2] rfl ?_
  have hR := h
  unfold fX4_hasRun at hR
  refine j_iload_n X (q := 2) dX4_hasRun_0 rfl ?_
  refine j_if_lt X (tgt := 34) dX4_hasRun_1 (by decide) (fun cv1 => ?_) (fun cv1 => ?_)
  · replace hR := (if_pos cv1).symm.trans hR
    refine j_iconst X (v := 0) dX4_hasRun_34 (by decide) ?_
    have hR := Option.some.inj hR
    exact j_zret X hr rfl dX4_hasRun_35 (by rw [← hR]) rfl
  · replace hR := (if_neg cv1).symm.trans hR
    refine j_iload_n X (q := 1) dX4_hasRun_4 rfl ?_
    refine j_if_lt X (tgt := 34) dX4_hasRun_5 (by decide) (fun cv2 => ?_) (fun cv2 => ?_)
    · replace hR := (if_pos cv2).symm.trans hR
      refine j_iconst X (v := 0) dX4_hasRun_34 (by decide) ?_
      have hR := Option.some.inj hR
      exact j_zret X hr rfl dX4_hasRun_35 (by rw [← hR]) rfl
    · replace hR := (if_neg cv2).symm.trans hR
      refine j_iload_n X (q := 1) dX4_hasRun_8 rfl ?_
      refine j_aload_n X (q := 0) dX4_hasRun_9 rfl ?_
      refine j_get X 0 1 hiX4 k_253 dX4_hasRun_10 rfl rfl (by decide) rfl ?_
      refine j_iload_n X (q := 2) dX4_hasRun_13 rfl ?_
      refine j_isub X dX4_hasRun_14 ?_
      refine j_icmp_gt X (tgt := 34) dX4_hasRun_15 (by decide) (fun cv3 => ?_) (fun cv3 => ?_)
      · replace hR := (if_pos cv3).symm.trans hR
        refine j_iconst X (v := 0) dX4_hasRun_34 (by decide) ?_
        have hR := Option.some.inj hR
        exact j_zret X hr rfl dX4_hasRun_35 (by rw [← hR]) rfl
      · replace hR := (if_neg cv3).symm.trans hR
        refine j_aload_n X (q := 0) dX4_hasRun_18 rfl ?_
        refine j_get X 0 1 hiX4 k_253 dX4_hasRun_19 rfl rfl (by decide) rfl ?_
        refine j_aload_n X (q := 0) dX4_hasRun_22 rfl ?_
        refine j_get X 0 2 hiX4 k_255 dX4_hasRun_23 rfl rfl (by decide) rfl ?_
        refine j_alen X (v := 60) 1 1 dX4_hasRun_26 rfl rfl rfl ?_
        refine j_icmp_gt X (tgt := 34) dX4_hasRun_27 (by decide) (fun cv4 => ?_) (fun cv4 => ?_)
        · replace hR := (if_pos cv4).symm.trans hR
          refine j_iconst X (v := 0) dX4_hasRun_34 (by decide) ?_
          have hR := Option.some.inj hR
          exact j_zret X hr rfl dX4_hasRun_35 (by rw [← hR]) rfl
        · replace hR := (if_neg cv4).symm.trans hR
          refine j_iconst X (v := 1) dX4_hasRun_30 (by decide) ?_
          refine j_goto X (tgt := 35) dX4_hasRun_31 (by decide) ?_
          have hR := Option.some.inj hR
          exact j_zret X hr rfl dX4_hasRun_35 (by rw [← hR]) rfl

def rmX4_asItem : Room := { frames := 0, cells := 0, slots := 0, locals := 0 }
theorem hdX4_asItem : yX4_asItem.cls ≠ "java/lang/invoke/MethodHandle" ∧ yX4_asItem.cls ≠ "java/lang/invoke/VarHandle" ∧ (parseMethodDescriptor yX4_asItem.desc).map (fun d => d.parameters.length) = some 1 := by decide +kernel
def fX4_asItem (i1 : Int64) (so : Int32) (si : Int32) : Option (Int64) :=
  if so = 0 then (some i1.toInt32.toInt8.toInt32.toInt64) else (if so = 1 then (some i1.toInt32.toInt16.toInt32.toInt64) else (if so = 2 then (some i1.toInt32.toInt64) else (if so = 3 then (some i1) else (if so = 4 then (if (lg_cmp i1 0) = 0 then (some 0) else (some 1)) else (some i1)))))
set_option maxHeartbeats 8000000 in
set_option maxRecDepth 100000 in
theorem mX4_asItem (l : Launch) (D : va_G) (cI cJ cB cT : ClassId) (tt : Nat → Nat) (r_ r_i : Nat) {i1 : Int64} {so : Int32} {si : Int32} {out : Int64} (h : fX4_asItem i1 so si = some out) :
    jM l yX4_asItem (.code yX4_asItem cX4_asItem 3 (some .long)) rmX4_asItem D (wTy cI cJ cB cT) tt [.ref r_, .long i1] [cTap r_ r_i so si] (some (.long out)) [cTap r_ r_i so si] := by
  refine jM.of (by decide) (Nat.le_of_ble_eq_true rfl) ?_
  intro p e s m below meth c A X hr
  refine j_sub (lv2 := [(0, .ref r_), (1, .long i1)]) [0, 1] rfl ?_
  have hR := h
  unfold fX4_asItem at hR
  refine j_aload_n X (q := 0) dX4_asItem_0 rfl ?_
  refine j_get X 0 0 hiX4 k_251 dX4_asItem_1 rfl rfl (by decide) rfl ?_
  by_cases cv1 : so = 0
  · replace hR := (if_pos cv1).symm.trans hR
    refine j_tableIn X (tgt := 40) dX4_asItem_4 (by rw [cv1]; decide) (by rw [cv1]; decide) (by rw [cv1]; rfl) (by decide) ?_
    refine j_lload_n X (q := 1) dX4_asItem_40 rfl ?_
    refine j_l2i X dX4_asItem_41 ?_
    refine j_i2b X dX4_asItem_42 ?_
    refine j_i2l X dX4_asItem_43 ?_
    have hR := Option.some.inj hR
    exact j_lret X hr dX4_asItem_44 (by rw [← hR]) rfl
  · replace hR := (if_neg cv1).symm.trans hR
    by_cases cv2 : so = 1
    · replace hR := (if_pos cv2).symm.trans hR
      refine j_tableIn X (tgt := 45) dX4_asItem_4 (by rw [cv2]; decide) (by rw [cv2]; decide) (by rw [cv2]; rfl) (by decide) ?_
      refine j_lload_n X (q := 1) dX4_asItem_45 rfl ?_
      refine j_l2i X dX4_asItem_46 ?_
      refine j_i2s X dX4_asItem_47 ?_
      refine j_i2l X dX4_asItem_48 ?_
      have hR := Option.some.inj hR
      exact j_lret X hr dX4_asItem_49 (by rw [← hR]) rfl
    · replace hR := (if_neg cv2).symm.trans hR
      by_cases cv3 : so = 2
      · replace hR := (if_pos cv3).symm.trans hR
        refine j_tableIn X (tgt := 50) dX4_asItem_4 (by rw [cv3]; decide) (by rw [cv3]; decide) (by rw [cv3]; rfl) (by decide) ?_
        refine j_lload_n X (q := 1) dX4_asItem_50 rfl ?_
        refine j_l2i X dX4_asItem_51 ?_
        refine j_i2l X dX4_asItem_52 ?_
        have hR := Option.some.inj hR
        exact j_lret X hr dX4_asItem_53 (by rw [← hR]) rfl
      · replace hR := (if_neg cv3).symm.trans hR
        by_cases cv4 : so = 3
        · replace hR := (if_pos cv4).symm.trans hR
          refine j_tableIn X (tgt := 66) dX4_asItem_4 (by rw [cv4]; decide) (by rw [cv4]; decide) (by rw [cv4]; rfl) (by decide) ?_
          refine j_lload_n X (q := 1) dX4_asItem_66 rfl ?_
          have hR := Option.some.inj hR
          exact j_lret X hr dX4_asItem_67 (by rw [← hR]) rfl
        · replace hR := (if_neg cv4).symm.trans hR
          by_cases cv5 : so = 4
          · replace hR := (if_pos cv5).symm.trans hR
            refine j_tableIn X (tgt := 54) dX4_asItem_4 (by rw [cv5]; decide) (by rw [cv5]; decide) (by rw [cv5]; rfl) (by decide) ?_
            refine j_lload_n X (q := 1) dX4_asItem_54 rfl ?_
            refine j_lconst X (v := 0) dX4_asItem_55 (by decide) ?_
            refine j_lcmp X dX4_asItem_56 ?_
            refine j_if_eq X (tgt := 64) dX4_asItem_57 (by decide) (fun cv6 => ?_) (fun cv6 => ?_)
            · replace hR := (if_pos cv6).symm.trans hR
              refine j_lconst X (v := 0) dX4_asItem_64 (by decide) ?_
              have hR := Option.some.inj hR
              exact j_lret X hr dX4_asItem_65 (by rw [← hR]) rfl
            · replace hR := (if_neg cv6).symm.trans hR
              refine j_lconst X (v := 1) dX4_asItem_60 (by decide) ?_
              refine j_goto X (tgt := 65) dX4_asItem_61 (by decide) ?_
              have hR := Option.some.inj hR
              exact j_lret X hr dX4_asItem_65 (by rw [← hR]) rfl
          · replace hR := (if_neg cv5).symm.trans hR
            refine j_tableOut X (tgt := 66) dX4_asItem_4 (by have hcv1 := lv_neT cv1 (a := 0) rfl; have hcv2 := lv_neT cv2 (a := 1) rfl; have hcv3 := lv_neT cv3 (a := 2) rfl; have hcv4 := lv_neT cv4 (a := 3) rfl; have hcv5 := lv_neT cv5 (a := 4) rfl; omega) (by decide) ?_
            refine j_lload_n X (q := 1) dX4_asItem_66 rfl ?_
            have hR := Option.some.inj hR
            exact j_lret X hr dX4_asItem_67 (by rw [← hR]) rfl

def rmX5_add : Room := { frames := 0, cells := 0, slots := 0, locals := 0 }
theorem hdX5_add : yX5_add.cls ≠ "java/lang/invoke/MethodHandle" ∧ yX5_add.cls ≠ "java/lang/invoke/VarHandle" ∧ (parseMethodDescriptor yX5_add.desc).map (fun d => d.parameters.length) = some 1 := by decide +kernel
def fX5_add (i1 : Int32) (le : Int32) (cl : Int32) (f_s : Nat → Int32) : Option (Int32 × (Nat → Int32)) :=
  if le < 0 then (some (le, f_s)) else (if (100 : Int32) ≤ le then (some (le, f_s)) else (gd (inb le 100) (lt' (upd f_s le.toNatClampNeg (vp_nar .byte i1.toInt8.toInt32)) fun f_sv4 =>
  lt' (le + 1) fun lev5 =>
  some (lev5, f_sv4))))
set_option maxHeartbeats 8000000 in
set_option maxRecDepth 100000 in
theorem mX5_add (l : Launch) (D : va_G) (cI cJ cB cT : ClassId) (tt : Nat → Nat) (r_ r_s r_w r_m : Nat) {i1 : Int32} {le : Int32} {cl : Int32} {f_s : Nat → Int32} {out : Int32 × (Nat → Int32)} (h : fX5_add i1 le cl f_s = some out) :
    jM l yX5_add (.code yX5_add cX5_add 2 none) rmX5_add D (wTy cI cJ cB cT) tt [.ref r_, .int i1] [cTex r_ r_s r_w r_m le cl, cIar cB r_s 100 f_s] (none) [cTex r_ r_s r_w r_m out.1 cl, cIar cB r_s 100 out.2] := by
  refine jM.of (by decide) (Nat.le_of_ble_eq_true rfl) ?_
  intro p e s m below meth c A X hr
  refine j_sub (lv2 := [(0, .ref r_), (1, .int i1)]) [0, 1] rfl ?_
  have hR := h
  unfold fX5_add at hR
  refine j_aload_n X (q := 0) dX5_add_0 rfl ?_
  refine j_get X 0 1 hiX5 k_224 dX5_add_1 rfl rfl (by decide) rfl ?_
  refine j_if_lt X (tgt := 40) dX5_add_4 (by decide) (fun cv1 => ?_) (fun cv1 => ?_)
  · replace hR := (if_pos cv1).symm.trans hR
    have hR := Option.some.inj hR
    exact j_vret X hr dX5_add_40 rfl (by rw [← hR])
  · replace hR := (if_neg cv1).symm.trans hR
    refine j_aload_n X (q := 0) dX5_add_7 rfl ?_
    refine j_get X 0 1 hiX5 k_224 dX5_add_8 rfl rfl (by decide) rfl ?_
    refine j_aload_n X (q := 0) dX5_add_11 rfl ?_
    refine j_get X 0 0 hiX5 k_223 dX5_add_12 rfl rfl (by decide) rfl ?_
    refine j_alen X (v := 100) 1 2 dX5_add_15 rfl rfl rfl ?_
    refine j_icmp_ge X (tgt := 40) dX5_add_16 (by decide) (fun cv2 => ?_) (fun cv2 => ?_)
    · replace hR := (if_pos cv2).symm.trans hR
      have hR := Option.some.inj hR
      exact j_vret X hr dX5_add_40 rfl (by rw [← hR])
    · replace hR := (if_neg cv2).symm.trans hR
      refine j_aload_n X (q := 0) dX5_add_19 rfl ?_
      refine j_get X 0 0 hiX5 k_223 dX5_add_20 rfl rfl (by decide) rfl ?_
      refine j_aload_n X (q := 0) dX5_add_23 rfl ?_
      refine j_get X 0 1 hiX5 k_224 dX5_add_24 rfl rfl (by decide) rfl ?_
      refine j_iload_n X (q := 1) dX5_add_27 rfl ?_
      refine j_i2b X dX5_add_28 ?_
      obtain ⟨gv3, hR⟩ := gd_some hR
      obtain ⟨f_sv4, ef_sv4, hR⟩ := lt_some hR
      refine j_bast X (ws2 := [cTex r_ r_s r_w r_m le cl, cIar cB r_s 100 f_sv4]) 1 2 rfl dX5_add_29 rfl rfl gv3 ef_sv4 rfl ?_
      refine j_aload_n X (q := 0) dX5_add_30 rfl ?_
      refine j_dup X dX5_add_31 rfl ?_
      refine j_get X 0 1 hiX5 k_224 dX5_add_32 rfl rfl (by decide) rfl ?_
      refine j_iconst X (v := 1) dX5_add_35 (by decide) ?_
      refine j_iadd X dX5_add_36 ?_
      obtain ⟨lev5, elev5, hR⟩ := lt_some hR
      refine j_put X (ws2 := [cTex r_ r_s r_w r_m lev5 cl, cIar cB r_s 100 f_sv4]) 0 1 hiX5 tyX5_ok nmX5 k_224 dX5_add_37 rfl rfl (by decide) (by decide) rfl rfl (Nat.le_of_ble_eq_true rfl) (by subst elev5; rfl) ?_
      have hR := Option.some.inj hR
      exact j_vret X hr dX5_add_40 rfl (by rw [← hR])

def rmX5_signAt : Room := { frames := 0, cells := 0, slots := 0, locals := 0 }
theorem hdX5_signAt : yX5_signAt.cls ≠ "java/lang/invoke/MethodHandle" ∧ yX5_signAt.cls ≠ "java/lang/invoke/VarHandle" ∧ (parseMethodDescriptor yX5_signAt.desc).map (fun d => d.parameters.length) = some 1 := by decide +kernel
def fX5_signAt (i1 : Int32) (le : Int32) (cl : Int32) (f_s : Nat → Int32) : Option (Int32) :=
  if i1 < 0 then (some (-1)) else (if le ≤ i1 then (some (-1)) else (if (100 : Int32) ≤ i1 then (some (-1)) else (gd (inb i1 100) (some (f_s i1.toNatClampNeg)))))
set_option maxHeartbeats 8000000 in
set_option maxRecDepth 100000 in
theorem mX5_signAt (l : Launch) (D : va_G) (cI cJ cB cT : ClassId) (tt : Nat → Nat) (r_ r_s r_w r_m : Nat) {i1 : Int32} {le : Int32} {cl : Int32} {f_s : Nat → Int32} {out : Int32} (h : fX5_signAt i1 le cl f_s = some out) :
    jM l yX5_signAt (.code yX5_signAt cX5_signAt 2 (some .int)) rmX5_signAt D (wTy cI cJ cB cT) tt [.ref r_, .int i1] [cTex r_ r_s r_w r_m le cl, cIar cB r_s 100 f_s] (some (.int out)) [cTex r_ r_s r_w r_m le cl, cIar cB r_s 100 f_s] := by
  refine jM.of (by decide) (Nat.le_of_ble_eq_true rfl) ?_
  intro p e s m below meth c A X hr
  refine j_sub (lv2 := [(0, .ref r_), (1, .int i1)]) [0, 1] rfl ?_
  have hR := h
  unfold fX5_signAt at hR
  refine j_iload_n X (q := 1) dX5_signAt_0 rfl ?_
  refine j_if_lt X (tgt := 30) dX5_signAt_1 (by decide) (fun cv1 => ?_) (fun cv1 => ?_)
  · replace hR := (if_pos cv1).symm.trans hR
    refine j_iconst X (v := (-1)) dX5_signAt_30 (by decide) ?_
    have hR := Option.some.inj hR
    exact j_iret X hr dX5_signAt_31 (by rw [← hR]) rfl
  · replace hR := (if_neg cv1).symm.trans hR
    refine j_iload_n X (q := 1) dX5_signAt_4 rfl ?_
    refine j_aload_n X (q := 0) dX5_signAt_5 rfl ?_
    refine j_get X 0 1 hiX5 k_224 dX5_signAt_6 rfl rfl (by decide) rfl ?_
    refine j_icmp_ge X (tgt := 30) dX5_signAt_9 (by decide) (fun cv2 => ?_) (fun cv2 => ?_)
    · replace hR := (if_pos cv2).symm.trans hR
      refine j_iconst X (v := (-1)) dX5_signAt_30 (by decide) ?_
      have hR := Option.some.inj hR
      exact j_iret X hr dX5_signAt_31 (by rw [← hR]) rfl
    · replace hR := (if_neg cv2).symm.trans hR
      refine j_iload_n X (q := 1) dX5_signAt_12 rfl ?_
      refine j_aload_n X (q := 0) dX5_signAt_13 rfl ?_
      refine j_get X 0 0 hiX5 k_223 dX5_signAt_14 rfl rfl (by decide) rfl ?_
      refine j_alen X (v := 100) 1 2 dX5_signAt_17 rfl rfl rfl ?_
      refine j_icmp_ge X (tgt := 30) dX5_signAt_18 (by decide) (fun cv3 => ?_) (fun cv3 => ?_)
      · replace hR := (if_pos cv3).symm.trans hR
        refine j_iconst X (v := (-1)) dX5_signAt_30 (by decide) ?_
        have hR := Option.some.inj hR
        exact j_iret X hr dX5_signAt_31 (by rw [← hR]) rfl
      · replace hR := (if_neg cv3).symm.trans hR
        refine j_aload_n X (q := 0) dX5_signAt_21 rfl ?_
        refine j_get X 0 0 hiX5 k_223 dX5_signAt_22 rfl rfl (by decide) rfl ?_
        refine j_iload_n X (q := 1) dX5_signAt_25 rfl ?_
        obtain ⟨gv4, hR⟩ := gd_some hR
        refine j_bald X 1 2 rfl dX5_signAt_26 rfl rfl gv4 ?_
        refine j_goto X (tgt := 31) dX5_signAt_27 (by decide) ?_
        have hR := Option.some.inj hR
        exact j_iret X hr dX5_signAt_31 (by rw [← hR]) rfl

def rmX5_letterAt : Room := { frames := 1, cells := 0, slots := 0, locals := 21 }
theorem hdX5_letterAt : yX5_letterAt.cls ≠ "java/lang/invoke/MethodHandle" ∧ yX5_letterAt.cls ≠ "java/lang/invoke/VarHandle" ∧ (parseMethodDescriptor yX5_letterAt.desc).map (fun d => d.parameters.length) = some 1 := by decide +kernel
def fX5_letterAt_8 (i1 : Int32) (le : Int32) (cl : Int32) (f_s : Nat → Int32) : Nat → Int32 → Int32 → Option (Int32)
  | 0, _, _ => none
  | fu + 1, x2, x3 =>
    if (9 : Int32) ≤ x3 then (some (-1)) else (gd (inb x3 9) (if (tbLetters x3.toNatClampNeg) = x2 then (some x3) else (lt' (x3 + 1) fun x3v5 =>
  fX5_letterAt_8 i1 le cl f_s fu x2 x3v5)))
def fX5_letterAt (i1 : Int32) (le : Int32) (cl : Int32) (f_s : Nat → Int32) : Option (Int32) :=
  (fX5_signAt i1 le cl f_s).bind fun ov1 =>
  fX5_letterAt_8 i1 le cl f_s 500 ov1 0
set_option maxHeartbeats 8000000 in
set_option maxRecDepth 100000 in
theorem mX5_letterAt (l : Launch) (D : va_G) (cI cJ cB cT : ClassId) (tt : Nat → Nat) (r_ r_s r_w r_m : Nat) {i1 : Int32} {le : Int32} {cl : Int32} {f_s : Nat → Int32} {out : Int32} (h : fX5_letterAt i1 le cl f_s = some out) :
    jM l yX5_letterAt (.code yX5_letterAt cX5_letterAt 4 (some .int)) rmX5_letterAt D (wTy cI cJ cB cT) tt [.ref r_, .int i1] [cTex r_ r_s r_w r_m le cl, cIar cB r_s 100 f_s] (some (.int out)) [cTex r_ r_s r_w r_m le cl, cIar cB r_s 100 f_s] := by
  refine jM.of (by decide) (Nat.le_of_ble_eq_true rfl) ?_
  intro p e s m below meth c A X hr
  have L_8 : ∀ (fuel : Nat) (x2 : Int32) (x3 : Int32), fX5_letterAt_8 i1 le cl f_s  fuel x2 x3 = some out → jW p l e rmX5_letterAt s m ([.ref r_, .int i1] : List Value).toArray below meth c D A 4 (MQ below (jQ D (some (.int out)) [cTex r_ r_s r_w r_m le cl, cIar cB r_s 100 f_s] A) ([.ref r_, .int i1] : List Value).toArray s 0 0 A) 0 0 8 [(2, .int x2), (3, .int x3)] [] [cTex r_ r_s r_w r_m le cl, cIar cB r_s 100 f_s] := by
    intro  fuel
    induction fuel with
    | zero =>
      intro x2 x3 hR
      rw [fX5_letterAt_8] at hR
      cases hR
    | succ fu ih =>
      intro x2 x3 hR
      rw [fX5_letterAt_8] at hR
      refine j_iload_n X (q := 1) dX5_letterAt_8 rfl ?_
      refine j_getsN X (host := "WatchBeats") X.Z.2.2.2.2.2.1 (X.Z.2.2.2.2.2.2.1 _ (List.mem_of_getElem? (i := 7) rfl)) dX5_letterAt_9 ?_
      refine j_tlen X X.Z.2.2.2.2.2.1 rfl dX5_letterAt_12 ?_
      refine j_icmp_ge X (tgt := 33) dX5_letterAt_13 (by decide) (fun cv2 => ?_) (fun cv2 => ?_)
      · replace hR := (if_pos cv2).symm.trans hR
        refine j_iconst X (v := (-1)) dX5_letterAt_33 (by decide) ?_
        have hR := Option.some.inj hR
        exact j_iret X hr dX5_letterAt_34 (by rw [← hR]) rfl
      · replace hR := (if_neg cv2).symm.trans hR
        refine j_getsN X (host := "WatchBeats") X.Z.2.2.2.2.2.1 (X.Z.2.2.2.2.2.2.1 _ (List.mem_of_getElem? (i := 7) rfl)) dX5_letterAt_16 ?_
        refine j_iload_n X (q := 1) dX5_letterAt_19 rfl ?_
        obtain ⟨gv3, hR⟩ := gd_some hR
        refine j_tc X rfl X.Z.2.2.2.2.2.1 dX5_letterAt_20 gv3 ?_
        refine j_iload_n X (q := 0) dX5_letterAt_21 rfl ?_
        refine j_icmp_ne X (tgt := 27) dX5_letterAt_22 (by decide) (fun cv4 => ?_) (fun cv4 => ?_)
        · replace hR := (if_neg cv4).symm.trans hR
          obtain ⟨x3v5, ex3v5, hR⟩ := lt_some hR
          refine j_iinc X (k := 1) (v := x3v5) (lv2 := [(3, .int x3v5), (2, .int x2)]) dX5_letterAt_27 rfl (by rw [← ex3v5]; rfl) (by decide) rfl ?_
          refine j_goto X (tgt := 8) dX5_letterAt_30 (by decide) ?_
          refine j_sub (lv2 := [(2, .int x2), (3, .int x3v5)]) [1, 0] rfl ?_
          exact ih _ _ hR
        · replace hR := (if_pos cv4).symm.trans hR
          refine j_iload_n X (q := 1) dX5_letterAt_25 rfl ?_
          have hR := Option.some.inj hR
          exact j_iret X hr dX5_letterAt_26 (by rw [← hR]) rfl
  refine j_sub (lv2 := [(0, .ref r_), (1, .int i1)]) [0, 1] rfl ?_
  have hR := h
  unfold fX5_letterAt at hR
  refine j_aload_n X (q := 0) dX5_letterAt_0 rfl ?_
  refine j_iload_n X (q := 1) dX5_letterAt_1 rfl ?_
  obtain ⟨ov1, hov1, hR⟩ := bd_some hR
  refine j_callV X (As := [.int i1]) (rest := []) (ws2 := [cTex r_ r_s r_w r_m le cl, cIar cB r_s 100 f_s]) (q0 := 0) (ci := 5) (mX5_signAt l D cI cJ cB cT tt r_ r_s r_w r_m hov1) [0, 1] [.inr 0, .inr 1] k_439 k_436 k_438 k_8 rfl rfl k_45 hdX5_signAt (by decide) (Nat.le_of_ble_eq_true rfl) dX5_letterAt_2 (by decide) rfl rfl (by decide) rfl rfl ?_
  refine j_istore_n X (lv2 := [(2, .int ov1), (0, .ref r_), (1, .int i1)]) dX5_letterAt_5 (by decide) rfl ?_
  refine j_iconst X (v := 0) dX5_letterAt_6 (by decide) ?_
  refine j_istore_n X (lv2 := [(3, .int 0), (2, .int ov1), (0, .ref r_), (1, .int i1)]) dX5_letterAt_7 (by decide) rfl ?_
  refine j_sub (lv2 := [(2, .int ov1), (3, .int 0)]) [1, 0] rfl ?_
  exact L_8 _ _ _ hR

def rmX5_digitsEnd : Room := { frames := 1, cells := 0, slots := 0, locals := 22 }
theorem hdX5_digitsEnd : yX5_digitsEnd.cls ≠ "java/lang/invoke/MethodHandle" ∧ yX5_digitsEnd.cls ≠ "java/lang/invoke/VarHandle" ∧ (parseMethodDescriptor yX5_digitsEnd.desc).map (fun d => d.parameters.length) = some 1 := by decide +kernel
def fX5_digitsEnd_2 (i1 : Int32) (le : Int32) (cl : Int32) (f_s : Nat → Int32) : Nat → Int32 → Option (Int32)
  | 0, _ => none
  | fu + 1, x2 =>
    if (i1 + 3) ≤ x2 then (some x2) else ((fX5_signAt x2 le cl f_s).bind fun ov2 =>
  (fX8_isBetween ov2 48 57).bind fun ov3 =>
  if ov3 = 0 then (some x2) else (lt' (x2 + 1) fun x2v5 =>
  fX5_digitsEnd_2 i1 le cl f_s fu x2v5))
def fX5_digitsEnd (i1 : Int32) (le : Int32) (cl : Int32) (f_s : Nat → Int32) : Option (Int32) :=
  fX5_digitsEnd_2 i1 le cl f_s 500 i1
set_option maxHeartbeats 8000000 in
set_option maxRecDepth 100000 in
theorem mX5_digitsEnd (l : Launch) (D : va_G) (cI cJ cB cT : ClassId) (tt : Nat → Nat) (r_ r_s r_w r_m : Nat) {i1 : Int32} {le : Int32} {cl : Int32} {f_s : Nat → Int32} {out : Int32} (h : fX5_digitsEnd i1 le cl f_s = some out) :
    jM l yX5_digitsEnd (.code yX5_digitsEnd cX5_digitsEnd 3 (some .int)) rmX5_digitsEnd D (wTy cI cJ cB cT) tt [.ref r_, .int i1] [cTex r_ r_s r_w r_m le cl, cIar cB r_s 100 f_s] (some (.int out)) [cTex r_ r_s r_w r_m le cl, cIar cB r_s 100 f_s] := by
  refine jM.of (by decide) (Nat.le_of_ble_eq_true rfl) ?_
  intro p e s m below meth c A X hr
  have L_2 : ∀ (fuel : Nat) (x2 : Int32), fX5_digitsEnd_2 i1 le cl f_s  fuel x2 = some out → jW p l e rmX5_digitsEnd s m ([.ref r_, .int i1] : List Value).toArray below meth c D A 3 (MQ below (jQ D (some (.int out)) [cTex r_ r_s r_w r_m le cl, cIar cB r_s 100 f_s] A) ([.ref r_, .int i1] : List Value).toArray s 0 0 A) 0 0 2 [(0, .ref r_), (1, .int i1), (2, .int x2)] [] [cTex r_ r_s r_w r_m le cl, cIar cB r_s 100 f_s] := by
    intro  fuel
    induction fuel with
    | zero =>
      intro x2 hR
      rw [fX5_digitsEnd_2] at hR
      cases hR
    | succ fu ih =>
      intro x2 hR
      rw [fX5_digitsEnd_2] at hR
      refine j_iload_n X (q := 2) dX5_digitsEnd_2 rfl ?_
      refine j_iload_n X (q := 1) dX5_digitsEnd_3 rfl ?_
      refine j_iconst X (v := 3) dX5_digitsEnd_4 (by decide) ?_
      refine j_iadd X dX5_digitsEnd_5 ?_
      refine j_icmp_ge X (tgt := 30) dX5_digitsEnd_6 (by decide) (fun cv1 => ?_) (fun cv1 => ?_)
      · replace hR := (if_pos cv1).symm.trans hR
        refine j_iload_n X (q := 2) dX5_digitsEnd_30 rfl ?_
        have hR := Option.some.inj hR
        exact j_iret X hr dX5_digitsEnd_31 (by rw [← hR]) rfl
      · replace hR := (if_neg cv1).symm.trans hR
        refine j_aload_n X (q := 0) dX5_digitsEnd_9 rfl ?_
        refine j_iload_n X (q := 2) dX5_digitsEnd_10 rfl ?_
        obtain ⟨ov2, hov2, hR⟩ := bd_some hR
        refine j_callV X (As := [.int x2]) (rest := []) (ws2 := [cTex r_ r_s r_w r_m le cl, cIar cB r_s 100 f_s]) (q0 := 0) (ci := 5) (mX5_signAt l D cI cJ cB cT tt r_ r_s r_w r_m hov2) [0, 1] [.inr 0, .inr 1] k_439 k_436 k_438 k_8 rfl rfl k_45 hdX5_signAt (by decide) (Nat.le_of_ble_eq_true rfl) dX5_digitsEnd_11 (by decide) rfl rfl (by decide) rfl rfl ?_
        refine j_bipush X (v := 48) dX5_digitsEnd_14 (by decide) ?_
        refine j_bipush X (v := 57) dX5_digitsEnd_16 (by decide) ?_
        obtain ⟨ov3, hov3, hR⟩ := bd_some hR
        refine j_callSN X (As := [.int ov2, .int 48, .int 57]) (rest := []) (ws2 := [cTex r_ r_s r_w r_m le cl, cIar cB r_s 100 f_s]) (host := "WatchBeats") (mX8_isBetween l D cI cJ cB cT tt  hov3) [] [.inl 0, .inl 1] k_299 (X.Z.2.2.2.2.2.2.1 _ (List.mem_of_getElem? (i := 8) rfl)) k_298 k_38 hdX8_isBetween (by decide) (Nat.le_of_ble_eq_true rfl) dX5_digitsEnd_18 (by decide) rfl rfl (by decide) rfl rfl ?_
        refine j_if_eq X (tgt := 30) dX5_digitsEnd_21 (by decide) (fun cv4 => ?_) (fun cv4 => ?_)
        · replace hR := (if_pos cv4).symm.trans hR
          refine j_iload_n X (q := 2) dX5_digitsEnd_30 rfl ?_
          have hR := Option.some.inj hR
          exact j_iret X hr dX5_digitsEnd_31 (by rw [← hR]) rfl
        · replace hR := (if_neg cv4).symm.trans hR
          obtain ⟨x2v5, ex2v5, hR⟩ := lt_some hR
          refine j_iinc X (k := 2) (v := x2v5) (lv2 := [(2, .int x2v5), (0, .ref r_), (1, .int i1)]) dX5_digitsEnd_24 rfl (by rw [← ex2v5]; rfl) (by decide) rfl ?_
          refine j_goto X (tgt := 2) dX5_digitsEnd_27 (by decide) ?_
          refine j_sub (lv2 := [(0, .ref r_), (1, .int i1), (2, .int x2v5)]) [1, 2, 0] rfl ?_
          exact ih _ hR
  refine j_sub (lv2 := [(0, .ref r_), (1, .int i1)]) [0, 1] rfl ?_
  have hR := h
  unfold fX5_digitsEnd at hR
  refine j_iload_n X (q := 1) dX5_digitsEnd_0 rfl ?_
  refine j_istore_n X (lv2 := [(2, .int i1), (0, .ref r_), (1, .int i1)]) dX5_digitsEnd_1 (by decide) rfl ?_
  refine j_sub (lv2 := [(0, .ref r_), (1, .int i1), (2, .int i1)]) [1, 2, 0] rfl ?_
  exact L_2 _ _ hR

def rmX5_number : Room := { frames := 1, cells := 0, slots := 0, locals := 21 }
theorem hdX5_number : yX5_number.cls ≠ "java/lang/invoke/MethodHandle" ∧ yX5_number.cls ≠ "java/lang/invoke/VarHandle" ∧ (parseMethodDescriptor yX5_number.desc).map (fun d => d.parameters.length) = some 2 := by decide +kernel
def fX5_number_5 (i1 : Int32) (i2 : Int32) (le : Int32) (cl : Int32) (f_s : Nat → Int32) : Nat → Int32 → Int32 → Option (Int32)
  | 0, _, _ => none
  | fu + 1, x3, x4 =>
    if i2 ≤ x4 then (some x3) else ((fX5_signAt x4 le cl f_s).bind fun ov2 =>
  lt' (((x3 * 10) + ov2) - 48) fun x3v3 =>
  lt' (x4 + 1) fun x4v4 =>
  fX5_number_5 i1 i2 le cl f_s fu x3v3 x4v4)
def fX5_number (i1 : Int32) (i2 : Int32) (le : Int32) (cl : Int32) (f_s : Nat → Int32) : Option (Int32) :=
  fX5_number_5 i1 i2 le cl f_s 500 0 i1
set_option maxHeartbeats 8000000 in
set_option maxRecDepth 100000 in
theorem mX5_number (l : Launch) (D : va_G) (cI cJ cB cT : ClassId) (tt : Nat → Nat) (r_ r_s r_w r_m : Nat) {i1 : Int32} {i2 : Int32} {le : Int32} {cl : Int32} {f_s : Nat → Int32} {out : Int32} (h : fX5_number i1 i2 le cl f_s = some out) :
    jM l yX5_number (.code yX5_number cX5_number 5 (some .int)) rmX5_number D (wTy cI cJ cB cT) tt [.ref r_, .int i1, .int i2] [cTex r_ r_s r_w r_m le cl, cIar cB r_s 100 f_s] (some (.int out)) [cTex r_ r_s r_w r_m le cl, cIar cB r_s 100 f_s] := by
  refine jM.of (by decide) (Nat.le_of_ble_eq_true rfl) ?_
  intro p e s m below meth c A X hr
  have L_5 : ∀ (fuel : Nat) (x3 : Int32) (x4 : Int32), fX5_number_5 i1 i2 le cl f_s  fuel x3 x4 = some out → jW p l e rmX5_number s m ([.ref r_, .int i1, .int i2] : List Value).toArray below meth c D A 5 (MQ below (jQ D (some (.int out)) [cTex r_ r_s r_w r_m le cl, cIar cB r_s 100 f_s] A) ([.ref r_, .int i1, .int i2] : List Value).toArray s 0 0 A) 0 0 5 [(0, .ref r_), (2, .int i2), (3, .int x3), (4, .int x4)] [] [cTex r_ r_s r_w r_m le cl, cIar cB r_s 100 f_s] := by
    intro  fuel
    induction fuel with
    | zero =>
      intro x3 x4 hR
      rw [fX5_number_5] at hR
      cases hR
    | succ fu ih =>
      intro x3 x4 hR
      rw [fX5_number_5] at hR
      refine j_iload X (q := 3) dX5_number_5 rfl ?_
      refine j_iload_n X (q := 1) dX5_number_7 rfl ?_
      refine j_icmp_ge X (tgt := 32) dX5_number_8 (by decide) (fun cv1 => ?_) (fun cv1 => ?_)
      · replace hR := (if_pos cv1).symm.trans hR
        refine j_iload_n X (q := 2) dX5_number_32 rfl ?_
        have hR := Option.some.inj hR
        exact j_iret X hr dX5_number_33 (by rw [← hR]) rfl
      · replace hR := (if_neg cv1).symm.trans hR
        refine j_iload_n X (q := 2) dX5_number_11 rfl ?_
        refine j_bipush X (v := 10) dX5_number_12 (by decide) ?_
        refine j_imul X dX5_number_14 ?_
        refine j_aload_n X (q := 0) dX5_number_15 rfl ?_
        refine j_iload X (q := 3) dX5_number_16 rfl ?_
        obtain ⟨ov2, hov2, hR⟩ := bd_some hR
        refine j_callV X (As := [.int x4]) (rest := [.int (x3 * 10)]) (ws2 := [cTex r_ r_s r_w r_m le cl, cIar cB r_s 100 f_s]) (q0 := 0) (ci := 5) (mX5_signAt l D cI cJ cB cT tt r_ r_s r_w r_m hov2) [0, 1] [.inr 0, .inr 1] k_439 k_436 k_438 k_8 rfl rfl k_45 hdX5_signAt (by decide) (Nat.le_of_ble_eq_true rfl) dX5_number_18 (by decide) rfl rfl (by decide) rfl rfl ?_
        refine j_iadd X dX5_number_21 ?_
        refine j_bipush X (v := 48) dX5_number_22 (by decide) ?_
        refine j_isub X dX5_number_24 ?_
        obtain ⟨x3v3, ex3v3, hR⟩ := lt_some hR
        refine j_eq (congrArg (fun z => Value.int z :: _) ex3v3) rfl ?_
        refine j_istore_n X (lv2 := [(3, .int x3v3), (0, .ref r_), (2, .int i2), (4, .int x4)]) dX5_number_25 (by decide) rfl ?_
        obtain ⟨x4v4, ex4v4, hR⟩ := lt_some hR
        refine j_iinc X (k := 3) (v := x4v4) (lv2 := [(4, .int x4v4), (3, .int x3v3), (0, .ref r_), (2, .int i2)]) dX5_number_26 rfl (by rw [← ex4v4]; rfl) (by decide) rfl ?_
        refine j_goto X (tgt := 5) dX5_number_29 (by decide) ?_
        refine j_sub (lv2 := [(0, .ref r_), (2, .int i2), (3, .int x3v3), (4, .int x4v4)]) [2, 3, 1, 0] rfl ?_
        exact ih _ _ hR
  refine j_sub (lv2 := [(0, .ref r_), (1, .int i1), (2, .int i2)]) [0, 1, 2] rfl ?_
  have hR := h
  unfold fX5_number at hR
  refine j_iconst X (v := 0) dX5_number_0 (by decide) ?_
  refine j_istore_n X (lv2 := [(3, .int 0), (0, .ref r_), (1, .int i1), (2, .int i2)]) dX5_number_1 (by decide) rfl ?_
  refine j_iload_n X (q := 2) dX5_number_2 rfl ?_
  refine j_istore X (lv2 := [(4, .int i1), (3, .int 0), (0, .ref r_), (1, .int i1), (2, .int i2)]) dX5_number_3 (by decide) rfl ?_
  refine j_sub (lv2 := [(0, .ref r_), (2, .int i2), (3, .int 0), (4, .int i1)]) [2, 4, 1, 0] rfl ?_
  exact L_5 _ _ _ hR

def rmX5_parse : Room := { frames := 2, cells := 0, slots := 0, locals := 45 }
theorem hdX5_parse : yX5_parse.cls ≠ "java/lang/invoke/MethodHandle" ∧ yX5_parse.cls ≠ "java/lang/invoke/VarHandle" ∧ (parseMethodDescriptor yX5_parse.desc).map (fun d => d.parameters.length) = some 0 := by decide +kernel
def fX5_parse_113 (le : Int32) (f_s : Nat → Int32) (K_9 : Int32 → Int32 → Int32 → (Nat → Int32) → (Nat → Int32) → Option (Int32 × Int32 × (Nat → Int32) × (Nat → Int32))) : Int32 → Int32 → Int32 → Int32 → Int32 → (Nat → Int32) → (Nat → Int32) → Option (Int32 × Int32 × (Nat → Int32) × (Nat → Int32)) := fun x2 x5 y0 y1 cl f_m f_w =>
    gd (inb y1 12) (lt' (upd f_m y1.toNatClampNeg y0) fun f_mv15 =>
  lt' (x2 + 1) fun clv16 =>
  if x5 = le then (some ((-1), clv16, f_mv15, f_w)) else ((fX5_signAt x5 le clv16 f_s).bind fun ov18 =>
  if ov18 = 59 then (lt' (x5 + 1) fun x1v20 =>
  lt' (x2 + 1) fun x2v21 =>
  K_9 x1v20 x2v21 clv16 f_mv15 f_w) else (some (x5, clv16, f_mv15, f_w))))
def fX5_parse_49 (le : Int32) (f_s : Nat → Int32) (K_9 : Int32 → Int32 → Int32 → (Nat → Int32) → (Nat → Int32) → Option (Int32 × Int32 × (Nat → Int32) × (Nat → Int32))) : Int32 → Int32 → Int32 → Int32 → Int32 → (Nat → Int32) → (Nat → Int32) → Option (Int32 × Int32 × (Nat → Int32) × (Nat → Int32)) := fun x1 x2 x3 y0 cl f_m f_w =>
    (fX5_digitsEnd y0 le cl f_s).bind fun ov6 =>
  if ov6 = y0 then (some (ov6, cl, f_m, f_w)) else (gd (inb x2 12) (lt' (upd f_w x2.toNatClampNeg x3) fun f_wv9 =>
  (fX5_signAt (x1 + 1) le cl f_s).bind fun ov10 =>
  if ov10 = 45 then ((fX5_number y0 ov6 le cl f_s).bind fun ov13 =>
  fX5_parse_113 le f_s K_9 x2 ov6 (-ov13) x2 cl f_m f_wv9) else ((fX5_number y0 ov6 le cl f_s).bind fun ov12 =>
  fX5_parse_113 le f_s K_9 x2 ov6 ov12 x2 cl f_m f_wv9)))
def fX5_parse_9 (le : Int32) (f_s : Nat → Int32) : Nat → Int32 → Int32 → Int32 → (Nat → Int32) → (Nat → Int32) → Option (Int32 × Int32 × (Nat → Int32) × (Nat → Int32))
  | 0, _, _, _, _, _ => none
  | fu + 1, x1, x2, cl, f_m, f_w =>
    if (12 : Int32) ≤ x2 then (some (x1 - 1, cl, f_m, f_w)) else ((fX5_letterAt x1 le cl f_s).bind fun ov2 =>
  if ov2 = (-1) then (some (x1, cl, f_m, f_w)) else ((fX5_signAt (x1 + 1) le cl f_s).bind fun ov4 =>
  if ov4 = 45 then (fX5_parse_49 le f_s (fX5_parse_9 le f_s fu) x1 x2 ov2 (x1 + 2) cl f_m f_w) else (fX5_parse_49 le f_s (fX5_parse_9 le f_s fu) x1 x2 ov2 (x1 + 1) cl f_m f_w)))
def fX5_parse (le : Int32) (cl : Int32) (f_m : Nat → Int32) (f_s : Nat → Int32) (f_w : Nat → Int32) : Option (Int32 × Int32 × (Nat → Int32) × (Nat → Int32)) :=
  fX5_parse_9 le f_s 500 0 0 0 f_m f_w
set_option maxHeartbeats 8000000 in
set_option maxRecDepth 100000 in
theorem mX5_parse (l : Launch) (D : va_G) (cI cJ cB cT : ClassId) (tt : Nat → Nat) (r_ r_s r_w r_m : Nat)  {le : Int32} {cl : Int32} {f_m : Nat → Int32} {f_s : Nat → Int32} {f_w : Nat → Int32} {out : Int32 × Int32 × (Nat → Int32) × (Nat → Int32)} (h : fX5_parse le cl f_m f_s f_w = some out) :
    jM l yX5_parse (.code yX5_parse cX5_parse 6 (some .int)) rmX5_parse D (wTy cI cJ cB cT) tt [.ref r_] [cTex r_ r_s r_w r_m le cl, cIar cI r_m 12 f_m, cIar cB r_s 100 f_s, cIar cI r_w 12 f_w] (some (.int out.1)) [cTex r_ r_s r_w r_m le out.2.1, cIar cI r_m 12 out.2.2.1, cIar cB r_s 100 f_s, cIar cI r_w 12 out.2.2.2] := by
  refine jM.of (by decide) (Nat.le_of_ble_eq_true rfl) ?_
  intro p e s m below meth c A X hr
  have L_113 : ∀ (K_9 : Int32 → Int32 → Int32 → (Nat → Int32) → (Nat → Int32) → Option (Int32 × Int32 × (Nat → Int32) × (Nat → Int32))), (∀ (x1 : Int32) (x2 : Int32) (cl : Int32) (f_m : Nat → Int32) (f_w : Nat → Int32), K_9 x1 x2 cl f_m f_w = some out → jW p l e rmX5_parse s m ([.ref r_] : List Value).toArray below meth c D A 6 (MQ below (jQ D (some (.int out.1)) [cTex r_ r_s r_w r_m le out.2.1, cIar cI r_m 12 out.2.2.1, cIar cB r_s 100 f_s, cIar cI r_w 12 out.2.2.2] A) ([.ref r_] : List Value).toArray s 0 0 A) 0 0 9 [(0, .ref r_), (1, .int x1), (2, .int x2)] [] [cTex r_ r_s r_w r_m le cl, cIar cI r_m 12 f_m, cIar cB r_s 100 f_s, cIar cI r_w 12 f_w]) → ∀ (x2 : Int32) (x5 : Int32) (y0 : Int32) (y1 : Int32) (cl : Int32) (f_m : Nat → Int32) (f_w : Nat → Int32), fX5_parse_113 le f_s K_9 x2 x5 y0 y1 cl f_m f_w = some out → jW p l e rmX5_parse s m ([.ref r_] : List Value).toArray below meth c D A 6 (MQ below (jQ D (some (.int out.1)) [cTex r_ r_s r_w r_m le out.2.1, cIar cI r_m 12 out.2.2.1, cIar cB r_s 100 f_s, cIar cI r_w 12 out.2.2.2] A) ([.ref r_] : List Value).toArray s 0 0 A) 0 0 113 [(0, .ref r_), (2, .int x2), (5, .int x5)] [.int y0, .int y1, .ref r_m] [cTex r_ r_s r_w r_m le cl, cIar cI r_m 12 f_m, cIar cB r_s 100 f_s, cIar cI r_w 12 f_w] := by
    intro K_9 hK_9 x2 x5 y0 y1 cl f_m f_w hR
    unfold fX5_parse_113 at hR
    obtain ⟨gv14, hR⟩ := gd_some hR
    obtain ⟨f_mv15, ef_mv15, hR⟩ := lt_some hR
    refine j_iast X (ws2 := [cTex r_ r_s r_w r_m le cl, cIar cI r_m 12 f_mv15, cIar cB r_s 100 f_s, cIar cI r_w 12 f_w]) 1 0 rfl dX5_parse_113 rfl rfl gv14 ef_mv15 rfl ?_
    refine j_aload_n X (q := 0) dX5_parse_114 rfl ?_
    refine j_iload_n X (q := 1) dX5_parse_115 rfl ?_
    refine j_iconst X (v := 1) dX5_parse_116 (by decide) ?_
    refine j_iadd X dX5_parse_117 ?_
    obtain ⟨clv16, eclv16, hR⟩ := lt_some hR
    refine j_put X (ws2 := [cTex r_ r_s r_w r_m le clv16, cIar cI r_m 12 f_mv15, cIar cB r_s 100 f_s, cIar cI r_w 12 f_w]) 0 4 hiX5 tyX5_ok nmX5 k_230 dX5_parse_118 rfl rfl (by decide) (by decide) rfl rfl (Nat.le_of_ble_eq_true rfl) (by subst eclv16; rfl) ?_
    refine j_iload X (q := 2) dX5_parse_121 rfl ?_
    refine j_aload_n X (q := 0) dX5_parse_123 rfl ?_
    refine j_get X 0 1 hiX5 k_224 dX5_parse_124 rfl rfl (by decide) rfl ?_
    refine j_icmp_ne X (tgt := 132) dX5_parse_127 (by decide) (fun cv17 => ?_) (fun cv17 => ?_)
    · replace hR := (if_neg cv17).symm.trans hR
      refine j_aload_n X (q := 0) dX5_parse_132 rfl ?_
      refine j_iload X (q := 2) dX5_parse_133 rfl ?_
      obtain ⟨ov18, hov18, hR⟩ := bd_some hR
      refine j_callV X (As := [.int x5]) (rest := []) (ws2 := [cTex r_ r_s r_w r_m le clv16, cIar cI r_m 12 f_mv15, cIar cB r_s 100 f_s, cIar cI r_w 12 f_w]) (q0 := 0) (ci := 5) (mX5_signAt l D cI cJ cB cT tt r_ r_s r_w r_m hov18) [0, 2] [.inr 0, .inl 1, .inr 1, .inl 3] k_439 k_436 k_438 k_8 rfl rfl k_45 hdX5_signAt (by decide) (Nat.le_of_ble_eq_true rfl) dX5_parse_135 (by decide) rfl rfl (by decide) rfl rfl ?_
      refine j_bipush X (v := 59) dX5_parse_138 (by decide) ?_
      refine j_icmp_eq X (tgt := 146) dX5_parse_140 (by decide) (fun cv19 => ?_) (fun cv19 => ?_)
      · replace hR := (if_pos cv19).symm.trans hR
        refine j_iload X (q := 2) dX5_parse_146 rfl ?_
        refine j_iconst X (v := 1) dX5_parse_148 (by decide) ?_
        refine j_iadd X dX5_parse_149 ?_
        obtain ⟨x1v20, ex1v20, hR⟩ := lt_some hR
        refine j_eq (congrArg (fun z => Value.int z :: _) ex1v20) rfl ?_
        refine j_istore_n X (lv2 := [(1, .int x1v20), (0, .ref r_), (2, .int x2), (5, .int x5)]) dX5_parse_150 (by decide) rfl ?_
        obtain ⟨x2v21, ex2v21, hR⟩ := lt_some hR
        refine j_iinc X (k := 2) (v := x2v21) (lv2 := [(2, .int x2v21), (1, .int x1v20), (0, .ref r_), (5, .int x5)]) dX5_parse_151 rfl (by rw [← ex2v21]; rfl) (by decide) rfl ?_
        refine j_goto X (tgt := 9) dX5_parse_154 (by decide) ?_
        refine j_sub (lv2 := [(0, .ref r_), (1, .int x1v20), (2, .int x2v21)]) [2, 1, 0] rfl ?_
        exact hK_9 _ _ _ _ _ hR
      · replace hR := (if_neg cv19).symm.trans hR
        refine j_iload X (q := 2) dX5_parse_143 rfl ?_
        have hR := Option.some.inj hR
        exact j_iret X hr dX5_parse_145 (by rw [← hR]) (by rw [← hR])
    · replace hR := (if_pos cv17).symm.trans hR
      refine j_iconst X (v := (-1)) dX5_parse_130 (by decide) ?_
      have hR := Option.some.inj hR
      exact j_iret X hr dX5_parse_131 (by rw [← hR]) (by rw [← hR])
  have L_49 : ∀ (K_9 : Int32 → Int32 → Int32 → (Nat → Int32) → (Nat → Int32) → Option (Int32 × Int32 × (Nat → Int32) × (Nat → Int32))), (∀ (x1 : Int32) (x2 : Int32) (cl : Int32) (f_m : Nat → Int32) (f_w : Nat → Int32), K_9 x1 x2 cl f_m f_w = some out → jW p l e rmX5_parse s m ([.ref r_] : List Value).toArray below meth c D A 6 (MQ below (jQ D (some (.int out.1)) [cTex r_ r_s r_w r_m le out.2.1, cIar cI r_m 12 out.2.2.1, cIar cB r_s 100 f_s, cIar cI r_w 12 out.2.2.2] A) ([.ref r_] : List Value).toArray s 0 0 A) 0 0 9 [(0, .ref r_), (1, .int x1), (2, .int x2)] [] [cTex r_ r_s r_w r_m le cl, cIar cI r_m 12 f_m, cIar cB r_s 100 f_s, cIar cI r_w 12 f_w]) → ∀ (x1 : Int32) (x2 : Int32) (x3 : Int32) (y0 : Int32) (cl : Int32) (f_m : Nat → Int32) (f_w : Nat → Int32), fX5_parse_49 le f_s K_9 x1 x2 x3 y0 cl f_m f_w = some out → jW p l e rmX5_parse s m ([.ref r_] : List Value).toArray below meth c D A 6 (MQ below (jQ D (some (.int out.1)) [cTex r_ r_s r_w r_m le out.2.1, cIar cI r_m 12 out.2.2.1, cIar cB r_s 100 f_s, cIar cI r_w 12 out.2.2.2] A) ([.ref r_] : List Value).toArray s 0 0 A) 0 0 49 [(0, .ref r_), (1, .int x1), (2, .int x2), (3, .int x3)] [.int y0] [cTex r_ r_s r_w r_m le cl, cIar cI r_m 12 f_m, cIar cB r_s 100 f_s, cIar cI r_w 12 f_w] := by
    intro K_9 hK_9 x1 x2 x3 y0 cl f_m f_w hR
    unfold fX5_parse_49 at hR
    refine j_istore X (lv2 := [(4, .int y0), (0, .ref r_), (1, .int x1), (2, .int x2), (3, .int x3)]) dX5_parse_49 (by decide) rfl ?_
    refine j_aload_n X (q := 1) dX5_parse_51 rfl ?_
    refine j_iload X (q := 0) dX5_parse_52 rfl ?_
    obtain ⟨ov6, hov6, hR⟩ := bd_some hR
    refine j_callV X (As := [.int y0]) (rest := []) (ws2 := [cTex r_ r_s r_w r_m le cl, cIar cI r_m 12 f_m, cIar cB r_s 100 f_s, cIar cI r_w 12 f_w]) (q0 := 0) (ci := 5) (mX5_digitsEnd l D cI cJ cB cT tt r_ r_s r_w r_m hov6) [0, 2] [.inr 0, .inl 1, .inr 1, .inl 3] k_445 k_442 k_444 k_9 rfl rfl k_45 hdX5_digitsEnd (by decide) (Nat.le_of_ble_eq_true rfl) dX5_parse_54 (by decide) rfl rfl (by decide) rfl rfl ?_
    refine j_istore X (lv2 := [(5, .int ov6), (4, .int y0), (0, .ref r_), (1, .int x1), (2, .int x2), (3, .int x3)]) dX5_parse_57 (by decide) rfl ?_
    refine j_iload X (q := 0) dX5_parse_59 rfl ?_
    refine j_iload X (q := 1) dX5_parse_61 rfl ?_
    refine j_icmp_ne X (tgt := 69) dX5_parse_63 (by decide) (fun cv7 => ?_) (fun cv7 => ?_)
    · replace hR := (if_neg cv7).symm.trans hR
      refine j_aload_n X (q := 2) dX5_parse_69 rfl ?_
      refine j_get X 0 2 hiX5 k_226 dX5_parse_70 rfl rfl (by decide) rfl ?_
      refine j_iload_n X (q := 4) dX5_parse_73 rfl ?_
      refine j_iload_n X (q := 5) dX5_parse_74 rfl ?_
      obtain ⟨gv8, hR⟩ := gd_some hR
      obtain ⟨f_wv9, ef_wv9, hR⟩ := lt_some hR
      refine j_iast X (ws2 := [cTex r_ r_s r_w r_m le cl, cIar cI r_m 12 f_m, cIar cB r_s 100 f_s, cIar cI r_w 12 f_wv9]) 3 0 rfl dX5_parse_75 rfl rfl gv8 ef_wv9 rfl ?_
      refine j_aload_n X (q := 2) dX5_parse_76 rfl ?_
      refine j_get X 0 3 hiX5 k_228 dX5_parse_77 rfl rfl (by decide) rfl ?_
      refine j_iload_n X (q := 4) dX5_parse_80 rfl ?_
      refine j_aload_n X (q := 2) dX5_parse_81 rfl ?_
      refine j_iload_n X (q := 3) dX5_parse_82 rfl ?_
      refine j_iconst X (v := 1) dX5_parse_83 (by decide) ?_
      refine j_iadd X dX5_parse_84 ?_
      obtain ⟨ov10, hov10, hR⟩ := bd_some hR
      refine j_callV X (As := [.int (x1 + 1)]) (rest := [.int x2, .ref r_m]) (ws2 := [cTex r_ r_s r_w r_m le cl, cIar cI r_m 12 f_m, cIar cB r_s 100 f_s, cIar cI r_w 12 f_wv9]) (q0 := 0) (ci := 5) (mX5_signAt l D cI cJ cB cT tt r_ r_s r_w r_m hov10) [0, 2] [.inr 0, .inl 1, .inr 1, .inl 3] k_439 k_436 k_438 k_8 rfl rfl k_45 hdX5_signAt (by decide) (Nat.le_of_ble_eq_true rfl) dX5_parse_85 (by decide) rfl rfl (by decide) rfl rfl ?_
      refine j_bipush X (v := 45) dX5_parse_88 (by decide) ?_
      refine j_icmp_ne X (tgt := 105) dX5_parse_90 (by decide) (fun cv11 => ?_) (fun cv11 => ?_)
      · replace hR := (if_neg cv11).symm.trans hR
        refine j_aload_n X (q := 2) dX5_parse_105 rfl ?_
        refine j_iload X (q := 1) dX5_parse_106 rfl ?_
        refine j_iload X (q := 0) dX5_parse_108 rfl ?_
        obtain ⟨ov12, hov12, hR⟩ := bd_some hR
        refine j_callV X (As := [.int y0, .int ov6]) (rest := [.int x2, .ref r_m]) (ws2 := [cTex r_ r_s r_w r_m le cl, cIar cI r_m 12 f_m, cIar cB r_s 100 f_s, cIar cI r_w 12 f_wv9]) (q0 := 0) (ci := 5) (mX5_number l D cI cJ cB cT tt r_ r_s r_w r_m hov12) [0, 2] [.inr 0, .inl 1, .inr 1, .inl 3] k_450 k_447 k_449 k_10 rfl rfl k_45 hdX5_number (by decide) (Nat.le_of_ble_eq_true rfl) dX5_parse_110 (by decide) rfl rfl (by decide) rfl rfl ?_
        refine j_sub (lv2 := [(0, .ref r_), (2, .int x2), (5, .int ov6)]) [2, 4, 0] rfl ?_
        exact L_113 _ hK_9 _ _ _ _ _ _ _ hR
      · replace hR := (if_pos cv11).symm.trans hR
        refine j_aload_n X (q := 2) dX5_parse_93 rfl ?_
        refine j_iload X (q := 1) dX5_parse_94 rfl ?_
        refine j_iload X (q := 0) dX5_parse_96 rfl ?_
        obtain ⟨ov13, hov13, hR⟩ := bd_some hR
        refine j_callV X (As := [.int y0, .int ov6]) (rest := [.int x2, .ref r_m]) (ws2 := [cTex r_ r_s r_w r_m le cl, cIar cI r_m 12 f_m, cIar cB r_s 100 f_s, cIar cI r_w 12 f_wv9]) (q0 := 0) (ci := 5) (mX5_number l D cI cJ cB cT tt r_ r_s r_w r_m hov13) [0, 2] [.inr 0, .inl 1, .inr 1, .inl 3] k_450 k_447 k_449 k_10 rfl rfl k_45 hdX5_number (by decide) (Nat.le_of_ble_eq_true rfl) dX5_parse_98 (by decide) rfl rfl (by decide) rfl rfl ?_
        refine j_ineg X dX5_parse_101 ?_
        refine j_goto X (tgt := 113) dX5_parse_102 (by decide) ?_
        refine j_sub (lv2 := [(0, .ref r_), (2, .int x2), (5, .int ov6)]) [2, 4, 0] rfl ?_
        exact L_113 _ hK_9 _ _ _ _ _ _ _ hR
    · replace hR := (if_pos cv7).symm.trans hR
      refine j_iload X (q := 0) dX5_parse_66 rfl ?_
      have hR := Option.some.inj hR
      exact j_iret X hr dX5_parse_68 (by rw [← hR]) (by rw [← hR])
  have L_9 : ∀ (fuel : Nat) (x1 : Int32) (x2 : Int32) (cl : Int32) (f_m : Nat → Int32) (f_w : Nat → Int32), fX5_parse_9 le f_s  fuel x1 x2 cl f_m f_w = some out → jW p l e rmX5_parse s m ([.ref r_] : List Value).toArray below meth c D A 6 (MQ below (jQ D (some (.int out.1)) [cTex r_ r_s r_w r_m le out.2.1, cIar cI r_m 12 out.2.2.1, cIar cB r_s 100 f_s, cIar cI r_w 12 out.2.2.2] A) ([.ref r_] : List Value).toArray s 0 0 A) 0 0 9 [(0, .ref r_), (1, .int x1), (2, .int x2)] [] [cTex r_ r_s r_w r_m le cl, cIar cI r_m 12 f_m, cIar cB r_s 100 f_s, cIar cI r_w 12 f_w] := by
    intro  fuel
    induction fuel with
    | zero =>
      intro x1 x2 cl f_m f_w hR
      rw [fX5_parse_9] at hR
      cases hR
    | succ fu ih =>
      intro x1 x2 cl f_m f_w hR
      rw [fX5_parse_9] at hR
      refine j_iload_n X (q := 2) dX5_parse_9 rfl ?_
      refine j_bipush X (v := 12) dX5_parse_10 (by decide) ?_
      refine j_icmp_ge X (tgt := 157) dX5_parse_12 (by decide) (fun cv1 => ?_) (fun cv1 => ?_)
      · replace hR := (if_pos cv1).symm.trans hR
        refine j_iload_n X (q := 1) dX5_parse_157 rfl ?_
        refine j_iconst X (v := 1) dX5_parse_158 (by decide) ?_
        refine j_isub X dX5_parse_159 ?_
        have hR := Option.some.inj hR
        exact j_iret X hr dX5_parse_160 (by rw [← hR]) (by rw [← hR])
      · replace hR := (if_neg cv1).symm.trans hR
        refine j_aload_n X (q := 0) dX5_parse_15 rfl ?_
        refine j_iload_n X (q := 1) dX5_parse_16 rfl ?_
        obtain ⟨ov2, hov2, hR⟩ := bd_some hR
        refine j_callV X (As := [.int x1]) (rest := []) (ws2 := [cTex r_ r_s r_w r_m le cl, cIar cI r_m 12 f_m, cIar cB r_s 100 f_s, cIar cI r_w 12 f_w]) (q0 := 0) (ci := 5) (mX5_letterAt l D cI cJ cB cT tt r_ r_s r_w r_m hov2) [0, 2] [.inr 0, .inl 1, .inr 1, .inl 3] k_435 k_432 k_434 k_7 rfl rfl k_45 hdX5_letterAt (by decide) (Nat.le_of_ble_eq_true rfl) dX5_parse_17 (by decide) rfl rfl (by decide) rfl rfl ?_
        refine j_istore_n X (lv2 := [(3, .int ov2), (0, .ref r_), (1, .int x1), (2, .int x2)]) dX5_parse_20 (by decide) rfl ?_
        refine j_iload_n X (q := 0) dX5_parse_21 rfl ?_
        refine j_iconst X (v := (-1)) dX5_parse_22 (by decide) ?_
        refine j_icmp_ne X (tgt := 28) dX5_parse_23 (by decide) (fun cv3 => ?_) (fun cv3 => ?_)
        · replace hR := (if_neg cv3).symm.trans hR
          refine j_aload_n X (q := 1) dX5_parse_28 rfl ?_
          refine j_iload_n X (q := 2) dX5_parse_29 rfl ?_
          refine j_iconst X (v := 1) dX5_parse_30 (by decide) ?_
          refine j_iadd X dX5_parse_31 ?_
          obtain ⟨ov4, hov4, hR⟩ := bd_some hR
          refine j_callV X (As := [.int (x1 + 1)]) (rest := []) (ws2 := [cTex r_ r_s r_w r_m le cl, cIar cI r_m 12 f_m, cIar cB r_s 100 f_s, cIar cI r_w 12 f_w]) (q0 := 0) (ci := 5) (mX5_signAt l D cI cJ cB cT tt r_ r_s r_w r_m hov4) [0, 2] [.inr 0, .inl 1, .inr 1, .inl 3] k_439 k_436 k_438 k_8 rfl rfl k_45 hdX5_signAt (by decide) (Nat.le_of_ble_eq_true rfl) dX5_parse_32 (by decide) rfl rfl (by decide) rfl rfl ?_
          refine j_bipush X (v := 45) dX5_parse_35 (by decide) ?_
          refine j_icmp_ne X (tgt := 46) dX5_parse_37 (by decide) (fun cv5 => ?_) (fun cv5 => ?_)
          · replace hR := (if_neg cv5).symm.trans hR
            refine j_iload_n X (q := 2) dX5_parse_46 rfl ?_
            refine j_iconst X (v := 1) dX5_parse_47 (by decide) ?_
            refine j_iadd X dX5_parse_48 ?_
            refine j_sub (lv2 := [(0, .ref r_), (1, .int x1), (2, .int x2), (3, .int ov2)]) [1, 2, 3, 0] rfl ?_
            exact L_49 _ ih _ _ _ _ _ _ _ hR
          · replace hR := (if_pos cv5).symm.trans hR
            refine j_iload_n X (q := 2) dX5_parse_40 rfl ?_
            refine j_iconst X (v := 2) dX5_parse_41 (by decide) ?_
            refine j_iadd X dX5_parse_42 ?_
            refine j_goto X (tgt := 49) dX5_parse_43 (by decide) ?_
            refine j_sub (lv2 := [(0, .ref r_), (1, .int x1), (2, .int x2), (3, .int ov2)]) [1, 2, 3, 0] rfl ?_
            exact L_49 _ ih _ _ _ _ _ _ _ hR
        · replace hR := (if_pos cv3).symm.trans hR
          refine j_iload_n X (q := 2) dX5_parse_26 rfl ?_
          have hR := Option.some.inj hR
          exact j_iret X hr dX5_parse_27 (by rw [← hR]) (by rw [← hR])
  refine j_sub (lv2 := [(0, .ref r_)]) [0] rfl ?_
  have hR := h
  unfold fX5_parse at hR
  refine j_aload_n X (q := 0) dX5_parse_0 rfl ?_
  refine j_iconst X (v := 0) dX5_parse_1 (by decide) ?_
  refine j_put X (ws2 := [cTex r_ r_s r_w r_m le 0, cIar cI r_m 12 f_m, cIar cB r_s 100 f_s, cIar cI r_w 12 f_w]) 0 4 hiX5 tyX5_ok nmX5 k_230 dX5_parse_2 rfl rfl (by decide) (by decide) rfl rfl (Nat.le_of_ble_eq_true rfl) rfl ?_
  refine j_iconst X (v := 0) dX5_parse_5 (by decide) ?_
  refine j_istore_n X (lv2 := [(1, .int 0), (0, .ref r_)]) dX5_parse_6 (by decide) rfl ?_
  refine j_iconst X (v := 0) dX5_parse_7 (by decide) ?_
  refine j_istore_n X (lv2 := [(2, .int 0), (1, .int 0), (0, .ref r_)]) dX5_parse_8 (by decide) rfl ?_
  refine j_sub (lv2 := [(0, .ref r_), (1, .int 0), (2, .int 0)]) [2, 1, 0] rfl ?_
  exact L_9 _ _ _ _ _ _ hR

def rmX6_add : Room := { frames := 0, cells := 0, slots := 0, locals := 0 }
theorem hdX6_add : yX6_add.cls ≠ "java/lang/invoke/MethodHandle" ∧ yX6_add.cls ≠ "java/lang/invoke/VarHandle" ∧ (parseMethodDescriptor yX6_add.desc).map (fun d => d.parameters.length) = some 1 := by decide +kernel
def fX6_add (i1 : Int32) (k : Int32) (f_f : Nat → Int32) : Option (Int32 × (Nat → Int32)) :=
  if k < 0 then (some (k, f_f)) else (if (4 : Int32) ≤ k then (some (k, f_f)) else (gd (inb k 4) (lt' (upd f_f k.toNatClampNeg i1) fun f_fv4 =>
  lt' (k + 1) fun kv5 =>
  some (kv5, f_fv4))))
set_option maxHeartbeats 8000000 in
set_option maxRecDepth 100000 in
theorem mX6_add (l : Launch) (D : va_G) (cI cJ cB cT : ClassId) (tt : Nat → Nat) (r_ r_f : Nat) {i1 : Int32} {k : Int32} {f_f : Nat → Int32} {out : Int32 × (Nat → Int32)} (h : fX6_add i1 k f_f = some out) :
    jM l yX6_add (.code yX6_add cX6_add 2 none) rmX6_add D (wTy cI cJ cB cT) tt [.ref r_, .int i1] [cTra r_ r_f k, cIar cI r_f 4 f_f] (none) [cTra r_ r_f out.1, cIar cI r_f 4 out.2] := by
  refine jM.of (by decide) (Nat.le_of_ble_eq_true rfl) ?_
  intro p e s m below meth c A X hr
  refine j_sub (lv2 := [(0, .ref r_), (1, .int i1)]) [0, 1] rfl ?_
  have hR := h
  unfold fX6_add at hR
  refine j_aload_n X (q := 0) dX6_add_0 rfl ?_
  refine j_get X 0 1 hiX6 k_158 dX6_add_1 rfl rfl (by decide) rfl ?_
  refine j_if_lt X (tgt := 39) dX6_add_4 (by decide) (fun cv1 => ?_) (fun cv1 => ?_)
  · replace hR := (if_pos cv1).symm.trans hR
    have hR := Option.some.inj hR
    exact j_vret X hr dX6_add_39 rfl (by rw [← hR])
  · replace hR := (if_neg cv1).symm.trans hR
    refine j_aload_n X (q := 0) dX6_add_7 rfl ?_
    refine j_get X 0 1 hiX6 k_158 dX6_add_8 rfl rfl (by decide) rfl ?_
    refine j_aload_n X (q := 0) dX6_add_11 rfl ?_
    refine j_get X 0 0 hiX6 k_157 dX6_add_12 rfl rfl (by decide) rfl ?_
    refine j_alen X (v := 4) 1 0 dX6_add_15 rfl rfl rfl ?_
    refine j_icmp_ge X (tgt := 39) dX6_add_16 (by decide) (fun cv2 => ?_) (fun cv2 => ?_)
    · replace hR := (if_pos cv2).symm.trans hR
      have hR := Option.some.inj hR
      exact j_vret X hr dX6_add_39 rfl (by rw [← hR])
    · replace hR := (if_neg cv2).symm.trans hR
      refine j_aload_n X (q := 0) dX6_add_19 rfl ?_
      refine j_get X 0 0 hiX6 k_157 dX6_add_20 rfl rfl (by decide) rfl ?_
      refine j_aload_n X (q := 0) dX6_add_23 rfl ?_
      refine j_get X 0 1 hiX6 k_158 dX6_add_24 rfl rfl (by decide) rfl ?_
      refine j_iload_n X (q := 1) dX6_add_27 rfl ?_
      obtain ⟨gv3, hR⟩ := gd_some hR
      obtain ⟨f_fv4, ef_fv4, hR⟩ := lt_some hR
      refine j_iast X (ws2 := [cTra r_ r_f k, cIar cI r_f 4 f_fv4]) 1 0 rfl dX6_add_28 rfl rfl gv3 ef_fv4 rfl ?_
      refine j_aload_n X (q := 0) dX6_add_29 rfl ?_
      refine j_dup X dX6_add_30 rfl ?_
      refine j_get X 0 1 hiX6 k_158 dX6_add_31 rfl rfl (by decide) rfl ?_
      refine j_iconst X (v := 1) dX6_add_34 (by decide) ?_
      refine j_iadd X dX6_add_35 ?_
      obtain ⟨kv5, ekv5, hR⟩ := lt_some hR
      refine j_put X (ws2 := [cTra r_ r_f kv5, cIar cI r_f 4 f_fv4]) 0 1 hiX6 tyX6_ok nmX6 k_158 dX6_add_36 rfl rfl (by decide) (by decide) rfl rfl (Nat.le_of_ble_eq_true rfl) (by subst ekv5; rfl) ?_
      have hR := Option.some.inj hR
      exact j_vret X hr dX6_add_39 rfl (by rw [← hR])

def rmX6_beatsOfOneTurn : Room := { frames := 0, cells := 0, slots := 0, locals := 0 }
theorem hdX6_beatsOfOneTurn : yX6_beatsOfOneTurn.cls ≠ "java/lang/invoke/MethodHandle" ∧ yX6_beatsOfOneTurn.cls ≠ "java/lang/invoke/VarHandle" ∧ (parseMethodDescriptor yX6_beatsOfOneTurn.desc).map (fun d => d.parameters.length) = some 1 := by decide +kernel
def fX6_beatsOfOneTurn_7 (i1 : Int32) (k : Int32) (f_f : Nat → Int32) : Nat → Int64 → Int32 → Option (Int64)
  | 0, _, _ => none
  | fu + 1, x2, x4 =>
    if i1 < x4 then (some x2) else (if (4 : Int32) ≤ x4 then (some x2) else (gd (inb x4 4) (lt' (x2 * ((f_f x4.toNatClampNeg).toInt64)) fun x2v4 =>
  lt' (x4 + 1) fun x4v5 =>
  fX6_beatsOfOneTurn_7 i1 k f_f fu x2v4 x4v5)))
def fX6_beatsOfOneTurn (i1 : Int32) (k : Int32) (f_f : Nat → Int32) : Option (Int64) :=
  fX6_beatsOfOneTurn_7 i1 k f_f 500 2 0
set_option maxHeartbeats 8000000 in
set_option maxRecDepth 100000 in
theorem mX6_beatsOfOneTurn (l : Launch) (D : va_G) (cI cJ cB cT : ClassId) (tt : Nat → Nat) (r_ r_f : Nat) {i1 : Int32} {k : Int32} {f_f : Nat → Int32} {out : Int64} (h : fX6_beatsOfOneTurn i1 k f_f = some out) :
    jM l yX6_beatsOfOneTurn (.code yX6_beatsOfOneTurn cX6_beatsOfOneTurn 5 (some .long)) rmX6_beatsOfOneTurn D (wTy cI cJ cB cT) tt [.ref r_, .int i1] [cTra r_ r_f k, cIar cI r_f 4 f_f] (some (.long out)) [cTra r_ r_f k, cIar cI r_f 4 f_f] := by
  refine jM.of (by decide) (Nat.le_of_ble_eq_true rfl) ?_
  intro p e s m below meth c A X hr
  have L_7 : ∀ (fuel : Nat) (x2 : Int64) (x4 : Int32), fX6_beatsOfOneTurn_7 i1 k f_f  fuel x2 x4 = some out → jW p l e rmX6_beatsOfOneTurn s m ([.ref r_, .int i1] : List Value).toArray below meth c D A 5 (MQ below (jQ D (some (.long out)) [cTra r_ r_f k, cIar cI r_f 4 f_f] A) ([.ref r_, .int i1] : List Value).toArray s 0 0 A) 0 0 7 [(0, .ref r_), (1, .int i1), (2, .long x2), (4, .int x4)] [] [cTra r_ r_f k, cIar cI r_f 4 f_f] := by
    intro  fuel
    induction fuel with
    | zero =>
      intro x2 x4 hR
      rw [fX6_beatsOfOneTurn_7] at hR
      cases hR
    | succ fu ih =>
      intro x2 x4 hR
      rw [fX6_beatsOfOneTurn_7] at hR
      refine j_iload X (q := 3) dX6_beatsOfOneTurn_7 rfl ?_
      refine j_iload_n X (q := 1) dX6_beatsOfOneTurn_9 rfl ?_
      refine j_icmp_gt X (tgt := 40) dX6_beatsOfOneTurn_10 (by decide) (fun cv1 => ?_) (fun cv1 => ?_)
      · replace hR := (if_pos cv1).symm.trans hR
        refine j_lload_n X (q := 2) dX6_beatsOfOneTurn_40 rfl ?_
        have hR := Option.some.inj hR
        exact j_lret X hr dX6_beatsOfOneTurn_41 (by rw [← hR]) rfl
      · replace hR := (if_neg cv1).symm.trans hR
        refine j_iload X (q := 3) dX6_beatsOfOneTurn_13 rfl ?_
        refine j_aload_n X (q := 0) dX6_beatsOfOneTurn_15 rfl ?_
        refine j_get X 0 0 hiX6 k_157 dX6_beatsOfOneTurn_16 rfl rfl (by decide) rfl ?_
        refine j_alen X (v := 4) 1 0 dX6_beatsOfOneTurn_19 rfl rfl rfl ?_
        refine j_icmp_ge X (tgt := 40) dX6_beatsOfOneTurn_20 (by decide) (fun cv2 => ?_) (fun cv2 => ?_)
        · replace hR := (if_pos cv2).symm.trans hR
          refine j_lload_n X (q := 2) dX6_beatsOfOneTurn_40 rfl ?_
          have hR := Option.some.inj hR
          exact j_lret X hr dX6_beatsOfOneTurn_41 (by rw [← hR]) rfl
        · replace hR := (if_neg cv2).symm.trans hR
          refine j_lload_n X (q := 2) dX6_beatsOfOneTurn_23 rfl ?_
          refine j_aload_n X (q := 0) dX6_beatsOfOneTurn_24 rfl ?_
          refine j_get X 0 0 hiX6 k_157 dX6_beatsOfOneTurn_25 rfl rfl (by decide) rfl ?_
          refine j_iload X (q := 3) dX6_beatsOfOneTurn_28 rfl ?_
          obtain ⟨gv3, hR⟩ := gd_some hR
          refine j_iald X 1 0 rfl dX6_beatsOfOneTurn_30 rfl rfl gv3 ?_
          refine j_i2l X dX6_beatsOfOneTurn_31 ?_
          refine j_lmul X dX6_beatsOfOneTurn_32 ?_
          obtain ⟨x2v4, ex2v4, hR⟩ := lt_some hR
          refine j_eq (congrArg (fun z => Value.long z :: _) ex2v4) rfl ?_
          refine j_lstore_n X (lv2 := [(2, .long x2v4), (0, .ref r_), (1, .int i1), (4, .int x4)]) dX6_beatsOfOneTurn_33 (by decide) rfl ?_
          obtain ⟨x4v5, ex4v5, hR⟩ := lt_some hR
          refine j_iinc X (k := 3) (v := x4v5) (lv2 := [(4, .int x4v5), (2, .long x2v4), (0, .ref r_), (1, .int i1)]) dX6_beatsOfOneTurn_34 rfl (by rw [← ex4v5]; rfl) (by decide) rfl ?_
          refine j_goto X (tgt := 7) dX6_beatsOfOneTurn_37 (by decide) ?_
          refine j_sub (lv2 := [(0, .ref r_), (1, .int i1), (2, .long x2v4), (4, .int x4v5)]) [2, 3, 1, 0] rfl ?_
          exact ih _ _ hR
  refine j_sub (lv2 := [(0, .ref r_), (1, .int i1)]) [0, 1] rfl ?_
  have hR := h
  unfold fX6_beatsOfOneTurn at hR
  refine j_ldc2 X k_404 dX6_beatsOfOneTurn_0 ?_
  refine j_lstore_n X (lv2 := [(2, .long 2), (0, .ref r_), (1, .int i1)]) dX6_beatsOfOneTurn_3 (by decide) rfl ?_
  refine j_iconst X (v := 0) dX6_beatsOfOneTurn_4 (by decide) ?_
  refine j_istore X (lv2 := [(4, .int 0), (2, .long 2), (0, .ref r_), (1, .int i1)]) dX6_beatsOfOneTurn_5 (by decide) rfl ?_
  refine j_sub (lv2 := [(0, .ref r_), (1, .int i1), (2, .long 2), (4, .int 0)]) [2, 3, 1, 0] rfl ?_
  exact L_7 _ _ _ hR

def rmX6_copy : Room := { frames := 0, cells := 0, slots := 0, locals := 0 }
theorem hdX6_copy : yX6_copy.cls ≠ "java/lang/invoke/MethodHandle" ∧ yX6_copy.cls ≠ "java/lang/invoke/VarHandle" ∧ (parseMethodDescriptor yX6_copy.desc).map (fun d => d.parameters.length) = some 1 := by decide +kernel
def fX6_copy_10 (k_1 : Int32) (f_1f : Nat → Int32) : Nat → Int32 → Int32 → (Nat → Int32) → Option (Int32 × (Nat → Int32))
  | 0, _, _, _ => none
  | fu + 1, x2, k, f_f =>
    if (4 : Int32) ≤ x2 then (some (k, f_f)) else (if (4 : Int32) ≤ x2 then (some (k, f_f)) else (gd (inb x2 4) (gd (inb x2 4) (lt' (upd f_f x2.toNatClampNeg (f_1f x2.toNatClampNeg)) fun f_fv5 =>
  lt' (x2 + 1) fun x2v6 =>
  fX6_copy_10 k_1 f_1f fu x2v6 k f_fv5))))
def fX6_copy (k : Int32) (k_1 : Int32) (f_f : Nat → Int32) (f_1f : Nat → Int32) : Option (Int32 × (Nat → Int32)) :=
  fX6_copy_10 k_1 f_1f 500 0 k_1 f_f
set_option maxHeartbeats 8000000 in
set_option maxRecDepth 100000 in
theorem mX6_copy (l : Launch) (D : va_G) (cI cJ cB cT : ClassId) (tt : Nat → Nat) (r_ r_f r_1 r_1f : Nat)  {k : Int32} {k_1 : Int32} {f_f : Nat → Int32} {f_1f : Nat → Int32} {out : Int32 × (Nat → Int32)} (h : fX6_copy k k_1 f_f f_1f = some out) :
    jM l yX6_copy (.code yX6_copy cX6_copy 3 none) rmX6_copy D (wTy cI cJ cB cT) tt [.ref r_, .ref r_1] [cTra r_ r_f k, cTra r_1 r_1f k_1, cIar cI r_f 4 f_f, cIar cI r_1f 4 f_1f] (none) [cTra r_ r_f out.1, cTra r_1 r_1f k_1, cIar cI r_f 4 out.2, cIar cI r_1f 4 f_1f] := by
  refine jM.of (by decide) (Nat.le_of_ble_eq_true rfl) ?_
  intro p e s m below meth c A X hr
  have L_10 : ∀ (fuel : Nat) (x2 : Int32) (k : Int32) (f_f : Nat → Int32), fX6_copy_10 k_1 f_1f  fuel x2 k f_f = some out → jW p l e rmX6_copy s m ([.ref r_, .ref r_1] : List Value).toArray below meth c D A 3 (MQ below (jQ D (none) [cTra r_ r_f out.1, cTra r_1 r_1f k_1, cIar cI r_f 4 out.2, cIar cI r_1f 4 f_1f] A) ([.ref r_, .ref r_1] : List Value).toArray s 0 0 A) 0 0 10 [(0, .ref r_), (1, .ref r_1), (2, .int x2)] [] [cTra r_ r_f k, cTra r_1 r_1f k_1, cIar cI r_f 4 f_f, cIar cI r_1f 4 f_1f] := by
    intro  fuel
    induction fuel with
    | zero =>
      intro x2 k f_f hR
      rw [fX6_copy_10] at hR
      cases hR
    | succ fu ih =>
      intro x2 k f_f hR
      rw [fX6_copy_10] at hR
      refine j_iload_n X (q := 2) dX6_copy_10 rfl ?_
      refine j_aload_n X (q := 0) dX6_copy_11 rfl ?_
      refine j_get X 0 0 hiX6 k_157 dX6_copy_12 rfl rfl (by decide) rfl ?_
      refine j_alen X (v := 4) 2 0 dX6_copy_15 rfl rfl rfl ?_
      refine j_icmp_ge X (tgt := 46) dX6_copy_16 (by decide) (fun cv1 => ?_) (fun cv1 => ?_)
      · replace hR := (if_pos cv1).symm.trans hR
        have hR := Option.some.inj hR
        exact j_vret X hr dX6_copy_46 rfl (by rw [← hR])
      · replace hR := (if_neg cv1).symm.trans hR
        refine j_iload_n X (q := 2) dX6_copy_19 rfl ?_
        refine j_aload_n X (q := 1) dX6_copy_20 rfl ?_
        refine j_get X 1 0 hiX6 k_157 dX6_copy_21 rfl rfl (by decide) rfl ?_
        refine j_alen X (v := 4) 3 0 dX6_copy_24 rfl rfl rfl ?_
        refine j_icmp_ge X (tgt := 46) dX6_copy_25 (by decide) (fun cv2 => ?_) (fun cv2 => ?_)
        · replace hR := (if_pos cv2).symm.trans hR
          have hR := Option.some.inj hR
          exact j_vret X hr dX6_copy_46 rfl (by rw [← hR])
        · replace hR := (if_neg cv2).symm.trans hR
          refine j_aload_n X (q := 0) dX6_copy_28 rfl ?_
          refine j_get X 0 0 hiX6 k_157 dX6_copy_29 rfl rfl (by decide) rfl ?_
          refine j_iload_n X (q := 2) dX6_copy_32 rfl ?_
          refine j_aload_n X (q := 1) dX6_copy_33 rfl ?_
          refine j_get X 1 0 hiX6 k_157 dX6_copy_34 rfl rfl (by decide) rfl ?_
          refine j_iload_n X (q := 2) dX6_copy_37 rfl ?_
          obtain ⟨gv3, hR⟩ := gd_some hR
          refine j_iald X 3 0 rfl dX6_copy_38 rfl rfl gv3 ?_
          obtain ⟨gv4, hR⟩ := gd_some hR
          obtain ⟨f_fv5, ef_fv5, hR⟩ := lt_some hR
          refine j_iast X (ws2 := [cTra r_ r_f k, cTra r_1 r_1f k_1, cIar cI r_f 4 f_fv5, cIar cI r_1f 4 f_1f]) 2 0 rfl dX6_copy_39 rfl rfl gv4 ef_fv5 rfl ?_
          obtain ⟨x2v6, ex2v6, hR⟩ := lt_some hR
          refine j_iinc X (k := 2) (v := x2v6) (lv2 := [(2, .int x2v6), (0, .ref r_), (1, .ref r_1)]) dX6_copy_40 rfl (by rw [← ex2v6]; rfl) (by decide) rfl ?_
          refine j_goto X (tgt := 10) dX6_copy_43 (by decide) ?_
          refine j_sub (lv2 := [(0, .ref r_), (1, .ref r_1), (2, .int x2v6)]) [1, 2, 0] rfl ?_
          exact ih _ _ _ hR
  refine j_sub (lv2 := [(0, .ref r_), (1, .ref r_1)]) [0, 1] rfl ?_
  have hR := h
  unfold fX6_copy at hR
  refine j_aload_n X (q := 0) dX6_copy_0 rfl ?_
  refine j_aload_n X (q := 1) dX6_copy_1 rfl ?_
  refine j_get X 1 1 hiX6 k_158 dX6_copy_2 rfl rfl (by decide) rfl ?_
  refine j_put X (ws2 := [cTra r_ r_f k_1, cTra r_1 r_1f k_1, cIar cI r_f 4 f_f, cIar cI r_1f 4 f_1f]) 0 1 hiX6 tyX6_ok nmX6 k_158 dX6_copy_5 rfl rfl (by decide) (by decide) rfl rfl (Nat.le_of_ble_eq_true rfl) rfl ?_
  refine j_iconst X (v := 0) dX6_copy_8 (by decide) ?_
  refine j_istore_n X (lv2 := [(2, .int 0), (0, .ref r_), (1, .ref r_1)]) dX6_copy_9 (by decide) rfl ?_
  refine j_sub (lv2 := [(0, .ref r_), (1, .ref r_1), (2, .int 0)]) [1, 2, 0] rfl ?_
  exact L_10 _ _ _ _ hR

def rmX7_copy : Room := { frames := 2, cells := 0, slots := 0, locals := 44 }
theorem hdX7_copy : yX7_copy.cls ≠ "java/lang/invoke/MethodHandle" ∧ yX7_copy.cls ≠ "java/lang/invoke/VarHandle" ∧ (parseMethodDescriptor yX7_copy.desc).map (fun d => d.parameters.length) = some 1 := by decide +kernel
def fX7_copy (b_B : Nat → Int32) (se_B : Int64) (z_B : Int32) (k_K : Int32) (k_S : Int32) (k_T : Int32) (b_1B : Nat → Int32) (se_1B : Int64) (z_1B : Int32) (k_1K : Int32) (k_1S : Int32) (k_1T : Int32) (f_BA : Nat → Int64) (k_BP : Int32) (f_Kf : Nat → Int32) (f_Ks : Nat → Int32) (f_Sf : Nat → Int32) (f_Ss : Nat → Int32) (f_Tf : Nat → Int32) (f_1BA : Nat → Int64) (k_1BP : Int32) (f_1Kf : Nat → Int32) (f_1Ks : Nat → Int32) (f_1Sf : Nat → Int32) (f_1Ss : Nat → Int32) (f_1Tf : Nat → Int32) (f_BPs : Nat → Int32) (f_BPt : Nat → Int32) (f_BPw : Nat → Int32) (f_1BPs : Nat → Int32) (f_1BPt : Nat → Int32) (f_1BPw : Nat → Int32) : Option ((Nat → Int32) × Int64 × Int32 × Int32 × Int32 × (Nat → Int64) × Int32 × (Nat → Int32) × (Nat → Int32) × (Nat → Int32) × (Nat → Int32) × (Nat → Int32) × (Nat → Int32) × (Nat → Int32) × (Nat → Int32)) :=
  (fX0_copy b_B se_B z_B b_1B se_1B z_1B f_BA k_BP f_1BA k_1BP f_BPs f_BPt f_BPw f_1BPs f_1BPt f_1BPw).bind fun ov1 =>
  (fX6_copy k_T k_1T f_Tf f_1Tf).bind fun ov2 =>
  (fX3_copy k_S k_1S f_Sf f_Ss f_1Sf f_1Ss).bind fun ov3 =>
  (fX3_copy k_K k_1K f_Kf f_Ks f_1Kf f_1Ks).bind fun ov4 =>
  some (ov1.1, ov1.2.1, ov4.1, ov3.1, ov2.1, ov1.2.2.1, ov1.2.2.2.1, ov4.2.1, ov4.2.2, ov3.2.1, ov3.2.2, ov2.2, ov1.2.2.2.2.1, ov1.2.2.2.2.2.1, ov1.2.2.2.2.2.2)
set_option maxHeartbeats 8000000 in
set_option maxRecDepth 100000 in
theorem mX7_copy (l : Launch) (D : va_G) (cI cJ cB cT : ClassId) (tt : Nat → Nat) (r_ r_B r_T r_S r_K r_1 r_1B r_1T r_1S r_1K r_BP r_BA r_Kf r_Ks r_Sf r_Ss r_Tf r_1BP r_1BA r_1Kf r_1Ks r_1Sf r_1Ss r_1Tf r_BPt r_BPw r_BPs r_1BPt r_1BPw r_1BPs : Nat)  {b_B : Nat → Int32} {se_B : Int64} {z_B : Int32} {k_K : Int32} {k_S : Int32} {k_T : Int32} {b_1B : Nat → Int32} {se_1B : Int64} {z_1B : Int32} {k_1K : Int32} {k_1S : Int32} {k_1T : Int32} {f_BA : Nat → Int64} {k_BP : Int32} {f_Kf : Nat → Int32} {f_Ks : Nat → Int32} {f_Sf : Nat → Int32} {f_Ss : Nat → Int32} {f_Tf : Nat → Int32} {f_1BA : Nat → Int64} {k_1BP : Int32} {f_1Kf : Nat → Int32} {f_1Ks : Nat → Int32} {f_1Sf : Nat → Int32} {f_1Ss : Nat → Int32} {f_1Tf : Nat → Int32} {f_BPs : Nat → Int32} {f_BPt : Nat → Int32} {f_BPw : Nat → Int32} {f_1BPs : Nat → Int32} {f_1BPt : Nat → Int32} {f_1BPw : Nat → Int32} {out : (Nat → Int32) × Int64 × Int32 × Int32 × Int32 × (Nat → Int64) × Int32 × (Nat → Int32) × (Nat → Int32) × (Nat → Int32) × (Nat → Int32) × (Nat → Int32) × (Nat → Int32) × (Nat → Int32) × (Nat → Int32)} (h : fX7_copy b_B se_B z_B k_K k_S k_T b_1B se_1B z_1B k_1K k_1S k_1T f_BA k_BP f_Kf f_Ks f_Sf f_Ss f_Tf f_1BA k_1BP f_1Kf f_1Ks f_1Sf f_1Ss f_1Tf f_BPs f_BPt f_BPw f_1BPs f_1BPt f_1BPw = some out) :
    jM l yX7_copy (.code yX7_copy cX7_copy 2 none) rmX7_copy D (wTy cI cJ cB cT) tt [.ref r_, .ref r_1] [cWho r_ r_B r_T r_S r_K, cWho r_1 r_1B r_1T r_1S r_1K, cBal r_B r_BP r_BA b_B se_B z_B, cRow r_K r_Kf r_Ks k_K, cRow r_S r_Sf r_Ss k_S, cTra r_T r_Tf k_T, cBal r_1B r_1BP r_1BA b_1B se_1B z_1B, cRow r_1K r_1Kf r_1Ks k_1K, cRow r_1S r_1Sf r_1Ss k_1S, cTra r_1T r_1Tf k_1T, cJar cJ r_BA 4 f_BA, cPus r_BP r_BPt r_BPw r_BPs k_BP, cIar cI r_Kf 8 f_Kf, cIar cI r_Ks 8 f_Ks, cIar cI r_Sf 8 f_Sf, cIar cI r_Ss 8 f_Ss, cIar cI r_Tf 4 f_Tf, cJar cJ r_1BA 4 f_1BA, cPus r_1BP r_1BPt r_1BPw r_1BPs k_1BP, cIar cI r_1Kf 8 f_1Kf, cIar cI r_1Ks 8 f_1Ks, cIar cI r_1Sf 8 f_1Sf, cIar cI r_1Ss 8 f_1Ss, cIar cI r_1Tf 4 f_1Tf, cIar cI r_BPs 8 f_BPs, cIar cI r_BPt 8 f_BPt, cIar cI r_BPw 8 f_BPw, cIar cI r_1BPs 8 f_1BPs, cIar cI r_1BPt 8 f_1BPt, cIar cI r_1BPw 8 f_1BPw] (none) [cWho r_ r_B r_T r_S r_K, cWho r_1 r_1B r_1T r_1S r_1K, cBal r_B r_BP r_BA out.1 out.2.1 z_B, cRow r_K r_Kf r_Ks out.2.2.1, cRow r_S r_Sf r_Ss out.2.2.2.1, cTra r_T r_Tf out.2.2.2.2.1, cBal r_1B r_1BP r_1BA b_1B se_1B z_1B, cRow r_1K r_1Kf r_1Ks k_1K, cRow r_1S r_1Sf r_1Ss k_1S, cTra r_1T r_1Tf k_1T, cJar cJ r_BA 4 out.2.2.2.2.2.1, cPus r_BP r_BPt r_BPw r_BPs out.2.2.2.2.2.2.1, cIar cI r_Kf 8 out.2.2.2.2.2.2.2.1, cIar cI r_Ks 8 out.2.2.2.2.2.2.2.2.1, cIar cI r_Sf 8 out.2.2.2.2.2.2.2.2.2.1, cIar cI r_Ss 8 out.2.2.2.2.2.2.2.2.2.2.1, cIar cI r_Tf 4 out.2.2.2.2.2.2.2.2.2.2.2.1, cJar cJ r_1BA 4 f_1BA, cPus r_1BP r_1BPt r_1BPw r_1BPs k_1BP, cIar cI r_1Kf 8 f_1Kf, cIar cI r_1Ks 8 f_1Ks, cIar cI r_1Sf 8 f_1Sf, cIar cI r_1Ss 8 f_1Ss, cIar cI r_1Tf 4 f_1Tf, cIar cI r_BPs 8 out.2.2.2.2.2.2.2.2.2.2.2.2.1, cIar cI r_BPt 8 out.2.2.2.2.2.2.2.2.2.2.2.2.2.1, cIar cI r_BPw 8 out.2.2.2.2.2.2.2.2.2.2.2.2.2.2, cIar cI r_1BPs 8 f_1BPs, cIar cI r_1BPt 8 f_1BPt, cIar cI r_1BPw 8 f_1BPw] := by
  refine jM.of (by decide) (Nat.le_of_ble_eq_true rfl) ?_
  intro p e s m below meth c A X hr
  refine j_sub (lv2 := [(0, .ref r_), (1, .ref r_1)]) [0, 1] rfl ?_
  have hR := h
  unfold fX7_copy at hR
  refine j_aload_n X (q := 0) dX7_copy_0 rfl ?_
  refine j_get X 0 0 hiX7 k_184 dX7_copy_1 rfl rfl (by decide) rfl ?_
  refine j_aload_n X (q := 1) dX7_copy_4 rfl ?_
  refine j_get X 1 0 hiX7 k_184 dX7_copy_5 rfl rfl (by decide) rfl ?_
  obtain ⟨ov1, hov1, hR⟩ := bd_some hR
  refine j_callV X (As := [.ref r_1B]) (rest := []) (ws2 := [cWho r_ r_B r_T r_S r_K, cWho r_1 r_1B r_1T r_1S r_1K, cBal r_B r_BP r_BA ov1.1 ov1.2.1 z_B, cRow r_K r_Kf r_Ks k_K, cRow r_S r_Sf r_Ss k_S, cTra r_T r_Tf k_T, cBal r_1B r_1BP r_1BA b_1B se_1B z_1B, cRow r_1K r_1Kf r_1Ks k_1K, cRow r_1S r_1Sf r_1Ss k_1S, cTra r_1T r_1Tf k_1T, cJar cJ r_BA 4 ov1.2.2.1, cPus r_BP r_BPt r_BPw r_BPs ov1.2.2.2.1, cIar cI r_Kf 8 f_Kf, cIar cI r_Ks 8 f_Ks, cIar cI r_Sf 8 f_Sf, cIar cI r_Ss 8 f_Ss, cIar cI r_Tf 4 f_Tf, cJar cJ r_1BA 4 f_1BA, cPus r_1BP r_1BPt r_1BPw r_1BPs k_1BP, cIar cI r_1Kf 8 f_1Kf, cIar cI r_1Ks 8 f_1Ks, cIar cI r_1Sf 8 f_1Sf, cIar cI r_1Ss 8 f_1Ss, cIar cI r_1Tf 4 f_1Tf, cIar cI r_BPs 8 ov1.2.2.2.2.1, cIar cI r_BPt 8 ov1.2.2.2.2.2.1, cIar cI r_BPw 8 ov1.2.2.2.2.2.2, cIar cI r_1BPs 8 f_1BPs, cIar cI r_1BPt 8 f_1BPt, cIar cI r_1BPw 8 f_1BPw]) (q0 := 2) (ci := 0) (mX0_copy l D cI cJ cB cT tt r_B r_BP r_BA r_1B r_1BP r_1BA r_BPt r_BPw r_BPs r_1BPt r_1BPw r_1BPs hov1) [2, 6, 10, 11, 17, 18, 24, 25, 26, 27, 28, 29] [.inl 0, .inl 1, .inr 0, .inl 3, .inl 4, .inl 5, .inr 1, .inl 7, .inl 8, .inl 9, .inr 2, .inr 3, .inl 12, .inl 13, .inl 14, .inl 15, .inl 16, .inr 4, .inr 5, .inl 19, .inl 20, .inl 21, .inl 22, .inl 23, .inr 6, .inr 7, .inr 8, .inr 9, .inr 10, .inr 11] k_470 k_611 k_468 k_469 rfl rfl k_40 hdX0_copy (by decide) (Nat.le_of_ble_eq_true rfl) dX7_copy_8 (by decide) rfl rfl (by decide) rfl rfl ?_
  refine j_aload_n X (q := 0) dX7_copy_11 rfl ?_
  refine j_get X 0 1 hiX7 k_186 dX7_copy_12 rfl rfl (by decide) rfl ?_
  refine j_aload_n X (q := 1) dX7_copy_15 rfl ?_
  refine j_get X 1 1 hiX7 k_186 dX7_copy_16 rfl rfl (by decide) rfl ?_
  obtain ⟨ov2, hov2, hR⟩ := bd_some hR
  refine j_callV X (As := [.ref r_1T]) (rest := []) (ws2 := [cWho r_ r_B r_T r_S r_K, cWho r_1 r_1B r_1T r_1S r_1K, cBal r_B r_BP r_BA ov1.1 ov1.2.1 z_B, cRow r_K r_Kf r_Ks k_K, cRow r_S r_Sf r_Ss k_S, cTra r_T r_Tf ov2.1, cBal r_1B r_1BP r_1BA b_1B se_1B z_1B, cRow r_1K r_1Kf r_1Ks k_1K, cRow r_1S r_1Sf r_1Ss k_1S, cTra r_1T r_1Tf k_1T, cJar cJ r_BA 4 ov1.2.2.1, cPus r_BP r_BPt r_BPw r_BPs ov1.2.2.2.1, cIar cI r_Kf 8 f_Kf, cIar cI r_Ks 8 f_Ks, cIar cI r_Sf 8 f_Sf, cIar cI r_Ss 8 f_Ss, cIar cI r_Tf 4 ov2.2, cJar cJ r_1BA 4 f_1BA, cPus r_1BP r_1BPt r_1BPw r_1BPs k_1BP, cIar cI r_1Kf 8 f_1Kf, cIar cI r_1Ks 8 f_1Ks, cIar cI r_1Sf 8 f_1Sf, cIar cI r_1Ss 8 f_1Ss, cIar cI r_1Tf 4 f_1Tf, cIar cI r_BPs 8 ov1.2.2.2.2.1, cIar cI r_BPt 8 ov1.2.2.2.2.2.1, cIar cI r_BPw 8 ov1.2.2.2.2.2.2, cIar cI r_1BPs 8 f_1BPs, cIar cI r_1BPt 8 f_1BPt, cIar cI r_1BPw 8 f_1BPw]) (q0 := 5) (ci := 6) (mX6_copy l D cI cJ cB cT tt r_T r_Tf r_1T r_1Tf hov2) [5, 9, 16, 23] [.inl 0, .inl 1, .inl 2, .inl 3, .inl 4, .inr 0, .inl 6, .inl 7, .inl 8, .inr 1, .inl 10, .inl 11, .inl 12, .inl 13, .inl 14, .inl 15, .inr 2, .inl 17, .inl 18, .inl 19, .inl 20, .inl 21, .inl 22, .inr 3, .inl 24, .inl 25, .inl 26, .inl 27, .inl 28, .inl 29] k_615 k_612 k_613 k_614 rfl rfl k_42 hdX6_copy (by decide) (Nat.le_of_ble_eq_true rfl) dX7_copy_19 (by decide) rfl rfl (by decide) rfl rfl ?_
  refine j_aload_n X (q := 0) dX7_copy_22 rfl ?_
  refine j_get X 0 2 hiX7 k_188 dX7_copy_23 rfl rfl (by decide) rfl ?_
  refine j_aload_n X (q := 1) dX7_copy_26 rfl ?_
  refine j_get X 1 2 hiX7 k_188 dX7_copy_27 rfl rfl (by decide) rfl ?_
  obtain ⟨ov3, hov3, hR⟩ := bd_some hR
  refine j_callV X (As := [.ref r_1S]) (rest := []) (ws2 := [cWho r_ r_B r_T r_S r_K, cWho r_1 r_1B r_1T r_1S r_1K, cBal r_B r_BP r_BA ov1.1 ov1.2.1 z_B, cRow r_K r_Kf r_Ks k_K, cRow r_S r_Sf r_Ss ov3.1, cTra r_T r_Tf ov2.1, cBal r_1B r_1BP r_1BA b_1B se_1B z_1B, cRow r_1K r_1Kf r_1Ks k_1K, cRow r_1S r_1Sf r_1Ss k_1S, cTra r_1T r_1Tf k_1T, cJar cJ r_BA 4 ov1.2.2.1, cPus r_BP r_BPt r_BPw r_BPs ov1.2.2.2.1, cIar cI r_Kf 8 f_Kf, cIar cI r_Ks 8 f_Ks, cIar cI r_Sf 8 ov3.2.1, cIar cI r_Ss 8 ov3.2.2, cIar cI r_Tf 4 ov2.2, cJar cJ r_1BA 4 f_1BA, cPus r_1BP r_1BPt r_1BPw r_1BPs k_1BP, cIar cI r_1Kf 8 f_1Kf, cIar cI r_1Ks 8 f_1Ks, cIar cI r_1Sf 8 f_1Sf, cIar cI r_1Ss 8 f_1Ss, cIar cI r_1Tf 4 f_1Tf, cIar cI r_BPs 8 ov1.2.2.2.2.1, cIar cI r_BPt 8 ov1.2.2.2.2.2.1, cIar cI r_BPw 8 ov1.2.2.2.2.2.2, cIar cI r_1BPs 8 f_1BPs, cIar cI r_1BPt 8 f_1BPt, cIar cI r_1BPw 8 f_1BPw]) (q0 := 4) (ci := 3) (mX3_copy l D cI cJ cB cT tt r_S r_Sf r_Ss r_1S r_1Sf r_1Ss hov3) [4, 8, 14, 15, 21, 22] [.inl 0, .inl 1, .inl 2, .inl 3, .inr 0, .inl 5, .inl 6, .inl 7, .inr 1, .inl 9, .inl 10, .inl 11, .inl 12, .inl 13, .inr 2, .inr 3, .inl 16, .inl 17, .inl 18, .inl 19, .inl 20, .inr 4, .inr 5, .inl 23, .inl 24, .inl 25, .inl 26, .inl 27, .inl 28, .inl 29] k_619 k_616 k_617 k_618 rfl rfl k_43 hdX3_copy (by decide) (Nat.le_of_ble_eq_true rfl) dX7_copy_30 (by decide) rfl rfl (by decide) rfl rfl ?_
  refine j_aload_n X (q := 0) dX7_copy_33 rfl ?_
  refine j_get X 0 3 hiX7 k_190 dX7_copy_34 rfl rfl (by decide) rfl ?_
  refine j_aload_n X (q := 1) dX7_copy_37 rfl ?_
  refine j_get X 1 3 hiX7 k_190 dX7_copy_38 rfl rfl (by decide) rfl ?_
  obtain ⟨ov4, hov4, hR⟩ := bd_some hR
  refine j_callV X (As := [.ref r_1K]) (rest := []) (ws2 := [cWho r_ r_B r_T r_S r_K, cWho r_1 r_1B r_1T r_1S r_1K, cBal r_B r_BP r_BA ov1.1 ov1.2.1 z_B, cRow r_K r_Kf r_Ks ov4.1, cRow r_S r_Sf r_Ss ov3.1, cTra r_T r_Tf ov2.1, cBal r_1B r_1BP r_1BA b_1B se_1B z_1B, cRow r_1K r_1Kf r_1Ks k_1K, cRow r_1S r_1Sf r_1Ss k_1S, cTra r_1T r_1Tf k_1T, cJar cJ r_BA 4 ov1.2.2.1, cPus r_BP r_BPt r_BPw r_BPs ov1.2.2.2.1, cIar cI r_Kf 8 ov4.2.1, cIar cI r_Ks 8 ov4.2.2, cIar cI r_Sf 8 ov3.2.1, cIar cI r_Ss 8 ov3.2.2, cIar cI r_Tf 4 ov2.2, cJar cJ r_1BA 4 f_1BA, cPus r_1BP r_1BPt r_1BPw r_1BPs k_1BP, cIar cI r_1Kf 8 f_1Kf, cIar cI r_1Ks 8 f_1Ks, cIar cI r_1Sf 8 f_1Sf, cIar cI r_1Ss 8 f_1Ss, cIar cI r_1Tf 4 f_1Tf, cIar cI r_BPs 8 ov1.2.2.2.2.1, cIar cI r_BPt 8 ov1.2.2.2.2.2.1, cIar cI r_BPw 8 ov1.2.2.2.2.2.2, cIar cI r_1BPs 8 f_1BPs, cIar cI r_1BPt 8 f_1BPt, cIar cI r_1BPw 8 f_1BPw]) (q0 := 3) (ci := 3) (mX3_copy l D cI cJ cB cT tt r_K r_Kf r_Ks r_1K r_1Kf r_1Ks hov4) [3, 7, 12, 13, 19, 20] [.inl 0, .inl 1, .inl 2, .inr 0, .inl 4, .inl 5, .inl 6, .inr 1, .inl 8, .inl 9, .inl 10, .inl 11, .inr 2, .inr 3, .inl 14, .inl 15, .inl 16, .inl 17, .inl 18, .inr 4, .inr 5, .inl 21, .inl 22, .inl 23, .inl 24, .inl 25, .inl 26, .inl 27, .inl 28, .inl 29] k_619 k_616 k_617 k_618 rfl rfl k_43 hdX3_copy (by decide) (Nat.le_of_ble_eq_true rfl) dX7_copy_41 (by decide) rfl rfl (by decide) rfl rfl ?_
  have hR := Option.some.inj hR
  exact j_vret X hr dX7_copy_44 rfl (by rw [← hR])
