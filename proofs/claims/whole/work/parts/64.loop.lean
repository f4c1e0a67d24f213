/-! THE LAW: its loop -/
section LAWL
variable {p : Program} {l : Launch} {e : Env} {s : State} {m : MethodId} {below : List Frame} {meth : Method} {c : Code} {D : va_G} {cI cJ cB cT : ClassId} {tt : Nat → Nat} {A : Nat → Prop} {Q : State → Prop} {cells slots : Nat} {sb L i0 a b : Nat} {f g : Nat → Nat} {xs : Nat → Int32}
theorem RR_next {S : CS} {M : MS} {j : Nat} (h : RR S M j) : RR S M (j + 1) := by
  obtain ⟨h1, h2, h3, h4, h5⟩ := h
  exact ⟨h1, h2, h3, h4, be_n h5⟩
theorem nI_sub6 {L : Nat} (h : L ≤ 3072) : (nI L - 6).toInt = (L : Int) - 6 := by
  have h6 : (6 : Int32).toInt = 6 := by decide
  rw [i_sub (by rw [nI_toInt (by omega), h6]; omega) (by rw [nI_toInt (by omega), h6]; omega), nI_toInt (by omega), h6]
set_option maxHeartbeats 8000000 in
set_option maxRecDepth 100000 in
theorem law_loop (X : LC p s m meth c D cI cJ cB cT tt A cells slots sb L xs) (hend : ∀ (S : CS) (M : MS) (i0 : Nat), jW p l e room_1 s m #[.ref sb] below meth c D A 4 Q cells slots 1060 [(0, .ref sb), (1, .ref a), (2, .ref b), (3, .int (nI i0))] [] (wL cI cJ cB cT a f b g S M)) : ∀ (r j : Nat) (S : CS) (M : MS), L - 6 * j ≤ r → 6 * j ≤ L → RR S M j → jW p l e room_1 s m #[.ref sb] below meth c D A 4 Q cells slots 18 [(0, .ref sb), (1, .ref a), (2, .ref b), (3, .int (nI (6 * j)))] [] (wL cI cJ cB cT a f b g S M) := by
  have hL : L ≤ 3072 := X.2.2.2.2.1
  intro r
  induction r with
  | zero =>
    intro j S M hr hj hR
    refine j_iload_n X.1 (q := 3) dL_law_18 rfl ?_
    refine j_aload_n X.1 (q := 0) dL_law_19 rfl ?_
    refine j_slen X dL_law_20 ?_
    refine j_bipush X.1 (v := 6) dL_law_21 (by decide) ?_
    refine j_isub X.1 dL_law_23 ?_
    refine j_icmp_gt X.1 (tgt := 1060) dL_law_24 (by decide) (fun _ => hend S M _) (fun cv => absurd ?_ cv)
    rw [i_lt, nI_sub6 hL, nI_toInt (by omega)]
    omega
  | succ r ih =>
    intro j S M hr hj hR
    refine j_iload_n X.1 (q := 3) dL_law_18 rfl ?_
    refine j_aload_n X.1 (q := 0) dL_law_19 rfl ?_
    refine j_slen X dL_law_20 ?_
    refine j_bipush X.1 (v := 6) dL_law_21 (by decide) ?_
    refine j_isub X.1 dL_law_23 ?_
    refine j_icmp_gt X.1 (tgt := 1060) dL_law_24 (by decide) (fun _ => hend S M _) (fun cv => ?_)
    have h6 : 6 * j + 6 ≤ L := by
      have cv := i_le.mp (Int32.not_lt.mp cv)
      rw [nI_sub6 hL, nI_toInt (by omega)] at cv
      omega
    have kk : ∀ (S2 : CS) (M2 : MS), RR S2 M2 (j + 1) → jW p l e room_1 s m #[.ref sb] below meth c D A 4 Q cells slots 1054 [(0, .ref sb), (1, .ref a), (2, .ref b), (3, .int (nI (6 * j)))] [] (wL cI cJ cB cT a f b g S2 M2) := by
      intro S2 M2 h2
      refine j_iinc X.1 (k := 3) (v := nI (6 * (j + 1))) (lv2 := [(3, .int (nI (6 * (j + 1)))), (0, .ref sb), (1, .ref a), (2, .ref b)]) dL_law_1054 rfl ?_ (by decide) rfl ?_
      · show nI (6 * j) + nI 6 = nI (6 * (j + 1))
        rw [nI_add]
        congr 1
      refine j_goto X.1 (tgt := 18) dL_law_1057 (by decide) ?_
      refine j_sub (lv2 := [(0, .ref sb), (1, .ref a), (2, .ref b), (3, .int (nI (6 * (j + 1))))]) [1, 2, 3, 0] rfl ?_
      exact ih (j + 1) S2 M2 (by omega) (by omega) h2
    refine j_aload_n X.1 (q := 0) dL_law_27 rfl ?_
    refine j_iload_n X.1 (q := 3) dL_law_28 rfl ?_
    refine j_sld X (k := 6 * j) rfl (by omega) dL_law_29 ?_
    refine j_bipush X.1 (v := 31) dL_law_30 (by decide) ?_
    refine j_iand X.1 dL_law_32 ?_
    obtain ⟨q, hq, eq⟩ := pk_andE (xs (6 * j)) (m := 31) 5 (by decide)
    rw [eq]
    have hq : q = 0 ∨ q = 1 ∨ q = 2 ∨ q = 3 ∨ q = 4 ∨ q = 5 ∨ q = 6 ∨ q = 7 ∨ q = 8 ∨ q = 9 ∨ q = 10 ∨ q = 11 ∨ q = 12 ∨ q = 13 ∨ q = 14 ∨ q = 15 ∨ q = 16 ∨ q = 17 ∨ q = 18 ∨ q = 19 ∨ q = 20 ∨ q = 21 ∨ q = 22 ∨ q = 23 ∨ q = 24 ∨ q = 25 ∨ q = 26 ∨ q = 27 ∨ q = 28 ∨ q = 29 ∨ q = 30 ∨ q = 31 := by omega
    rcases hq with rfl | rfl | rfl | rfl | rfl | rfl | rfl | rfl | rfl | rfl | rfl | rfl | rfl | rfl | rfl | rfl | rfl | rfl | rfl | rfl | rfl | rfl | rfl | rfl | rfl | rfl | rfl | rfl | rfl | rfl | rfl | rfl
    · exact j_tableIn X.1 (tgt := 168) (off := 135) dL_law_33 (by decide) (by decide) (by decide) (by decide) (K_set X h6 hR kk)
    · exact j_tableIn X.1 (tgt := 201) (off := 168) dL_law_33 (by decide) (by decide) (by decide) (by decide) (K_told X h6 hR kk)
    · exact j_tableIn X.1 (tgt := 224) (off := 191) dL_law_33 (by decide) (by decide) (by decide) (by decide) (K_push X h6 hR kk)
    · exact j_tableIn X.1 (tgt := 267) (off := 234) dL_law_33 (by decide) (by decide) (by decide) (by decide) (K_pushOf X h6 hR kk)
    · exact j_tableIn X.1 (tgt := 300) (off := 267) dL_law_33 (by decide) (by decide) (by decide) (by decide) (K_go X h6 hR kk)
    · exact j_tableIn X.1 (tgt := 323) (off := 290) dL_law_33 (by decide) (by decide) (by decide) (by decide) (K_wheel X h6 hR kk)
    · exact j_tableIn X.1 (tgt := 346) (off := 313) dL_law_33 (by decide) (by decide) (by decide) (by decide) (K_turns X h6 hR kk)
    · exact j_tableIn X.1 (tgt := 380) (off := 347) dL_law_33 (by decide) (by decide) (by decide) (by decide) (K_energy X h6 hR kk)
    · exact j_tableIn X.1 (tgt := 404) (off := 371) dL_law_33 (by decide) (by decide) (by decide) (by decide) (K_feed X h6 hR kk)
    · exact j_tableIn X.1 (tgt := 427) (off := 394) dL_law_33 (by decide) (by decide) (by decide) (by decide) (K_read X h6 hR kk)
    · exact j_tableIn X.1 (tgt := 440) (off := 407) dL_law_33 (by decide) (by decide) (by decide) (by decide) (K_ahead X h6 hR kk)
    · exact j_tableIn X.1 (tgt := 473) (off := 440) dL_law_33 (by decide) (by decide) (by decide) (by decide) (K_energyAt X h6 hR kk)
    · exact j_tableIn X.1 (tgt := 497) (off := 464) dL_law_33 (by decide) (by decide) (by decide) (by decide) (K_heard X h6 hR kk)
    · exact j_tableIn X.1 (tgt := 520) (off := 487) dL_law_33 (by decide) (by decide) (by decide) (by decide) (K_beat X h6 hR kk)
    · exact j_tableIn X.1 (tgt := 543) (off := 510) dL_law_33 (by decide) (by decide) (by decide) (by decide) (K_gap X h6 hR kk)
    · exact j_tableIn X.1 (tgt := 566) (off := 533) dL_law_33 (by decide) (by decide) (by decide) (by decide) (K_longest X h6 hR kk)
    · exact j_tableIn X.1 (tgt := 599) (off := 566) dL_law_33 (by decide) (by decide) (by decide) (by decide) (K_see X h6 hR kk)
    · exact j_tableIn X.1 (tgt := 632) (off := 599) dL_law_33 (by decide) (by decide) (by decide) (by decide) (K_fits X h6 hR (by omega) kk)
    · exact j_tableIn X.1 (tgt := 655) (off := 622) dL_law_33 (by decide) (by decide) (by decide) (by decide) (K_odds X h6 hR kk)
    · exact j_tableIn X.1 (tgt := 689) (off := 656) dL_law_33 (by decide) (by decide) (by decide) (by decide) (K_mean X h6 hR kk)
    · exact j_tableIn X.1 (tgt := 713) (off := 680) dL_law_33 (by decide) (by decide) (by decide) (by decide) (K_book X h6 hR kk)
    · exact j_tableIn X.1 (tgt := 746) (off := 713) dL_law_33 (by decide) (by decide) (by decide) (by decide) (K_looked X h6 hR kk)
    · exact j_tableIn X.1 (tgt := 759) (off := 726) dL_law_33 (by decide) (by decide) (by decide) (by decide) (K_judge X h6 hR kk)
    · exact j_tableIn X.1 (tgt := 792) (off := 759) dL_law_33 (by decide) (by decide) (by decide) (by decide) (K_image X h6 hR kk)
    · exact j_tableIn X.1 (tgt := 805) (off := 772) dL_law_33 (by decide) (by decide) (by decide) (by decide) (K_undo X h6 hR kk)
    · exact j_tableIn X.1 (tgt := 818) (off := 785) dL_law_33 (by decide) (by decide) (by decide) (by decide) (K_count X h6 hR kk)
    · exact j_tableIn X.1 (tgt := 841) (off := 808) dL_law_33 (by decide) (by decide) (by decide) (by decide) (K_tape X h6 hR kk)
    · exact j_tableIn X.1 (tgt := 884) (off := 851) dL_law_33 (by decide) (by decide) (by decide) (by decide) (K_item X h6 hR kk)
    · exact j_tableIn X.1 (tgt := 957) (off := 924) dL_law_33 (by decide) (by decide) (by decide) (by decide) (K_peek X h6 hR kk)
    · exact j_tableIn X.1 (tgt := 991) (off := 958) dL_law_33 (by decide) (by decide) (by decide) (by decide) (K_shift X h6 hR kk)
    · exact j_tableOut X.1 (tgt := 1054) dL_law_33 (Or.inr (by decide)) (by decide) (kk S M (RR_next hR))
    · exact j_tableOut X.1 (tgt := 1054) dL_law_33 (Or.inr (by decide)) (by decide) (kk S M (RR_next hR))
end LAWL
