/-! AHEAD, ENERGYAT, LOOKED -/
theorem R_ahead (ik z_h : Int32) (bn : Nat → Int32) (sen : Int64) (zn : Int32) (An : Nat → Int64) (kn : Int32) (sn tn wn : Nat → Int32) (im tx ta fa cl bg : Int32) (N : Nat) (hN : N ≤ 400) : ∀ (r i fu fu9 : Nat) (L : List Pu) (b : Nat → Int32) (se : Int64) (A : Nat → Int64) (k : Int32) (s t w : Nat → Int32) (be : Int32) (A9 : Nat → Int64) (fb n : Nat → Int32),
    i + r = N → r < fu → r < fu9 → RBal L b k t w s n → 0 ≤ be.toInt → be.toInt ≤ i →
    ∃ o m, fX8_thinkAhead_16 (nI N) ik z_h bn sen zn An kn sn tn wn fu (nI i) b se A k s t w = some o ∧
      fX9_goes_18 (nI N) im tx ta fa cl fu9 (nI i) be bg A9 fb n = some m ∧ Ag 11 o.1 m.2.2.2.2 ∧ 0 ≤ m.1.toInt ∧ m.1.toInt ≤ 400 := by
  intro r
  induction r with
  | zero =>
    intro i fu fu9 L b se A k s t w be A9 fb n hi hf hf9 hR h1 h2
    obtain ⟨f, rfl⟩ : ∃ f, fu = f + 1 := ⟨fu - 1, by omega⟩
    obtain ⟨f9, rfl⟩ : ∃ f, fu9 = f + 1 := ⟨fu9 - 1, by omega⟩
    have hle : nI N ≤ nI i := nI_le (by omega) (by omega)
    apply mk2
    · rw [fX8_thinkAhead_16, if_pos hle]
    · rw [fX9_goes_18, if_pos hle]
    · exact ⟨hR.1, h1, by show be.toInt ≤ 400; omega⟩
  | succ r ih =>
    intro i fu fu9 L b se A k s t w be A9 fb n hi hf hf9 hR h1 h2
    obtain ⟨f, rfl⟩ : ∃ f, fu = f + 1 := ⟨fu - 1, by omega⟩
    obtain ⟨f9, rfl⟩ : ∃ f, fu9 = f + 1 := ⟨fu9 - 1, by omega⟩
    have hle : ¬ nI N ≤ nI i := nI_ge (by omega) (by omega)
    obtain ⟨b2, o, n2, ht, ht9, hR2, -, -⟩ := R_tick hR im be bg tx ta fa cl (by rw [i_lt]; simp; omega) se z_h A A9 fb
    generalize hx : tb (dps n (L.filter (fun q => decide (q.1 = n 8)))) = x at ht ht9
    have hbt := be_tick be x h1 (by omega)
    obtain ⟨o2, m2, e1, e2, e3⟩ := ih (i + 1) f f9 _ b2 _ _ o.1 o.2.1 o.2.2.1 o.2.2.2 (if x = 0 then be else be + 1) _ _ n2 (by omega) (by omega) (by omega) hR2 hbt.1 (by have := hbt.2; omega)
    refine ⟨o2, m2, ?_, ?_, e3⟩
    · rw [fX8_thinkAhead_16, if_neg hle, ht, Option.bind_some, lt_eq, nI_1]
      exact e1
    · rw [fX9_goes_18, if_neg hle, ht9, Option.bind_some, lt_eq, nI_1]
      exact e2
theorem R_think {L : List Pu} {b : Nat → Int32} {k : Int32} {t w s n : Nat → Int32} (h : RBal L b k t w s n) (N : Nat) (hN : N ≤ 400) (ik : Int32) (b_h : Nat → Int32) (se_h : Int64) (z_h : Int32) (f_hA : Nat → Int64) (k_hP : Int32) (se : Int64) (z : Int32) (s_h t_h w_h : Nat → Int32) (A : Nat → Int64) (im be bg tx ta fa cl : Int32) (A9 H9 : Nat → Int64) (fb fh : Nat → Int32) :
    ∃ o m H2 h2, fX8_thinkAhead (nI N) ik b_h se_h z_h f_hA k_hP b se z s_h t_h w_h A k s t w = some o ∧ fX9_lays im be bg tx ta fa cl A9 H9 fh n = some (H2, h2) ∧ fX9_goes (nI N) im be bg tx ta fa cl A9 fb n = some m ∧ Ag 11 o.1 m.2.2.2.2 ∧ (∃ l, l ≤ 400 ∧ m.1 = nI l) ∧ AgL H2 A9 ∧ Ag 69 h2 n := by
  obtain ⟨b2, A2, o, hc, hag, -, hrp⟩ := p_bcopy h.2.2.1 b_h se_h z_h b se z f_hA k_hP A s_h t_h w_h
  have hR := h.cp hag hrp
  obtain ⟨H2, h2, l1, l2, l3⟩ := q_lays im be bg tx ta fa cl A9 H9 fh n
  obtain ⟨o2, m2, e1, e2, e3, e4, e5⟩ := R_ahead ik z_h b se z A k s t w im tx ta fa cl (n 8) N hN N 0 500 500 L b2 se A2 o.1 o.2.1 o.2.2.1 o.2.2.2 0 A9 fb n (by omega) (by omega) (by omega) hR (by decide) (by decide)
  refine ⟨o2, m2, H2, h2, ?_, l1, ?_, e3, ?_, l2, l3⟩
  · unfold fX8_thinkAhead
    rw [hc, Option.bind_some]
    exact e1
  · unfold fX9_goes
    rw [lt_eq]
    exact e2
  · refine ⟨m2.1.toInt.toNat, by omega, ?_⟩
    rw [i_eq, nI_toInt (by omega)]
    omega
theorem A_energyAt {L : List Pu} {b : Nat → Int32} {k : Int32} {t w s n : Nat → Int32} (h : RBal L b k t w s n) (i1 ik : Int32) (b_h : Nat → Int32) (se_h : Int64) (z_h : Int32) (f_hA : Nat → Int64) (k_hP : Int32) (se : Int64) (z : Int32) (s_h t_h w_h : Nat → Int32) (A : Nat → Int64) (im be bg tx ta fa cl : Int32) (A9 H9 : Nat → Int64) (fb fh : Nat → Int32) : ∃ o m, fX8_energyAt i1 ik b_h se_h z_h f_hA k_hP b se z s_h t_h w_h A k s t w = some o ∧ fX9_energyAt i1 im be bg tx ta fa cl A9 H9 fb fh n = some m ∧ o.1 = m.1 ∧ AgL m.2.2.2.1 A9 ∧ Ag 69 m.2.2.2.2.2.2.2 n ∧ Bq be m.2.1 := by
  by_cases hi : bw i1 0 400 = 0
  · apply mk2
    · unfold fX8_energyAt
      rw [p_bw, Option.bind_some, if_pos hi]
    · unfold fX9_energyAt
      rw [q_bw, Option.bind_some, if_pos hi]
    · exact ⟨rfl, AgL.rf, Ag.rf, Or.inl rfl⟩
  obtain ⟨ha, hb⟩ := bw_0 hi
  obtain ⟨N, hN, rfl⟩ := nI_of2 (M := 400) (n := 400) rfl ha (Int32.not_lt.mp hb)
  obtain ⟨o, m, H2, h2, ho, hl, hm, hag, ⟨l, hl4, hl5⟩, l2, l3⟩ := R_think h N hN ik b_h se_h z_h f_hA k_hP se z s_h t_h w_h A im be bg tx ta fa cl A9 H9 fb fh
  obtain ⟨A4, n4, k1, k2, k3⟩ := q_back im m.1 m.2.1 tx ta fa cl m.2.2.1 H2 h2 m.2.2.2.2
  apply mk2
  · unfold fX8_energyAt
    rw [p_bw, Option.bind_some, if_neg hi, ho, Option.bind_some, show fX0_energyNow o.1 o.2.1 z_h = some (En o.1) from rfl, Option.bind_some]
  · unfold fX9_energyAt
    rw [q_bw, Option.bind_some, if_neg hi, hl, Option.bind_some, hm, Option.bind_some, q_en, Option.bind_some, k1, Option.bind_some]
  · exact ⟨Ag_En (Nat.le_refl _) hag, fun j hj => (k2 j hj).trans (l2 j hj), fun j hj => (k3 j hj).trans (l3 j hj), Or.inr ⟨l, hl4, hl5⟩⟩
theorem A_ahead {L : List Pu} {b : Nat → Int32} {k : Int32} {t w s n : Nat → Int32} (h : RBal L b k t w s n) (i1 i2 ik : Int32) (b_h : Nat → Int32) (se_h : Int64) (z_h : Int32) (f_hA : Nat → Int64) (k_hP : Int32) (se : Int64) (z : Int32) (s_h t_h w_h : Nat → Int32) (A : Nat → Int64) (im be bg tx ta fa cl : Int32) (A9 H9 : Nat → Int64) (fb fh : Nat → Int32) : ∃ o m, fX8_ahead i1 i2 ik b_h se_h z_h f_hA k_hP b se z s_h t_h w_h A k s t w = some o ∧ fX9_ahead i1 i2 im be bg tx ta fa cl A9 H9 fb fh n = some m ∧ o.1 = m.1 ∧ AgL m.2.2.2.1 A9 ∧ Ag 69 m.2.2.2.2.2.2.2 n ∧ Bq be m.2.1 := by
  by_cases hi : bw i1 0 400 = 0
  · apply mk2
    · unfold fX8_ahead
      rw [p_bw, Option.bind_some, if_pos hi]
    · unfold fX9_ahead
      rw [q_bw, Option.bind_some, if_pos hi]
    · exact ⟨rfl, AgL.rf, Ag.rf, Or.inl rfl⟩
  obtain ⟨ha, hb⟩ := bw_0 hi
  obtain ⟨N, hN, rfl⟩ := nI_of2 (M := 400) (n := 400) rfl ha (Int32.not_lt.mp hb)
  by_cases hi2 : bw i2 0 5 = 0
  · apply mk2
    · unfold fX8_ahead
      rw [p_bw, Option.bind_some, if_neg hi]
      by_cases c1 : i2 < 0
      · rw [if_pos c1]
      · have c2 : ¬ i2 < 6 := by
          intro c2
          unfold bw at hi2
          rw [if_neg c1, if_neg (by rw [i_lt] at c2 ⊢; simp at c2 ⊢; omega)] at hi2
          exact absurd hi2 (by decide)
        rw [if_neg c1, if_neg c2]
    · unfold fX9_ahead
      rw [q_bw, Option.bind_some, if_neg hi, q_bw, Option.bind_some, if_pos hi2]
    · exact ⟨rfl, AgL.rf, Ag.rf, Or.inl rfl⟩
  obtain ⟨ha2, hb2⟩ := bw_0 hi2
  obtain ⟨j, hj, rfl⟩ := nI_of2 (M := 5) (n := 5) rfl ha2 (Int32.not_lt.mp hb2)
  obtain ⟨o, m, H2, h2, ho, hl, hm, hag, ⟨l, hl4, hl5⟩, l2, l3⟩ := R_think h N hN ik b_h se_h z_h f_hA k_hP se z s_h t_h w_h A im be bg tx ta fa cl A9 H9 fb fh
  obtain ⟨A4, n4, k1, k2, k3⟩ := q_back im m.1 m.2.1 tx ta fa cl m.2.2.1 H2 h2 m.2.2.2.2
  have hc : ∀ x, fX0_valueOf (tbAhead j) o.1 o.2.1 z_h o.2.2.2.1 = some x → fX8_ahead (nI N) (nI j) ik b_h se_h z_h f_hA k_hP b se z s_h t_h w_h A k s t w = some (x, o) := fun x hx => by
    unfold fX8_ahead
    rw [p_bw, Option.bind_some, if_neg hi, if_neg ha2, if_pos (show nI j < 6 from nI_lt (b := 6) (by omega) (by decide)), ho, Option.bind_some, gd_t (inb_nI (by omega) (by decide)), nI_clamp (by omega), hx, Option.bind_some]
  have hm9 : ∀ x, m.2.2.2.2 x = m.2.2.2.2 x := fun _ => rfl
  have : j = 0 ∨ j = 1 ∨ j = 2 ∨ j = 3 ∨ j = 4 ∨ j = 5 := by omega
  rcases this with rfl | rfl | rfl | rfl | rfl | rfl
  · apply mk2 (hc (o.1 0) rfl)
    · unfold fX9_ahead
      rw [q_bw, Option.bind_some, if_neg hi, q_bw, Option.bind_some, if_neg hi2, hl, Option.bind_some, hm, Option.bind_some, if_neg (show ¬ (2 : Int32) ≤ nI 0 by decide), gd_t (by decide), lt_eq, k1, Option.bind_some]
    · exact ⟨hag 0 (by decide), fun j hj => (k2 j hj).trans (l2 j hj), fun j hj => (k3 j hj).trans (l3 j hj), Or.inr ⟨l, hl4, hl5⟩⟩
  · apply mk2 (hc (o.1 1) rfl)
    · unfold fX9_ahead
      rw [q_bw, Option.bind_some, if_neg hi, q_bw, Option.bind_some, if_neg hi2, hl, Option.bind_some, hm, Option.bind_some, if_neg (show ¬ (2 : Int32) ≤ nI 1 by decide), gd_t (by decide), lt_eq, k1, Option.bind_some]
    · exact ⟨hag 1 (by decide), fun j hj => (k2 j hj).trans (l2 j hj), fun j hj => (k3 j hj).trans (l3 j hj), Or.inr ⟨l, hl4, hl5⟩⟩
  · apply mk2 (hc (o.1 5) rfl)
    · unfold fX9_ahead
      rw [q_bw, Option.bind_some, if_neg hi, q_bw, Option.bind_some, if_neg hi2, hl, Option.bind_some, hm, Option.bind_some, if_pos (show (2 : Int32) ≤ nI 2 by decide), if_pos (show nI 2 = 2 by decide), lt_eq, k1, Option.bind_some]
    · exact ⟨hag 5 (by decide), fun j hj => (k2 j hj).trans (l2 j hj), fun j hj => (k3 j hj).trans (l3 j hj), Or.inr ⟨l, hl4, hl5⟩⟩
  · apply mk2 (hc (o.1 9) rfl)
    · unfold fX9_ahead
      rw [q_bw, Option.bind_some, if_neg hi, q_bw, Option.bind_some, if_neg hi2, hl, Option.bind_some, hm, Option.bind_some, if_pos (show (2 : Int32) ≤ nI 3 by decide), if_neg (show ¬ nI 3 = 2 by decide), if_pos (show nI 3 = 3 by decide), lt_eq, k1, Option.bind_some]
    · exact ⟨hag 9 (by decide), fun j hj => (k2 j hj).trans (l2 j hj), fun j hj => (k3 j hj).trans (l3 j hj), Or.inr ⟨l, hl4, hl5⟩⟩
  · apply mk2 (hc (o.1 10) rfl)
    · unfold fX9_ahead
      rw [q_bw, Option.bind_some, if_neg hi, q_bw, Option.bind_some, if_neg hi2, hl, Option.bind_some, hm, Option.bind_some, if_pos (show (2 : Int32) ≤ nI 4 by decide), if_neg (show ¬ nI 4 = 2 by decide), if_neg (show ¬ nI 4 = 3 by decide), if_pos (show nI 4 = 4 by decide), lt_eq, k1, Option.bind_some]
    · exact ⟨hag 10 (by decide), fun j hj => (k2 j hj).trans (l2 j hj), fun j hj => (k3 j hj).trans (l3 j hj), Or.inr ⟨l, hl4, hl5⟩⟩
  · apply mk2 (hc (o.1 7) rfl)
    · unfold fX9_ahead
      rw [q_bw, Option.bind_some, if_neg hi, q_bw, Option.bind_some, if_neg hi2, hl, Option.bind_some, hm, Option.bind_some, if_pos (show (2 : Int32) ≤ nI 5 by decide), if_neg (show ¬ nI 5 = 2 by decide), if_neg (show ¬ nI 5 = 3 by decide), if_neg (show ¬ nI 5 = 4 by decide), lt_eq, k1, Option.bind_some]
    · exact ⟨hag 7 (by decide), fun j hj => (k2 j hj).trans (l2 j hj), fun j hj => (k3 j hj).trans (l3 j hj), Or.inr ⟨l, hl4, hl5⟩⟩
/-- the book, as the model has it -/
def BkOk (c : Nat) (kK : Int32) (gf gs n : Nat → Int32) : Prop := c ≤ 8 ∧ kK = nI c ∧ n 14 = nI c ∧ ∀ i, i < c → n (53 + 2 * i) = gf i ∧ n (54 + 2 * i) = gs i ∧ 0 ≤ (gf i).toInt ∧ (gf i).toInt ≤ 99 ∧ 0 ≤ (gs i).toInt
theorem looked_both (ik z_h : Int32) (b : Nat → Int32) (se : Int64) (z : Int32) (A : Nat → Int64) (k : Int32) (s t w b_h : Nat → Int32) (se_h : Int64) (f_hA : Nat → Int64) (k_hP : Int32) (s_h t_h w_h : Nat → Int32) (im tx ta fa cl bg : Int32) (A9 H9 : Nat → Int64) (fh n : Nat → Int32) {hs : List Nat} {f fb : Nat → Int32} (h : Hrd hs 400 f) (h9 : Hrd hs 400 fb) {c : Nat} {kK : Int32} {gf gs : Nat → Int32} (hB : BkOk c kK gf gs n) : ∀ (r i fu fu9 : Nat), i + r = c → r < fu → r < fu9 →
    ∃ x, fX8_looked_6 ik z_h b se z kK A k gf gs s t w fu (nI i) (nI hs.length) b_h se_h f f_hA k_hP s_h t_h w_h = some (x, nI hs.length, b_h, se_h, f, f_hA, k_hP, s_h, t_h, w_h) ∧
      fX9_looked_6 im tx ta fa cl fu9 (nI i) (nI hs.length) bg A9 H9 fb fh n = some (x, nI hs.length, bg, A9, H9, fb, fh, n) := by
  have hl := h.2.2.1
  obtain ⟨hc8, hk, hn, hrow⟩ := hB
  intro r
  induction r with
  | zero =>
    intro i fu fu9 hi hf hf9
    obtain ⟨f1, rfl⟩ : ∃ f, fu = f + 1 := ⟨fu - 1, by omega⟩
    obtain ⟨f9, rfl⟩ : ∃ f, fu9 = f + 1 := ⟨fu9 - 1, by omega⟩
    have hle : nI c ≤ nI i := nI_le (by omega) (by omega)
    refine ⟨-5, ?_, ?_⟩
    · rw [fX8_looked_6, hk, if_pos hle]
    · rw [fX9_looked_6, hn, if_pos hle]
  | succ r ih =>
    intro i fu fu9 hi hf hf9
    obtain ⟨f1, rfl⟩ : ∃ f, fu = f + 1 := ⟨fu - 1, by omega⟩
    obtain ⟨f9, rfl⟩ : ∃ f, fu9 = f + 1 := ⟨fu9 - 1, by omega⟩
    have hle : ¬ nI c ≤ nI i := nI_ge (by omega) (by omega)
    obtain ⟨r1, r2, r3, r4, r5⟩ := hrow i (by omega)
    have q2 : ∀ (a b : Nat), (nI a) + 2 * nI b = nI (a + 2 * b) := fun a b => by rw [show (2 : Int32) = nI 2 from rfl, pk_mul, nI_add]
    obtain ⟨j, hj, hj2⟩ : ∃ j : Nat, j ≤ 99 ∧ gf i = nI j := ⟨(gf i).toInt.toNat, by omega, by rw [i_eq, nI_toInt (by omega)]; omega⟩
    obtain ⟨x, e1, e2⟩ := ih (i + 1) f1 f9 (by omega) (by omega) (by omega)
    have hin : inb (nI i) 8 = true := inb_nI (by omega) (by decide)
    have hc8' : ¬ (8 : Int32) ≤ nI i := nI_ge (b := 8) (by omega) (by decide)
    have m1 : (53 : Int32) + 2 * nI i = nI (53 + 2 * i) := q2 53 i
    by_cases hjl : j < hs.length
    · by_cases hv : nI (hd0 hs j) = gs i
      · refine ⟨x, ?_, ?_⟩
        · rw [fX8_looked_6, hk, if_neg hle, if_neg hc8', gd_t hin, nI_clamp (by omega), hj2, p_beatAt h hjl, Option.bind_some, gd_t hin, if_pos hv, lt_eq, nI_1, ← hk]
          exact e1
        · rw [fX9_looked_6, hn, if_neg hle, m1, gd_t (inb_nI (by omega) (by decide)), lt_eq, nI_clamp (by omega), r1, hj2, if_neg (nI_ge hjl (by omega)), gd_t (inb_nI (by omega) (by decide)), nI_1, gd_t (inb_nI (by omega) (by decide)), nI_clamp (by omega), nI_clamp (by omega), (h9.at hjl).1, show 53 + 2 * i + 1 = 54 + 2 * i by omega, r2, if_pos hv, lt_eq, nI_1]
          exact e2
      · refine ⟨nI i, ?_, ?_⟩
        · rw [fX8_looked_6, hk, if_neg hle, if_neg hc8', gd_t hin, nI_clamp (by omega), hj2, p_beatAt h hjl, Option.bind_some, gd_t hin, if_neg hv]
        · rw [fX9_looked_6, hn, if_neg hle, m1, gd_t (inb_nI (by omega) (by decide)), lt_eq, nI_clamp (by omega), r1, hj2, if_neg (nI_ge hjl (by omega)), gd_t (inb_nI (by omega) (by decide)), nI_1, gd_t (inb_nI (by omega) (by decide)), nI_clamp (by omega), nI_clamp (by omega), (h9.at hjl).1, show 53 + 2 * i + 1 = 54 + 2 * i by omega, r2, if_neg hv]
    · have hle2 : nI hs.length ≤ nI j := nI_le (by omega) (by omega)
      have hv : ¬ (-5 : Int32) = gs i := by
        intro e
        rw [← e] at r5
        exact absurd r5 (by decide)
      refine ⟨nI i, ?_, ?_⟩
      · rw [fX8_looked_6, hk, if_neg hle, if_neg hc8', gd_t hin, nI_clamp (by omega), hj2]
        unfold fX1_beatAt
        rw [if_neg (nI_pos (by omega)), if_pos hle2, Option.bind_some, gd_t hin, if_neg hv]
      · rw [fX9_looked_6, hn, if_neg hle, m1, gd_t (inb_nI (by omega) (by decide)), lt_eq, nI_clamp (by omega), r1, hj2, if_pos hle2]
theorem BkOk.ag {c : Nat} {kK : Int32} {gf gs n m : Nat → Int32} (h : BkOk c kK gf gs n) (ha : Ag 69 m n) : BkOk c kK gf gs m := by
  obtain ⟨h1, h2, h3, h4⟩ := h
  refine ⟨h1, h2, (ha 14 (by decide)).trans h3, fun i hi => ?_⟩
  rw [ha _ (by omega), ha _ (by omega)]
  exact h4 i hi
theorem A_looked {L : List Pu} {b : Nat → Int32} {k : Int32} {t w s n : Nat → Int32} (h : RBal L b k t w s n) {c : Nat} {kK : Int32} {gf gs : Nat → Int32} (hB : BkOk c kK gf gs n) (ik n_e : Int32) (b_h : Nat → Int32) (se_h : Int64) (z_h : Int32) (f_ea : Nat → Int32) (f_hA : Nat → Int64) (k_hP : Int32) (se : Int64) (z : Int32) (s_h t_h w_h : Nat → Int32) (A : Nat → Int64) (im be bg tx ta fa cl : Int32) (A9 H9 : Nat → Int64) (fb fh : Nat → Int32) : ∃ o m, fX8_looked ik n_e b_h se_h z_h f_ea f_hA k_hP b se z kK s_h t_h w_h A k gf gs s t w = some o ∧ fX9_looked im be bg tx ta fa cl A9 H9 fb fh n = some m ∧ o.1 = m.1 ∧ AgL m.2.2.2.1 A9 ∧ Ag 69 m.2.2.2.2.2.2.2 n ∧ Bq be m.2.1 := by
  obtain ⟨hs, o, m, ho, hm, o1, m1, ho4, hm5, hA, hn⟩ := R_hear h ik n_e b_h se_h z_h f_ea f_hA k_hP se z s_h t_h w_h A im be bg tx ta fa cl A9 H9 fb fh
  have hl := ho4.2.2.1
  obtain ⟨x, e1, e2⟩ := looked_both ik z_h b se z A k s t w o.2.1 o.2.2.1 o.2.2.2.2.1 o.2.2.2.2.2.1 o.2.2.2.2.2.2.1 o.2.2.2.2.2.2.2.1 o.2.2.2.2.2.2.2.2 im tx ta fa cl m.2.1 m.2.2.1 m.2.2.2.1 m.2.2.2.2.2.1 m.2.2.2.2.2.2 ho4 hm5 (hB.ag hn) c 0 500 500 (by omega) (by have := hB.1; omega) (by have := hB.1; omega)
  apply mk2
  · unfold fX8_looked
    rw [ho, Option.bind_some, o1]
    exact e1
  · unfold fX9_looked
    rw [hm, Option.bind_some, m1]
    exact e2
  · exact ⟨rfl, hA, hn, Or.inr ⟨_, hl, rfl⟩⟩
