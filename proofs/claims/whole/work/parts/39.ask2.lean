/-! LONGEST -/
theorem lg_inner {hs : List Nat} {f fb : Nat → Int32} (h : Hrd hs 400 f) (h9 : Hrd hs 400 fb) (i : Nat) (hi : i + 1 < hs.length) (i1 i2 im tx ta fa cl bg : Int32) (A H : Nat → Int64) (fh n : Nat → Int32) (K : Int32 → Int32 → Int32 → (Nat → Int64) → (Nat → Int64) → (Nat → Int32) → (Nat → Int32) → (Nat → Int32) → Option (Int32 × Int32 × Int32 × (Nat → Int64) × (Nat → Int64) × (Nat → Int32) × (Nat → Int32) × (Nat → Int32))) : ∀ (r j fu fu9 : Nat) (c : Int32), j + r = hs.length - 1 → r < fu → r < fu9 →
    ∃ c2, fX1_gapsAheadOf_17 (nI i) (nI hs.length) f fu (gv hs i) c (nI (hs.length - 1)) (nI j) = some c2 ∧
      fX9_longest_35 i1 i2 im tx ta fa cl K fu9 (nI i) c (nI j) (nI hs.length) bg A H fb fh n = if c2 = i1 then (if i2 = 0 then some (gv hs i, nI hs.length, bg, A, H, fb, fh, n) else some (nI i, nI hs.length, bg, A, H, fb, fh, n)) else K (nI (i + 1)) (nI hs.length) bg A H fb fh n := by
  have hl := h.2.2.1
  intro r
  induction r with
  | zero =>
    intro j fu fu9 c hj hf hf9
    obtain ⟨f1, rfl⟩ : ∃ f, fu = f + 1 := ⟨fu - 1, by omega⟩
    obtain ⟨f9, rfl⟩ : ∃ f, fu9 = f + 1 := ⟨fu9 - 1, by omega⟩
    have hle : nI (hs.length - 1) ≤ nI j := nI_le (by omega) (by omega)
    refine ⟨c, ?_, ?_⟩
    · rw [fX1_gapsAheadOf_17, if_pos hle]
    · rw [fX9_longest_35, q_gaps _ hl, Option.bind_some, if_pos hle, q_gapOf h9 hi, Option.bind_some, lt_eq, nI_1]
  | succ r ih =>
    intro j fu fu9 c hj hf hf9
    obtain ⟨f1, rfl⟩ : ∃ f, fu = f + 1 := ⟨fu - 1, by omega⟩
    obtain ⟨f9, rfl⟩ : ∃ f, fu9 = f + 1 := ⟨fu9 - 1, by omega⟩
    have hle : ¬ nI (hs.length - 1) ≤ nI j := nI_ge (by omega) (by omega)
    have e1 : fX1_gapsAheadOf_17 (nI i) (nI hs.length) f (f1 + 1) (gv hs i) c (nI (hs.length - 1)) (nI j) = fX1_gapsAheadOf_17 (nI i) (nI hs.length) f f1 (gv hs i) (if gv hs i < gv hs j then c + 1 else if gv hs j = gv hs i then (if nI i ≤ nI j then c else c + 1) else c) (nI (hs.length - 1)) (nI (j + 1)) := by
      rw [fX1_gapsAheadOf_17, if_neg hle, p_gapAt h (by omega), Option.bind_some]
      simp only [lt_eq, nI_1]
      by_cases c1 : gv hs i < gv hs j
      · rw [if_pos c1, if_pos c1]
      · rw [if_neg c1, if_neg c1]
        by_cases c2 : gv hs j = gv hs i
        · rw [if_pos c2, if_pos c2]
          by_cases c3 : nI i ≤ nI j
          · rw [if_pos c3, if_pos c3]
          · rw [if_neg c3, if_neg c3]
        · rw [if_neg c2, if_neg c2]
    have e2 : fX9_longest_35 i1 i2 im tx ta fa cl K (f9 + 1) (nI i) c (nI j) (nI hs.length) bg A H fb fh n = fX9_longest_35 i1 i2 im tx ta fa cl K f9 (nI i) (if gv hs i < gv hs j then c + 1 else if gv hs j = gv hs i then (if nI i ≤ nI j then c else c + 1) else c) (nI (j + 1)) (nI hs.length) bg A H fb fh n := by
      rw [fX9_longest_35, q_gaps _ hl, Option.bind_some, if_neg hle, q_gapOf h9 (by omega), Option.bind_some, q_gapOf h9 hi, Option.bind_some, Option.bind_some, Option.bind_some]
      simp only [lt_eq, nI_1]
      by_cases c1 : gv hs i < gv hs j
      · rw [if_pos c1, if_pos c1]
      · rw [if_neg c1, if_neg c1]
        by_cases c2 : gv hs j = gv hs i
        · rw [if_pos c2, if_pos c2]
          by_cases c3 : nI i ≤ nI j
          · rw [if_pos c3, if_pos c3]
          · rw [if_neg c3, if_neg c3]
        · rw [if_neg c2, if_neg c2]
    rw [e1, e2]
    exact ih (j + 1) f1 f9 _ (by omega) (by omega) (by omega)
theorem lg_outer {hs : List Nat} {f fb : Nat → Int32} (h : Hrd hs 400 f) (h9 : Hrd hs 400 fb) (i1 i2 im tx ta fa cl bg : Int32) (A H : Nat → Int64) (fh n : Nat → Int32) : ∀ (r i fu fu9 : Nat), i + r = hs.length - 1 → r < fu → r < fu9 →
    (fX1_longestGap_7 i1 (nI hs.length) f fu (nI (hs.length - 1)) (nI i) = some (-5) ∧ fX9_longest_21 i1 i2 im tx ta fa cl fu9 (nI i) (nI hs.length) bg A H fb fh n = some (-5, nI hs.length, bg, A, H, fb, fh, n)) ∨
    (∃ q, q + 1 < hs.length ∧ fX1_longestGap_7 i1 (nI hs.length) f fu (nI (hs.length - 1)) (nI i) = some (nI q) ∧ fX9_longest_21 i1 i2 im tx ta fa cl fu9 (nI i) (nI hs.length) bg A H fb fh n = some (if i2 = 0 then gv hs q else nI q, nI hs.length, bg, A, H, fb, fh, n)) := by
  have hl := h.2.2.1
  intro r
  induction r with
  | zero =>
    intro i fu fu9 hi hf hf9
    obtain ⟨f1, rfl⟩ : ∃ f, fu = f + 1 := ⟨fu - 1, by omega⟩
    obtain ⟨f9, rfl⟩ : ∃ f, fu9 = f + 1 := ⟨fu9 - 1, by omega⟩
    have hle : nI (hs.length - 1) ≤ nI i := nI_le (by omega) (by omega)
    refine Or.inl ⟨?_, ?_⟩
    · rw [fX1_longestGap_7, if_pos hle]
    · rw [fX9_longest_21, q_gaps _ hl, Option.bind_some, if_pos hle]
  | succ r ih =>
    intro i fu fu9 hi hf hf9
    obtain ⟨f1, rfl⟩ : ∃ f, fu = f + 1 := ⟨fu - 1, by omega⟩
    obtain ⟨f9, rfl⟩ : ∃ f, fu9 = f + 1 := ⟨fu9 - 1, by omega⟩
    have hle : ¬ nI (hs.length - 1) ≤ nI i := nI_ge (by omega) (by omega)
    obtain ⟨c2, e1, e2⟩ := lg_inner h h9 i (by omega) i1 i2 im tx ta fa cl bg A H fh n (fX9_longest_21 i1 i2 im tx ta fa cl f9) (hs.length - 1) 0 500 500 0 (by omega) (by omega) (by omega)
    rw [nI_0] at e1 e2
    have e3 : fX1_gapsAheadOf (nI i) (nI hs.length) f = some c2 := by
      unfold fX1_gapsAheadOf
      rw [p_gapAt h (by omega), Option.bind_some, p_gaps _ hl, Option.bind_some, e1]
    have e4 : fX9_longest_21 i1 i2 im tx ta fa cl (f9 + 1) (nI i) (nI hs.length) bg A H fb fh n = fX9_longest_35 i1 i2 im tx ta fa cl (fX9_longest_21 i1 i2 im tx ta fa cl f9) 500 (nI i) 0 0 (nI hs.length) bg A H fb fh n := by
      rw [fX9_longest_21, q_gaps _ hl, Option.bind_some, if_neg hle]
    rw [e4, e2, fX1_longestGap_7, if_neg hle, e3, Option.bind_some, lt_eq, nI_1]
    by_cases c : c2 = i1
    · rw [if_pos c, if_pos c]
      refine Or.inr ⟨i, by omega, rfl, ?_⟩
      split <;> rfl
    · rw [if_neg c, if_neg c]
      exact ih (i + 1) f1 f9 (by omega) (by omega) (by omega)
theorem nI_ne5 {q : Nat} (h : q < 2 ^ 31) : ¬ nI q = -5 := by
  intro e
  have h1 := nI_pos (n := q) h
  rw [e] at h1
  exact absurd h1 (by decide)
theorem A_longest {L : List Pu} {b : Nat → Int32} {k : Int32} {t w s n : Nat → Int32} (h : RBal L b k t w s n) (i1 i2 : Int32) (ik n_e : Int32) (b_h : Nat → Int32) (se_h : Int64) (z_h : Int32) (f_ea : Nat → Int32) (f_hA : Nat → Int64) (k_hP : Int32) (se : Int64) (z : Int32) (s_h t_h w_h : Nat → Int32) (A : Nat → Int64) (im be bg tx ta fa cl : Int32) (A9 H9 : Nat → Int64) (fb fh : Nat → Int32) : ∃ o m, fX8_longest i1 i2 ik n_e b_h se_h z_h f_ea f_hA k_hP b se z s_h t_h w_h A k s t w = some o ∧ fX9_longest i1 i2 im be bg tx ta fa cl A9 H9 fb fh n = some m ∧ o.1 = m.1 ∧ AgL m.2.2.2.1 A9 ∧ Ag 69 m.2.2.2.2.2.2.2 n ∧ Bq be m.2.1 := by
  obtain ⟨hs, o, m, ho, hm, o1, m1, ho4, hm5, hA, hn⟩ := R_hear h ik n_e b_h se_h z_h f_ea f_hA k_hP se z s_h t_h w_h A im be bg tx ta fa cl A9 H9 fb fh
  have hl := ho4.2.2.1
  by_cases hi : i1 < 0
  · apply mk2
    · unfold fX8_longest
      rw [if_pos hi]
    · unfold fX9_longest
      rw [if_pos hi]
    · exact ⟨rfl, AgL.rf, Ag.rf, Or.inl rfl⟩
  · by_cases hp : bw i2 0 1 = 0
    · apply mk2
      · unfold fX8_longest
        rw [if_neg hi, p_bw, Option.bind_some, if_pos hp]
      · unfold fX9_longest
        rw [if_neg hi, q_bw, Option.bind_some, if_pos hp]
      · exact ⟨rfl, AgL.rf, Ag.rf, Or.inl rfl⟩
    · have h01 := bw_01 hp
      have hlg : fX1_longestGap i1 (nI hs.length) o.2.2.2.1 = fX1_longestGap_7 i1 (nI hs.length) o.2.2.2.1 500 (nI (hs.length - 1)) (nI 0) := by
        unfold fX1_longestGap
        rw [p_gaps _ hl, Option.bind_some]; rfl
      rcases lg_outer ho4 hm5 i1 i2 im tx ta fa cl m.2.1 m.2.2.1 m.2.2.2.1 m.2.2.2.2.2.1 m.2.2.2.2.2.2 (hs.length - 1) 0 500 500 (by omega) (by omega) (by omega) with ⟨e1, e2⟩ | ⟨q, hq, e1, e2⟩
      · rw [← hlg] at e1
        rw [nI_0] at e2
        by_cases c1 : i2 = 1
        · apply mk2
          · unfold fX8_longest
            rw [if_neg hi, p_bw, Option.bind_some, if_neg hp, ho, Option.bind_some, o1, e1, Option.bind_some, if_pos c1]
          · unfold fX9_longest
            rw [if_neg hi, q_bw, Option.bind_some, if_neg hp, hm, Option.bind_some, m1, e2]
          · exact ⟨rfl, hA, hn, Or.inr ⟨_, hl, rfl⟩⟩
        · apply mk2
          · unfold fX8_longest
            rw [if_neg hi, p_bw, Option.bind_some, if_neg hp, ho, Option.bind_some, o1, e1, Option.bind_some, if_neg c1, if_pos rfl]
          · unfold fX9_longest
            rw [if_neg hi, q_bw, Option.bind_some, if_neg hp, hm, Option.bind_some, m1, e2]
          · exact ⟨rfl, hA, hn, Or.inr ⟨_, hl, rfl⟩⟩
      · rw [← hlg] at e1
        rw [nI_0] at e2
        by_cases c1 : i2 = 1
        · apply mk2
          · unfold fX8_longest
            rw [if_neg hi, p_bw, Option.bind_some, if_neg hp, ho, Option.bind_some, o1, e1, Option.bind_some, if_pos c1]
          · unfold fX9_longest
            rw [if_neg hi, q_bw, Option.bind_some, if_neg hp, hm, Option.bind_some, m1, e2, if_neg (by rw [c1]; decide)]
          · exact ⟨rfl, hA, hn, Or.inr ⟨_, hl, rfl⟩⟩
        · have c0 : i2 = 0 := h01.resolve_right c1
          apply mk2
          · unfold fX8_longest
            rw [if_neg hi, p_bw, Option.bind_some, if_neg hp, ho, Option.bind_some, o1, e1, Option.bind_some, if_neg c1, if_neg (nI_ne5 (by omega)), p_gapAt ho4 hq, Option.bind_some]
          · unfold fX9_longest
            rw [if_neg hi, q_bw, Option.bind_some, if_neg hp, hm, Option.bind_some, m1, e2, if_pos c0]
          · exact ⟨rfl, hA, hn, Or.inr ⟨_, hl, rfl⟩⟩
/-! ODDS -/
theorem odds_both {L : List Pu} {b : Nat → Int32} {k : Int32} {t w s : Nat → Int32} (i1 i2 ik : Int32) (z_h : Int32) (se : Int64) (z : Int32) (A : Nat → Int64) (im tx ta fa cl : Int32) (hp : ¬ bw i2 0 1 = 0) : ∀ (r i fu fu9 c : Nat) (x4 n_e : Int32) (b_h : Nat → Int32) (se_h : Int64) (f_ea : Nat → Int32) (f_hA : Nat → Int64) (k_hP : Int32) (s_h t_h w_h : Nat → Int32) (be bg : Int32) (A9 H9 : Nat → Int64) (fb fh n : Nat → Int32),
    RBal L b k t w s n → i + r = 11 → r < fu → r < fu9 → c ≤ i → x4.toInt = 4 * (i : Int) - 20 →
    ∃ o m, fX8_odds_29 i1 i2 ik z_h b se z A k s t w fu (nI c) x4 n_e b_h se_h f_ea f_hA k_hP s_h t_h w_h = some o ∧ fX9_odds_29 i1 i2 im tx ta fa cl fu9 (nI c) x4 be bg A9 H9 fb fh n = some m ∧ o.1 = m.1 ∧ AgL m.2.2.2.1 A9 ∧ Ag 69 m.2.2.2.2.2.2.2 n ∧ Bq be m.2.1 := by
  intro r
  induction r with
  | zero =>
    intro i fu fu9 c x4 n_e b_h se_h f_ea f_hA k_hP s_h t_h w_h be bg A9 H9 fb fh n h hi hf hf9 hc hx
    obtain ⟨f1, rfl⟩ : ∃ f, fu = f + 1 := ⟨fu - 1, by omega⟩
    obtain ⟨f9, rfl⟩ : ∃ f, fu9 = f + 1 := ⟨fu9 - 1, by omega⟩
    have hlt : (20 : Int32) < x4 := by rw [i_lt, hx]; simp; omega
    obtain ⟨v, e1, e2⟩ := R_frac (a := c) (b := 11) (by omega) (by decide) (by decide) i2
    rw [if_neg hp] at e1
    apply mk2
    · rw [fX8_odds_29, if_pos hlt, nI_l (by omega), show (11 : Int64) = lN 11 from rfl, e1, Option.bind_some]
    · rw [fX9_odds_29, if_pos hlt, nI_l (by omega), show (11 : Int64) = lN 11 from rfl, e2, Option.bind_some]
    · exact ⟨rfl, AgL.rf, Ag.rf, Or.inl rfl⟩
  | succ r ih =>
    intro i fu fu9 c x4 n_e b_h se_h f_ea f_hA k_hP s_h t_h w_h be bg A9 H9 fb fh n h hi hf hf9 hc hx
    obtain ⟨f1, rfl⟩ : ∃ f, fu = f + 1 := ⟨fu - 1, by omega⟩
    obtain ⟨f9, rfl⟩ : ∃ f, fu9 = f + 1 := ⟨fu9 - 1, by omega⟩
    have hlt : ¬ (20 : Int32) < x4 := by rw [i_lt, hx]; simp; omega
    obtain ⟨hs, o, m, ho, hm, o1, m1, ho4, hm5, hA, hn⟩ := R_hearW h 1 (by decide) x4 ik n_e b_h se_h z_h f_ea f_hA k_hP se z s_h t_h w_h A im be bg tx ta fa cl A9 H9 fb fh
    rw [show nI 1 = (1 : Int32) from rfl] at ho hm
    have hx4 : (x4 + 4).toInt = 4 * ((i + 1 : Nat) : Int) - 20 := by
      rw [i_add (by rw [hx]; simp; omega) (by rw [hx]; simp; omega), hx]; simp; omega
    by_cases cc : nI hs.length < i1
    · obtain ⟨o2, m2, e1, e2, e3, e4, e5, e6⟩ := ih (i + 1) f1 f9 c (x4 + 4) o.1 o.2.1 o.2.2.1 o.2.2.2.1 o.2.2.2.2.1 o.2.2.2.2.2.1 o.2.2.2.2.2.2.1 o.2.2.2.2.2.2.2.1 o.2.2.2.2.2.2.2.2 m.1 m.2.1 m.2.2.1 m.2.2.2.1 m.2.2.2.2.1 m.2.2.2.2.2.1 m.2.2.2.2.2.2 (h.ag hn) (by omega) (by omega) (by omega) (by omega) hx4
      refine ⟨o2, m2, ?_, ?_, e3, fun j hj => (e4 j hj).trans (hA j hj), fun j hj => (e5 j hj).trans (hn j hj), Bq.tr (Or.inr ⟨_, ho4.2.2.1, m1⟩) e6⟩
      · rw [fX8_odds_29, if_neg hlt, ho, Option.bind_some, if_pos (by rw [o1]; exact cc), lt_eq]
        exact e1
      · rw [fX9_odds_29, if_neg hlt, hm, Option.bind_some, if_pos (by rw [m1]; exact cc), lt_eq]
        exact e2
    · obtain ⟨o2, m2, e1, e2, e3, e4, e5, e6⟩ := ih (i + 1) f1 f9 (c + 1) (x4 + 4) o.1 o.2.1 o.2.2.1 o.2.2.2.1 o.2.2.2.2.1 o.2.2.2.2.2.1 o.2.2.2.2.2.2.1 o.2.2.2.2.2.2.2.1 o.2.2.2.2.2.2.2.2 m.1 m.2.1 m.2.2.1 m.2.2.2.1 m.2.2.2.2.1 m.2.2.2.2.2.1 m.2.2.2.2.2.2 (h.ag hn) (by omega) (by omega) (by omega) (by omega) hx4
      refine ⟨o2, m2, ?_, ?_, e3, fun j hj => (e4 j hj).trans (hA j hj), fun j hj => (e5 j hj).trans (hn j hj), Bq.tr (Or.inr ⟨_, ho4.2.2.1, m1⟩) e6⟩
      · rw [fX8_odds_29, if_neg hlt, ho, Option.bind_some, if_neg (by rw [o1]; exact cc), lt_eq, lt_eq, nI_1]
        exact e1
      · rw [fX9_odds_29, if_neg hlt, hm, Option.bind_some, if_neg (by rw [m1]; exact cc), lt_eq, lt_eq, nI_1]
        exact e2
theorem A_odds {L : List Pu} {b : Nat → Int32} {k : Int32} {t w s n : Nat → Int32} (h : RBal L b k t w s n) (i1 i2 : Int32) (ik n_e : Int32) (b_h : Nat → Int32) (se_h : Int64) (z_h : Int32) (f_ea : Nat → Int32) (f_hA : Nat → Int64) (k_hP : Int32) (se : Int64) (z : Int32) (s_h t_h w_h : Nat → Int32) (A : Nat → Int64) (im be bg tx ta fa cl : Int32) (A9 H9 : Nat → Int64) (fb fh : Nat → Int32) : ∃ o m, fX8_odds i1 i2 ik n_e b_h se_h z_h f_ea f_hA k_hP b se z s_h t_h w_h A k s t w = some o ∧ fX9_odds i1 i2 im be bg tx ta fa cl A9 H9 fb fh n = some m ∧ o.1 = m.1 ∧ AgL m.2.2.2.1 A9 ∧ Ag 69 m.2.2.2.2.2.2.2 n ∧ Bq be m.2.1 := by
  by_cases h1 : bw i1 0 99 = 0
  · apply mk2
    · unfold fX8_odds
      rw [p_bw, Option.bind_some, if_pos h1]
    · unfold fX9_odds
      rw [q_bw, Option.bind_some, if_pos h1]
    · exact ⟨rfl, AgL.rf, Ag.rf, Or.inl rfl⟩
  · by_cases h2 : bw i2 0 1 = 0
    · apply mk2
      · unfold fX8_odds
        rw [p_bw, Option.bind_some, if_neg h1, p_bw, Option.bind_some, if_pos h2]
      · unfold fX9_odds
        rw [q_bw, Option.bind_some, if_neg h1, q_bw, Option.bind_some, if_pos h2]
      · exact ⟨rfl, AgL.rf, Ag.rf, Or.inl rfl⟩
    · obtain ⟨o, m, e1, e2, e3⟩ := odds_both i1 i2 ik z_h se z A im tx ta fa cl h2 11 0 500 500 0 (-20) n_e b_h se_h f_ea f_hA k_hP s_h t_h w_h be bg A9 H9 fb fh n h (by omega) (by omega) (by omega) (by omega) (by decide)
      refine ⟨o, m, ?_, ?_, e3⟩
      · unfold fX8_odds
        rw [p_bw, Option.bind_some, if_neg h1, p_bw, Option.bind_some, if_neg h2]
        exact e1
      · unfold fX9_odds
        rw [q_bw, Option.bind_some, if_neg h1, q_bw, Option.bind_some, if_neg h2]
        exact e2
