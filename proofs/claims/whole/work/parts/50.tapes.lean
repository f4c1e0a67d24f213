/-! TAPES -/
def TapOk (j : Nat) (so si : Int32) (fi : Nat → Int64) (fs fz : Nat → Int32) (gi : Nat → Int64) : Prop := ∃ sj zj : Nat, sj ≤ 5 ∧ zj ≤ 60 ∧ fs j = nI sj ∧ so = nI sj - 1 ∧ fz j = nI zj ∧ si = nI zj ∧ ∀ i, i < 60 → gi (60 * j + i) = fi i
def Oth (j : Nat) (fs2 fz2 : Nat → Int32) (gi2 : Nat → Int64) (fs fz : Nat → Int32) (gi : Nat → Int64) : Prop := ∀ x, x ≠ j → fs2 x = fs x ∧ fz2 x = fz x ∧ ∀ i, i < 60 → gi2 (60 * x + i) = gi (60 * x + i)
theorem Oth.rf {j : Nat} {fs fz : Nat → Int32} {gi : Nat → Int64} : Oth j fs fz gi fs fz gi := fun _ _ => ⟨rfl, rfl, fun _ _ => rfl⟩
theorem TapOk.oth {j x : Nat} {so si : Int32} {fi : Nat → Int64} {fs2 fz2 fs fz : Nat → Int32} {gi2 gi : Nat → Int64} (h : TapOk x so si fi fs fz gi) (ho : Oth j fs2 fz2 gi2 fs fz gi) (hx : x ≠ j) : TapOk x so si fi fs2 fz2 gi2 := by
  obtain ⟨sj, zj, h1, h2, h3, h4, h5, h6, h7⟩ := h
  obtain ⟨o1, o2, o3⟩ := ho x hx
  exact ⟨sj, zj, h1, h2, o1.trans h3, h4, o2.trans h5, h6, fun i hi => (o3 i hi).trans (h7 i hi)⟩
theorem p_tapeN {i1 : Int32} (hi : bw i1 0 5 = 0) (ik : Int32) (fq : Nat → Option Nat) : fX8_tapeAt i1 ik fq = some none := by
  unfold fX8_tapeAt
  rcases bw_hi hi with c | ⟨c, c2⟩
  · rw [if_pos c]
  · rw [if_neg c, if_pos (by rw [i_le]; have := i_lt.mp c2; rw [show (5 : Int32).toInt = 5 by decide] at this; rw [show (6 : Int32).toInt = 6 by decide]; omega)]
theorem q_tapeN {i1 : Int32} (hi : bw i1 0 5 = 0) : fX9_isTape i1 = some 0 := by
  unfold fX9_isTape
  rw [q_bw, Option.bind_some, hi]; rfl
theorem p_tapeY (j : Nat) (hj : j < 6) (ik : Int32) (fq : Nat → Option Nat) : fX8_tapeAt (nI j) ik fq = some (fq j) := by
  unfold fX8_tapeAt
  rw [if_neg (nI_pos (by omega)), if_neg (show ¬ (6 : Int32) ≤ nI j from nI_ge (b := 6) (by omega) (by decide)), gd_t (inb_nI (by omega) (by decide)), nI_clamp (by omega)]
theorem q_tapeY (j : Nat) (hj : j < 6) : fX9_isTape (nI j) = some 1 := by
  unfold fX9_isTape
  rw [q_bw, Option.bind_some, bw_1 (nI_pos (by omega)) (show ¬ (5 : Int32) < nI j from nI_nlt (a := 5) (by omega) (by decide))]; rfl
theorem oq_n {α : Type} {x : Option α} {a : Nat} {y : Option α} : oq none x a y = x := rfl
theorem oq_s {α : Type} {x : Option α} {a : Nat} {y : Option α} : oq (some a) x a y = y := if_pos rfl
theorem n01 : ¬ (1 : Int32) = 0 := by decide
theorem sixty (j x : Nat) : (60 : Int32) * nI j + nI x = nI (60 * j + x) := by rw [show (60 : Int32) = nI 60 from rfl, pk_mul, nI_add]
theorem p_has (x z : Nat) (hx : x < 2 ^ 31) (hz : z ≤ 60) (so : Int32) (f : Nat → Int64) : fX4_has (nI x) so (nI z) f = some (if x < z then 1 else 0) := by
  unfold fX4_has
  rw [if_neg (nI_pos hx)]
  by_cases c : x < z
  · rw [if_neg (nI_ge c (by omega)), if_neg (show ¬ (60 : Int32) ≤ nI x from nI_ge (b := 60) (by omega) (by decide)), if_pos c]
  · rw [if_pos (nI_le (by omega) hx), if_neg c]
theorem has_bw (i2 : Int32) (z : Nat) (hz : z ≤ 60) (so : Int32) (f : Nat → Int64) : fX4_has i2 so (nI z) f = some (bw i2 0 (nI z - 1)) ∧ (¬ bw i2 0 (nI z - 1) = 0 → ∃ x, x < z ∧ i2 = nI x) := by
  have h1m : (nI z - 1).toInt = (z : Int) - 1 := by
    rw [i_sub (by rw [nI_toInt (by omega), c_1]; omega) (by rw [nI_toInt (by omega), c_1]; omega), nI_toInt (by omega), c_1]
  constructor
  · unfold fX4_has bw
    by_cases c : i2 < 0
    · rw [if_pos c, if_pos c]
    · rw [if_neg c, if_neg c]
      have c0 := i_le.mp (Int32.not_lt.mp c)
      by_cases c2 : nI z ≤ i2
      · have c2' := i_le.mp c2
        rw [nI_toInt (by omega)] at c2'
        rw [if_pos c2, if_pos (by rw [i_lt, h1m]; omega)]
      · have c2' := i_lt.mp (Int32.not_le.mp c2)
        rw [nI_toInt (by omega)] at c2'
        rw [if_neg c2, if_neg (by rw [i_le, show (60 : Int32).toInt = 60 by decide]; omega), if_neg (by rw [i_lt, h1m]; omega)]
  · intro hb
    obtain ⟨g1, g2⟩ := bw_rg hb
    rw [c_0] at g1
    rw [h1m] at g2
    exact ⟨i2.toInt.toNat, by omega, by rw [i_eq, nI_toInt (by omega)]; omega⟩
theorem l_add {a b : Int64} (h1 : -9223372036854775808 ≤ a.toInt + b.toInt) (h2 : a.toInt + b.toInt < 9223372036854775808) : (a + b).toInt = a.toInt + b.toInt := by
  rw [Int64.toInt_add]
  exact Int.bmod_eq_of_le (by omega) (by omega)
theorem iL_add (a b : Int32) : (a.toInt64 + b.toInt64).toInt = a.toInt + b.toInt := by
  have r1 := i_rng a
  have r2 := i_rng b
  rw [l_add (by rw [iL, iL]; omega) (by rw [iL, iL]; omega), iL, iL]
theorem judge_both (ik : Int32) (so : Int32) (i2 : Int32) {hs : List Nat} {f fb : Nat → Int32} (h : Hrd hs 400 f) (h9 : Hrd hs 400 fb) (j z : Nat) (hj : j < 6) (hz : z ≤ 60) (fi gi : Nat → Int64) (fs fz : Nat → Int32) (hfz : fz j = nI z) (hit : ∀ i, i < 60 → gi (60 * j + i) = fi i) (im tx ta fa cl bg : Int32) (A9 H9 : Nat → Int64) (fh n : Nat → Int32) : ∀ (r k fu fu9 : Nat), k + r = hs.length → r < fu → r < fu9 →
    ∃ x, fX8_judgement_2 i2 ik so (nI z) (nI hs.length) fi f fu (nI k) = some x ∧ fX9_judge_37 (nI j) i2 im tx ta fa cl gi fs fz fu9 (nI k) (nI hs.length) bg A9 H9 fb fh n = some (x, nI hs.length, bg, A9, H9, fb, fh, n) := by
  have hl := h.2.2.1
  intro r
  induction r with
  | zero =>
    intro k fu fu9 hk hf hf9
    obtain ⟨f1, rfl⟩ : ∃ f, fu = f + 1 := ⟨fu - 1, by omega⟩
    obtain ⟨f9, rfl⟩ : ∃ f, fu9 = f + 1 := ⟨fu9 - 1, by omega⟩
    have hle : nI hs.length ≤ nI k := nI_le (by omega) (by omega)
    refine ⟨-5, ?_, ?_⟩
    · rw [fX8_judgement_2, if_pos hle]
    · rw [fX9_judge_37, if_pos hle]
  | succ r ih =>
    intro k fu fu9 hk hf hf9
    obtain ⟨f1, rfl⟩ : ∃ f, fu = f + 1 := ⟨fu - 1, by omega⟩
    obtain ⟨f9, rfl⟩ : ∃ f, fu9 = f + 1 := ⟨fu9 - 1, by omega⟩
    have hle : ¬ nI hs.length ≤ nI k := nI_ge (by omega) (by omega)
    by_cases c0 : i2 < 0
    · refine ⟨100 + nI k, ?_, ?_⟩
      · rw [fX8_judgement_2, if_neg hle, if_pos c0]
      · rw [fX9_judge_37, if_neg hle, if_pos c0]
    obtain ⟨q, hq, rfl⟩ := nI_of c0
    have ij : inb (nI j) 6 = true := inb_nI (by omega) (by decide)
    have hsub : (nI z - nI k).toInt = (z : Int) - k := pk_sub_toInt (by omega) (by omega)
    have hcmp : (lg_cmp ((nI q).toInt64 + (nI k).toInt64) ((nI z).toInt64) < 0) ↔ q + k < z := by
      rw [lg_cmp_lt, l_lt, iL_add, iL, nI_toInt hq, nI_toInt (by omega), nI_toInt (by omega)]
      omega
    by_cases c1 : q + k < z
    · have hns : ¬ (nI z - nI k) ≤ nI q := by rw [i_le, hsub, nI_toInt hq]; omega
      have e60 : (60 : Int32) * nI j + nI q + nI k = nI (60 * j + (q + k)) := by rw [sixty, nI_add]; congr 1; omega
      have hbe := p_beatAt h (i := k) (by omega)
      by_cases c2 : lg_cmp (fi (q + k)) ((nI (hd0 hs k)).toInt64) = 0
      · obtain ⟨x, e1, e2⟩ := ih (k + 1) f1 f9 (by omega) (by omega) (by omega)
        refine ⟨x, ?_, ?_⟩
        · rw [fX8_judgement_2, if_neg hle, if_neg c0, if_neg hns, nI_add, p_has _ _ (by omega) hz, Option.bind_some, if_pos c1, if_neg n01, gd_t (inb_nI (by omega) (by decide)), hbe, Option.bind_some, nI_clamp (by omega), if_pos c2, lt_eq, nI_1]
          exact e1
        · rw [fX9_judge_37, if_neg hle, if_neg c0, gd_t ij, nI_clamp (by omega), hfz, if_pos (hcmp.mpr c1), e60, gd_t (inb_nI (by omega) (by decide)), gd_t (inb_nI (by omega) (by decide)), nI_clamp (by omega), nI_clamp (by omega), (h9.at (i := k) (by omega)).1, hit _ (by omega), if_pos c2, lt_eq, nI_1]
          exact e2
      · refine ⟨nI k, ?_, ?_⟩
        · rw [fX8_judgement_2, if_neg hle, if_neg c0, if_neg hns, nI_add, p_has _ _ (by omega) hz, Option.bind_some, if_pos c1, if_neg n01, gd_t (inb_nI (by omega) (by decide)), hbe, Option.bind_some, nI_clamp (by omega), if_neg c2]
        · rw [fX9_judge_37, if_neg hle, if_neg c0, gd_t ij, nI_clamp (by omega), hfz, if_pos (hcmp.mpr c1), e60, gd_t (inb_nI (by omega) (by decide)), gd_t (inb_nI (by omega) (by decide)), nI_clamp (by omega), nI_clamp (by omega), (h9.at (i := k) (by omega)).1, hit _ (by omega), if_neg c2]
    · have hns : (nI z - nI k) ≤ nI q := by rw [i_le, hsub, nI_toInt hq]; omega
      refine ⟨100 + nI k, ?_, ?_⟩
      · rw [fX8_judgement_2, if_neg hle, if_neg c0, if_pos hns]
      · rw [fX9_judge_37, if_neg hle, if_neg c0, gd_t ij, nI_clamp (by omega), hfz, if_neg (fun g => c1 (hcmp.mp g))]
theorem A_judgeN {L : List Pu} {b : Nat → Int32} {k : Int32} {t w s n : Nat → Int32} (h : RBal L b k t w s n) (ik n_e : Int32) (b_h : Nat → Int32) (se_h : Int64) (z_h : Int32) (f_ea : Nat → Int32) (f_hA : Nat → Int64) (k_hP : Int32) (se : Int64) (z : Int32) (s_h t_h w_h : Nat → Int32) (A : Nat → Int64) (im be bg tx ta fa cl : Int32) (A9 H9 : Nat → Int64) (fb fh : Nat → Int32) (i1 i2 : Int32) (hi : bw i1 0 5 = 0) (rp : Nat) (so si : Int32) (fq : Nat → Option Nat) (fi gi : Nat → Int64) (fs fz : Nat → Int32) :
    ∃ o m, fX8_judge rp i1 i2 ik n_e b_h se_h z_h so si fq f_ea f_hA k_hP b se z fi s_h t_h w_h A k s t w = some o ∧ fX9_judge i1 i2 im be bg tx ta fa cl A9 H9 fb fh gi n fs fz = some m ∧ o.1 = m.1 ∧ AgL m.2.2.2.1 A9 ∧ Ag 69 m.2.2.2.2.2.2.2 n ∧ Bq be m.2.1 := by
  apply mk2
  · unfold fX8_judge
    rw [p_tapeN hi, Option.bind_some, oq_n]
  · unfold fX9_judge
    rw [q_tapeN hi, Option.bind_some, if_pos rfl]
  · exact ⟨rfl, AgL.rf, Ag.rf, Or.inl rfl⟩
theorem A_judgeY {L : List Pu} {b : Nat → Int32} {k : Int32} {t w s n : Nat → Int32} (h : RBal L b k t w s n) (ik n_e : Int32) (b_h : Nat → Int32) (se_h : Int64) (z_h : Int32) (f_ea : Nat → Int32) (f_hA : Nat → Int64) (k_hP : Int32) (se : Int64) (z : Int32) (s_h t_h w_h : Nat → Int32) (A : Nat → Int64) (im be bg tx ta fa cl : Int32) (A9 H9 : Nat → Int64) (fb fh : Nat → Int32) (j : Nat) (hj : j < 6) (i2 : Int32) (rp : Nat) (so si : Int32) (fq : Nat → Option Nat) (hfq : fq j = some rp) (fi gi : Nat → Int64) (fs fz : Nat → Int32) (hT : TapOk j so si fi fs fz gi) :
    ∃ o m, fX8_judge rp (nI j) i2 ik n_e b_h se_h z_h so si fq f_ea f_hA k_hP b se z fi s_h t_h w_h A k s t w = some o ∧ fX9_judge (nI j) i2 im be bg tx ta fa cl A9 H9 fb fh gi n fs fz = some m ∧ o.1 = m.1 ∧ AgL m.2.2.2.1 A9 ∧ Ag 69 m.2.2.2.2.2.2.2 n ∧ Bq be m.2.1 := by
  obtain ⟨sj, zj, h1, h2, h3, h4, h5, h6, h7⟩ := hT
  have ij : inb (nI j) 6 = true := inb_nI (by omega) (by decide)
  obtain ⟨hs, o, m, ho, hm, o1, m1, ho4, hm5, hA, hn⟩ := R_hear h ik n_e b_h se_h z_h f_ea f_hA k_hP se z s_h t_h w_h A im be bg tx ta fa cl A9 H9 fb fh
  have hl := ho4.2.2.1
  obtain ⟨x, e1, e2⟩ := judge_both ik so i2 ho4 hm5 j zj hj h2 fi gi fs fz h5 h7 im tx ta fa cl m.2.1 m.2.2.1 m.2.2.2.1 m.2.2.2.2.2.1 m.2.2.2.2.2.2 hs.length 0 500 500 (by omega) (by omega) (by omega)
  have hrun : fX9_judge_37 (nI j) i2 im tx ta fa cl gi fs fz 500 0 m.1 m.2.1 m.2.2.1 m.2.2.2.1 m.2.2.2.2.1 m.2.2.2.2.2.1 m.2.2.2.2.2.2 = some (x, nI hs.length, m.2.1, m.2.2.1, m.2.2.2.1, m.2.2.2.2.1, m.2.2.2.2.2.1, m.2.2.2.2.2.2) := by
    rw [m1]
    exact e2
  have hjd : fX8_judgement i2 ik so si o.1 fi o.2.2.2.1 = some x := by
    unfold fX8_judgement
    rw [o1, h6]
    exact e1
  have hq : sj = 0 ∨ sj = 2 ∨ (sj ≠ 0 ∧ sj ≠ 2) := by omega
  rcases hq with c | c | ⟨c, c2⟩
  · subst c
    apply mk2
    · unfold fX8_judge
      rw [p_tapeY j hj, Option.bind_some, hfq, oq_s, if_neg (show ¬ so = 1 by rw [h4]; decide), if_pos (show so = -1 by rw [h4]; decide), ho, Option.bind_some, hjd, Option.bind_some]
    · unfold fX9_judge
      rw [q_tapeY j hj, Option.bind_some, if_neg n01, gd_t ij, nI_clamp (by omega), h3, if_pos (show nI 0 = 0 from rfl), hm, Option.bind_some]
      exact hrun
    · exact ⟨rfl, hA, hn, Or.inr ⟨_, hl, rfl⟩⟩
  · subst c
    apply mk2
    · unfold fX8_judge
      rw [p_tapeY j hj, Option.bind_some, hfq, oq_s, if_pos (show so = 1 by rw [h4]; decide), ho, Option.bind_some, hjd, Option.bind_some]
    · unfold fX9_judge
      rw [q_tapeY j hj, Option.bind_some, if_neg n01, gd_t ij, gd_t ij, nI_clamp (by omega), h3, if_neg (show ¬ nI 2 = 0 by decide), if_pos (show nI 2 = 2 from rfl), hm, Option.bind_some]
      exact hrun
    · exact ⟨rfl, hA, hn, Or.inr ⟨_, hl, rfl⟩⟩
  · have s0 : ¬ nI sj = 0 := nI_ne0 (by omega) (by omega)
    have s2 : ¬ nI sj = 2 := by rw [show (2 : Int32) = nI 2 from rfl, nI_eq (by omega) (by decide)]; exact c2
    obtain ⟨v, rfl⟩ : ∃ v, sj = v + 1 := ⟨sj - 1, by omega⟩
    rw [nI_pred] at h4
    apply mk2
    · unfold fX8_judge
      rw [p_tapeY j hj, Option.bind_some, hfq, oq_s, if_neg (show ¬ so = 1 by rw [h4, show (1 : Int32) = nI 1 from rfl, nI_eq (by omega) (by decide)]; omega), if_neg (show ¬ so = -1 by rw [h4]; intro q; exact nI_pos (n := v) (by omega) (by rw [q]; decide))]
    · unfold fX9_judge
      rw [q_tapeY j hj, Option.bind_some, if_neg n01, gd_t ij, gd_t ij, nI_clamp (by omega), h3, if_neg s0, if_neg s2]
    · exact ⟨rfl, AgL.rf, Ag.rf, Or.inl rfl⟩
theorem p_clear (a b : Int32) : ∀ (r i fu : Nat) (f : Nat → Int64), i + r = 60 → r < fu → (∀ x, x < i → f x = 0) → ∃ f2, fX4_clear_12 a b fu (nI i) a b f = some (a, b, f2) ∧ ∀ x, x < 60 → f2 x = 0 := by
  intro r
  induction r with
  | zero =>
    intro i fu f hi hf h
    obtain ⟨f1, rfl⟩ : ∃ f, fu = f + 1 := ⟨fu - 1, by omega⟩
    refine ⟨f, ?_, fun x hx => h x (by omega)⟩
    rw [fX4_clear_12, if_pos (show (60 : Int32) ≤ nI i from nI_le (a := 60) (by omega) (by omega))]
  | succ r ih =>
    intro i fu f hi hf h
    obtain ⟨f1, rfl⟩ : ∃ f, fu = f + 1 := ⟨fu - 1, by omega⟩
    obtain ⟨f2, e1, e2⟩ := ih (i + 1) f1 (vp_updL f i 0) (by omega) (by omega) (fun x hx => by
      rw [updL_at]
      by_cases c : x = i
      · rw [if_pos c]
      · rw [if_neg c]; exact h x (by omega))
    refine ⟨f2, ?_, e2⟩
    rw [fX4_clear_12, if_neg (show ¬ (60 : Int32) ≤ nI i from nI_ge (b := 60) (by omega) (by decide)), gd_t (inb_nI (by omega) (by decide)), lt_eq, lt_eq, nI_clamp (by omega), nI_1]
    exact e1
theorem q_clear (j : Nat) (hj : j < 6) (i2 i3 im be bg tx ta fa cl : Int32) (fs fz : Nat → Int32) : ∀ (r i fu : Nat) (f : Nat → Int64), i + r = 60 → r < fu → (∀ x, x < i → f (60 * j + x) = 0) →
    ∃ f2, fX9_tape_69 (nI j) i2 i3 im be bg tx ta fa cl fu (nI i) f fs fz = some (1, f2, fs, fz) ∧ (∀ x, x < 60 → f2 (60 * j + x) = 0) ∧ ∀ y, ¬ (60 * j ≤ y ∧ y < 60 * j + 60) → f2 y = f y := by
  intro r
  induction r with
  | zero =>
    intro i fu f hi hf h
    obtain ⟨f1, rfl⟩ : ∃ f, fu = f + 1 := ⟨fu - 1, by omega⟩
    refine ⟨f, ?_, fun x hx => h x (by omega), fun _ _ => rfl⟩
    rw [fX9_tape_69, if_pos (show (60 : Int32) ≤ nI i from nI_le (a := 60) (by omega) (by omega))]
  | succ r ih =>
    intro i fu f hi hf h
    obtain ⟨f1, rfl⟩ : ∃ f, fu = f + 1 := ⟨fu - 1, by omega⟩
    obtain ⟨f2, e1, e2, e3⟩ := ih (i + 1) f1 (vp_updL f (60 * j + i) 0) (by omega) (by omega) (fun x hx => by
      rw [updL_at]
      by_cases c : x = i
      · rw [if_pos (by omega)]
      · rw [if_neg (by omega)]; exact h x (by omega))
    refine ⟨f2, ?_, e2, fun y hy => by rw [e3 y hy, updL_at, if_neg (by omega)]⟩
    rw [fX9_tape_69, if_neg (show ¬ (60 : Int32) ≤ nI i from nI_ge (b := 60) (by omega) (by decide)), sixty, gd_t (inb_nI (by omega) (by decide)), lt_eq, lt_eq, nI_clamp (by omega), nI_1]
    exact e1
theorem q_tape42 (j : Nat) (hj : j < 6) (i2 i3 im be bg tx ta fa cl : Int32) (gi : Nat → Int64) (fs fz : Nat → Int32) (sj zj : Nat) (hs : sj ≤ 5) (hz : zj ≤ 60) (e2 : i2 + 1 = nI sj) (e3 : (if (0 : Int32) ≤ i2 then i3 else 0) = nI zj) :
    ∃ g2 fs2 fz2, fX9_tape_42 (nI j) i2 i3 im be bg tx ta fa cl gi fs fz = some (1, g2, fs2, fz2) ∧ Oth j fs2 fz2 g2 fs fz gi ∧ fs2 j = nI sj ∧ fz2 j = nI zj ∧ ∀ x, x < 60 → g2 (60 * j + x) = 0 := by
  have ij : inb (nI j) 6 = true := inb_nI (by omega) (by decide)
  obtain ⟨g2, a1, a2, a3⟩ := q_clear j hj i2 i3 im be bg tx ta fa cl (upd fs j (nI sj)) (upd fz j (nI zj)) 60 0 500 gi (by omega) (by omega) (fun x hx => absurd hx (Nat.not_lt_zero x))
  have a1 : fX9_tape_69 (nI j) i2 i3 im be bg tx ta fa cl 500 0 gi (upd fs j (nI sj)) (upd fz j (nI zj)) = _ := a1
  refine ⟨g2, upd fs j (nI sj), upd fz j (nI zj), ?_, fun x hx => ⟨by rw [upd_at, if_neg hx], by rw [upd_at, if_neg hx], fun i hi => a3 _ (by omega)⟩, by rw [upd_at, if_pos rfl], by rw [upd_at, if_pos rfl], a2⟩
  unfold fX9_tape_42
  rw [gd_t ij, lt_eq, gd_t ij, gd_t ij, lt_eq, lt_eq, nI_clamp (by omega), e2]
  by_cases c : (0 : Int32) ≤ i2
  · rw [if_pos c] at e3 ⊢
    rw [show upd fz j i3 = upd fz j (nI zj) by rw [e3]]
    exact a1
  · rw [if_neg c] at e3 ⊢
    rw [show upd fz j 0 = upd fz j (nI zj) by rw [← e3]]
    exact a1
theorem A_tapeN (i1 i2 i3 : Int32) (hi : bw i1 0 5 = 0) (rp : Nat) (ik so si : Int32) (fq : Nat → Option Nat) (fi gi : Nat → Int64) (fs fz : Nat → Int32) (im be bg tx ta fa cl : Int32) :
    fX8_tape rp i1 i2 i3 ik so si fq fi = some (-1, so, si, fi) ∧ fX9_tape i1 i2 i3 im be bg tx ta fa cl gi fs fz = some (-1, gi, fs, fz) := by
  constructor
  · unfold fX8_tape
    rw [p_tapeN hi, Option.bind_some, oq_n]
  · unfold fX9_tape
    rw [q_tapeN hi, Option.bind_some, if_pos rfl]
theorem A_tapeY (j : Nat) (hj : j < 6) (i2 i3 : Int32) (rp : Nat) (ik so si : Int32) (fq : Nat → Option Nat) (hfq : fq j = some rp) (fi gi : Nat → Int64) (fs fz : Nat → Int32) (hT : TapOk j so si fi fs fz gi) (im be bg tx ta fa cl : Int32) :
    ∃ o m, fX8_tape rp (nI j) i2 i3 ik so si fq fi = some o ∧ fX9_tape (nI j) i2 i3 im be bg tx ta fa cl gi fs fz = some m ∧ o.1 = m.1 ∧ TapOk j o.2.1 o.2.2.1 o.2.2.2 m.2.2.1 m.2.2.2 m.2.1 ∧ Oth j m.2.2.1 m.2.2.2 m.2.1 fs fz gi := by
  by_cases hm : i2 = -1
  · subst hm
    obtain ⟨f2, b1, b2⟩ := p_clear (-1) 0 60 0 500 fi (by omega) (by omega) (fun x hx => absurd hx (Nat.not_lt_zero x))
    obtain ⟨g2, fs2, fz2, a1, a2, a3, a4, a5⟩ := q_tape42 j hj (-1) i3 im be bg tx ta fa cl gi fs fz 0 0 (by omega) (by omega) (by decide) (by rw [if_neg (by decide)]; rfl)
    apply mk2
    · unfold fX8_tape
      rw [p_tapeY j hj, Option.bind_some, hfq, oq_s, if_pos rfl, show fX4_clear (-1) 0 so si fi = some (-1, 0, f2) from b1, Option.bind_some]
    · unfold fX9_tape
      rw [q_tapeY j hj, Option.bind_some, if_neg n01, q_bw, Option.bind_some, if_neg (show ¬ bw (-1) (-1) 4 = 0 by decide), if_pos (show (-1 : Int32) < 0 by decide), if_pos (show (-1 : Int32) < 0 by decide), a1]
    · exact ⟨rfl, ⟨0, 0, by omega, by omega, a3, by show (-1 : Int32) = _; decide, a4, rfl, fun i hi => (a5 i hi).trans (b2 i hi).symm⟩, a2⟩
  by_cases hb : bw i2 0 4 = 0
  · have hb2 : bw i2 (-1) 4 = 0 := by
      unfold bw
      rcases bw_hi hb with c | ⟨c, c2⟩
      · rw [if_pos]
        have c := i_lt.mp c
        rw [c_0] at c
        rw [i_lt, show (-1 : Int32).toInt = -1 by decide]
        have : ¬ i2.toInt = -1 := fun q => hm (i_eq.mpr (q.trans (by decide)))
        omega
      · split
        · rfl
        · first | rfl | rw [if_pos c2]
    apply mk2
    · unfold fX8_tape
      rw [p_tapeY j hj, Option.bind_some, hfq, oq_s, if_neg hm, p_bw, Option.bind_some, if_pos hb]
    · unfold fX9_tape
      rw [q_tapeY j hj, Option.bind_some, if_neg n01, q_bw, Option.bind_some, if_pos hb2]
    · exact ⟨rfl, hT, Oth.rf⟩
  have hb' := hb
  obtain ⟨v, hv, rfl⟩ := bw_of (n := 4) rfl hb
  have hb2 : ¬ bw (nI v) (-1) 4 = 0 := by
    rw [bw_1]
    · exact n01
    · rw [i_lt, nI_toInt (by omega), show (-1 : Int32).toInt = -1 by decide]; omega
    · exact nI_nlt (a := 4) (by omega) (by decide)
  have hn0 : ¬ nI v < 0 := nI_pos (by omega)
  by_cases c60 : i3 ≤ 60
  · by_cases c0 : (0 : Int32) ≤ i3
    · obtain ⟨zj, hz, rfl⟩ := nI_of2 (M := 60) (n := 60) rfl (Int32.not_lt.mpr c0) c60
      obtain ⟨f2, b1, b2⟩ := p_clear (nI v) (nI zj) 60 0 500 fi (by omega) (by omega) (fun x hx => absurd hx (Nat.not_lt_zero x))
      obtain ⟨g2, fs2, fz2, a1, a2, a3, a4, a5⟩ := q_tape42 j hj (nI v) (nI zj) im be bg tx ta fa cl gi fs fz (v + 1) zj (by omega) hz (nI_1 v) (by rw [if_pos (nI_pos' (by omega))])
      apply mk2
      · unfold fX8_tape
        rw [p_tapeY j hj, Option.bind_some, hfq, oq_s, if_neg hm, p_bw, Option.bind_some, if_neg hb', if_pos c60, if_pos c0, show fX4_clear (nI v) (nI zj) so si fi = some (nI v, nI zj, f2) from b1, Option.bind_some]
      · unfold fX9_tape
        rw [q_tapeY j hj, Option.bind_some, if_neg n01, q_bw, Option.bind_some, if_neg hb2, if_neg hn0, if_pos c60, if_neg hn0, if_pos c0, a1]
      · exact ⟨rfl, ⟨v + 1, zj, by omega, hz, a3, (nI_pred v).symm, a4, rfl, fun i hi => (a5 i hi).trans (b2 i hi).symm⟩, a2⟩
    · apply mk2
      · unfold fX8_tape
        rw [p_tapeY j hj, Option.bind_some, hfq, oq_s, if_neg hm, p_bw, Option.bind_some, if_neg hb', if_pos c60, if_neg c0]
      · unfold fX9_tape
        rw [q_tapeY j hj, Option.bind_some, if_neg n01, q_bw, Option.bind_some, if_neg hb2, if_neg hn0, if_pos c60, if_neg hn0, if_neg c0]
      · exact ⟨rfl, hT, Oth.rf⟩
  · apply mk2
    · unfold fX8_tape
      rw [p_tapeY j hj, Option.bind_some, hfq, oq_s, if_neg hm, p_bw, Option.bind_some, if_neg hb', if_neg c60]
    · unfold fX9_tape
      rw [q_tapeY j hj, Option.bind_some, if_neg n01, q_bw, Option.bind_some, if_neg hb2, if_neg hn0, if_neg c60]
    · exact ⟨rfl, hT, Oth.rf⟩
theorem A_itemN (i1 i2 : Int32) (i3 : Int64) (hi : bw i1 0 5 = 0) (rp : Nat) (ik so si : Int32) (fq : Nat → Option Nat) (fi gi : Nat → Int64) (fs fz : Nat → Int32) (im be bg tx ta fa cl : Int32) :
    fX8_item rp i1 i2 i3 ik so si fq fi = some (-1, fi) ∧ fX9_item i1 i2 i3 im be bg tx ta fa cl gi fs fz = some (-1, gi) := by
  constructor
  · unfold fX8_item
    rw [p_tapeN hi, Option.bind_some, oq_n]
  · unfold fX9_item
    rw [q_tapeN hi, Option.bind_some, if_pos rfl]
def itv (sj : Nat) (v : Int64) : Int64 := if sj = 1 then v.toInt32.toInt8.toInt32.toInt64 else if sj = 2 then v.toInt32.toInt16.toInt32.toInt64 else if sj = 3 then v.toInt32.toInt64 else if sj = 4 then v else if lg_cmp v 0 = 0 then 0 else 1
theorem p_asItem (sj : Nat) (h0 : 0 < sj) (h5 : sj ≤ 5) (v : Int64) (si : Int32) : fX4_asItem v (nI sj - 1) si = some (itv sj v) := by
  have : sj = 1 ∨ sj = 2 ∨ sj = 3 ∨ sj = 4 ∨ sj = 5 := by omega
  rcases this with rfl | rfl | rfl | rfl | rfl
  · rfl
  · rfl
  · rfl
  · rfl
  · show (if lg_cmp v 0 = 0 then some 0 else some 1) = some (if lg_cmp v 0 = 0 then (0 : Int64) else 1)
    split <;> rfl
theorem A_itemY (j : Nat) (hj : j < 6) (i2 : Int32) (i3 : Int64) (rp : Nat) (ik so si : Int32) (fq : Nat → Option Nat) (hfq : fq j = some rp) (fi gi : Nat → Int64) (fs fz : Nat → Int32) (hT : TapOk j so si fi fs fz gi) (im be bg tx ta fa cl : Int32) :
    ∃ o m, fX8_item rp (nI j) i2 i3 ik so si fq fi = some o ∧ fX9_item (nI j) i2 i3 im be bg tx ta fa cl gi fs fz = some m ∧ o.1 = m.1 ∧ TapOk j so si o.2 fs fz m.2 ∧ Oth j fs fz m.2 fs fz gi := by
  have hT' := hT
  obtain ⟨sj, zj, h1, h2, h3, h4, h5, h6, h7⟩ := hT
  have ij : inb (nI j) 6 = true := inb_nI (by omega) (by decide)
  by_cases c0 : sj = 0
  · subst c0
    apply mk2
    · unfold fX8_item
      rw [p_tapeY j hj, Option.bind_some, hfq, oq_s, if_pos (show so = -1 by rw [h4]; decide)]
    · unfold fX9_item
      rw [q_tapeY j hj, Option.bind_some, if_neg n01, gd_t ij, nI_clamp (by omega), h3, if_pos (show nI 0 = 0 from rfl)]
    · exact ⟨rfl, hT', Oth.rf⟩
  have s0 : ¬ nI sj = 0 := nI_ne0 (by omega) (by omega)
  have sm : ¬ so = -1 := by
    obtain ⟨v, rfl⟩ : ∃ v, sj = v + 1 := ⟨sj - 1, by omega⟩
    rw [nI_pred] at h4
    rw [h4]; intro q; exact nI_pos (n := v) (by omega) (by rw [q]; decide)
  obtain ⟨g1, g2⟩ := has_bw i2 zj h2 so fi
  by_cases cb : bw i2 0 (nI zj - 1) = 0
  · apply mk2
    · unfold fX8_item
      rw [p_tapeY j hj, Option.bind_some, hfq, oq_s, if_neg sm, h6, g1, Option.bind_some, if_pos cb]
    · unfold fX9_item
      rw [q_tapeY j hj, Option.bind_some, if_neg n01, gd_t ij, nI_clamp (by omega), h3, if_neg s0, gd_t ij, q_bw, Option.bind_some, h5, if_pos cb]
    · exact ⟨rfl, hT', Oth.rf⟩
  obtain ⟨x, hx, rfl⟩ := g2 cb
  have hm9 : fX9_item (nI j) (nI x) i3 im be bg tx ta fa cl gi fs fz = some (1, vp_updL gi (60 * j + x) (itv sj i3)) := by
    unfold fX9_item
    rw [q_tapeY j hj, Option.bind_some, if_neg n01, gd_t ij, nI_clamp (by omega), h3, if_neg s0, gd_t ij, q_bw, Option.bind_some, h5, if_neg cb, gd_t ij, lt_eq, sixty]
    simp only [gd_t (inb_nI (show 60 * j + x < 360 by omega) (by decide)), lt_eq]
    rw [nI_clamp (by omega)]
    have : sj = 1 ∨ sj = 2 ∨ sj = 3 ∨ sj = 4 ∨ sj = 5 := by omega
    rcases this with rfl | rfl | rfl | rfl | rfl
    · rfl
    · rfl
    · rfl
    · rfl
    · show (if lg_cmp i3 0 = 0 then some (1, vp_updL gi (60 * j + x) 0) else some (1, vp_updL gi (60 * j + x) 1)) = some ((1 : Int32), vp_updL gi (60 * j + x) (if lg_cmp i3 0 = 0 then (0 : Int64) else 1))
      split <;> rfl
  apply mk2
  · unfold fX8_item
    rw [p_tapeY j hj, Option.bind_some, hfq, oq_s, if_neg sm, h6, g1, Option.bind_some, if_neg cb, h4, p_asItem sj (by omega) h1, Option.bind_some, gd_t (inb_nI (by omega) (by decide)), lt_eq, nI_clamp (by omega)]
  · exact hm9
  · refine ⟨rfl, ⟨sj, zj, h1, h2, h3, h4, h5, h6, fun i hi => ?_⟩, fun y hy => ⟨rfl, rfl, fun i hi => ?_⟩⟩
    · show vp_updL gi (60 * j + x) (itv sj i3) (60 * j + i) = vp_updL fi x (itv sj i3) i
      rw [updL_at, updL_at]
      by_cases c : i = x
      · rw [if_pos (by omega), if_pos c]
      · rw [if_neg (by omega), if_neg c]; exact h7 i hi
    · show vp_updL gi (60 * j + x) (itv sj i3) (60 * y + i) = gi (60 * y + i)
      rw [updL_at, if_neg (by omega)]
theorem A_peekN (i1 i2 : Int32) (hi : bw i1 0 5 = 0) (rp : Nat) (ik so si : Int32) (fq : Nat → Option Nat) (fi gi : Nat → Int64) (fz : Nat → Int32) (im be bg tx ta fa cl : Int32) :
    ∃ r, fX8_peek rp i1 i2 ik so si fq fi = some r ∧ fX9_peek i1 i2 im be bg tx ta fa cl gi fz = some r := by
  refine ⟨-9223372036854775808, ?_, ?_⟩
  · unfold fX8_peek
    rw [p_tapeN hi, Option.bind_some, oq_n]
  · unfold fX9_peek
    rw [q_tapeN hi, Option.bind_some, if_pos rfl]
theorem A_peekY (j : Nat) (hj : j < 6) (i2 : Int32) (rp : Nat) (ik so si : Int32) (fq : Nat → Option Nat) (hfq : fq j = some rp) (fi gi : Nat → Int64) (fs fz : Nat → Int32) (hT : TapOk j so si fi fs fz gi) (im be bg tx ta fa cl : Int32) :
    ∃ r, fX8_peek rp (nI j) i2 ik so si fq fi = some r ∧ fX9_peek (nI j) i2 im be bg tx ta fa cl gi fz = some r := by
  obtain ⟨sj, zj, h1, h2, h3, h4, h5, h6, h7⟩ := hT
  have ij : inb (nI j) 6 = true := inb_nI (by omega) (by decide)
  obtain ⟨g1, g2⟩ := has_bw i2 zj h2 so fi
  by_cases cb : bw i2 0 (nI zj - 1) = 0
  · refine ⟨-9223372036854775808, ?_, ?_⟩
    · unfold fX8_peek
      rw [p_tapeY j hj, Option.bind_some, hfq, oq_s, h6, g1, Option.bind_some, if_pos cb]
    · unfold fX9_peek
      rw [q_tapeY j hj, Option.bind_some, if_neg n01, gd_t ij, q_bw, Option.bind_some, nI_clamp (by omega), h5, if_pos cb]
  obtain ⟨x, hx, rfl⟩ := g2 cb
  refine ⟨fi x, ?_, ?_⟩
  · unfold fX8_peek
    rw [p_tapeY j hj, Option.bind_some, hfq, oq_s, h6, g1, Option.bind_some, if_neg cb, gd_t (inb_nI (by omega) (by decide)), nI_clamp (by omega)]
  · unfold fX9_peek
    rw [q_tapeY j hj, Option.bind_some, if_neg n01, gd_t ij, q_bw, Option.bind_some, nI_clamp (by omega), h5, if_neg cb, sixty, gd_t (inb_nI (by omega) (by decide)), nI_clamp (by omega), h7 x (by omega)]
