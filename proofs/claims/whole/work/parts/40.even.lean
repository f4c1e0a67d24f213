/-! EVENEST -/
theorem l_rng (a : Int64) : -9223372036854775808 ≤ a.toInt ∧ a.toInt < 9223372036854775808 := ⟨by have := Int64.le_toInt a; simpa using this, by have := Int64.toInt_lt a; simpa using this⟩
theorem l_sub {a b : Int64} (h1 : -9223372036854775808 ≤ a.toInt - b.toInt) (h2 : a.toInt - b.toInt < 9223372036854775808) : (a - b).toInt = a.toInt - b.toInt := by
  rw [Int64.toInt_sub]
  exact Int.bmod_eq_of_le (by omega) (by omega)
theorem l_mul {a b : Int64} (h1 : -9223372036854775808 ≤ a.toInt * b.toInt) (h2 : a.toInt * b.toInt < 9223372036854775808) : (a * b).toInt = a.toInt * b.toInt := by
  rw [Int64.toInt_mul]
  exact Int.bmod_eq_of_le (by omega) (by omega)
theorem l_lt {a b : Int64} : a < b ↔ a.toInt < b.toInt := Int64.lt_iff_toInt_lt
theorem iL (a : Int32) : (a.toInt64).toInt = a.toInt := Int32.toInt_toInt64 a
def iab (x : Int32) : Int32 := if 0 ≤ x then x else 0 - x
def zab (x : Int) : Int := if 0 ≤ x then x else -x
theorem iab_toInt (x : Int32) (h : -1000 < x.toInt) (h2 : x.toInt < 1000) : (iab x).toInt = zab x.toInt := by
  unfold iab zab
  by_cases c : 0 ≤ x
  · rw [if_pos c, if_pos (by have := i_le.mp c; simpa using this)]
  · have c2 : ¬ 0 ≤ x.toInt := fun q => c (i_le.mpr (by simpa using q))
    rw [if_neg c, if_neg c2, i_sub (by simp; omega) (by simp; omega)]
    simp
theorem zab_b {x k : Int} (h : -k < x) (h2 : x < k) : 0 ≤ zab x ∧ zab x < k := by
  unfold zab
  split <;> omega
def scr (be ua far : Int32) : Int64 := (be.toInt64 * 1000 - ua.toInt64) * 1000 - far.toInt64
theorem scr_toInt (be ua far : Int32) (h1 : 0 ≤ be.toInt) (h2 : be.toInt ≤ 400) (h3 : 0 ≤ ua.toInt) (h4 : ua.toInt < 400) (h5 : 0 ≤ far.toInt) (h6 : far.toInt < 1000) : (scr be ua far).toInt = (be.toInt * 1000 - ua.toInt) * 1000 - far.toInt := by
  unfold scr
  have a1 : (be.toInt64 * 1000).toInt = be.toInt * 1000 := by
    rw [l_mul (by rw [iL]; simp; omega) (by rw [iL]; simp; omega), iL]; rfl
  have a2 : (be.toInt64 * 1000 - ua.toInt64).toInt = be.toInt * 1000 - ua.toInt := by
    rw [l_sub (by rw [a1, iL]; omega) (by rw [a1, iL]; omega), a1, iL]
  have a3 : ((be.toInt64 * 1000 - ua.toInt64) * 1000).toInt = (be.toInt * 1000 - ua.toInt) * 1000 := by
    rw [l_mul (by rw [a2]; simp; omega) (by rw [a2]; simp; omega), a2]; rfl
  rw [l_sub (by rw [a3, iL]; omega) (by rw [a3, iL]; omega), a3, iL]
theorem lg_le0 (x y : Int64) : lg_cmp x y ≤ 0 ↔ x.toInt ≤ y.toInt := by
  unfold lg_cmp
  by_cases c : x > y
  · rw [if_pos c]
    have := l_lt.mp c
    constructor
    · intro e; exact absurd e (by decide)
    · intro e; omega
  · rw [if_neg c]
    have h1 : ¬ y.toInt < x.toInt := fun q => c (l_lt.mpr q)
    by_cases c2 : x = y
    · rw [if_pos c2]; exact ⟨fun _ => by omega, fun _ => by decide⟩
    · rw [if_neg c2]; exact ⟨fun _ => by omega, fun _ => by decide⟩
/-- what the two have found so far -/
def EvI (i : Nat) (off x1 : Int32) (x2 : Int64) (m1 m2 m3 : Int32) : Prop :=
  (i = 0 ∧ x2 = -9223372036854775808 ∧ m2 = -1) ∨
  (x1 = m1 ∧ 0 ≤ m2.toInt ∧ m2.toInt ≤ 400 ∧ 0 ≤ m3.toInt ∧ m3.toInt < 400 ∧ -20 ≤ m1.toInt ∧ m1.toInt ≤ 20 ∧ x2.toInt = (m2.toInt * 1000 - m3.toInt) * 1000 - zab (m1.toInt - off.toInt))
theorem ev_both {L : List Pu} {b : Nat → Int32} {k : Int32} {t w s : Nat → Int32} (ik : Int32) (z_h : Int32) (se : Int64) (z : Int32) (A : Nat → Int64) (im tx ta fa cl off : Int32) (hoff : -20 ≤ off.toInt) (hoff2 : off.toInt ≤ 20) : ∀ (r i fu fu9 : Nat) (x1 : Int32) (x2 : Int64) (m1 m2 m3 x4 n_e : Int32) (b_h : Nat → Int32) (se_h : Int64) (f_ea : Nat → Int32) (f_hA : Nat → Int64) (k_hP : Int32) (s_h t_h w_h : Nat → Int32) (be bg : Int32) (A9 H9 : Nat → Int64) (fb fh n : Nat → Int32),
    RBal L b k t w s n → b 4 = off → i + r = 41 → r < fu → r < fu9 → (0 < i ∨ 0 < r) → x4.toInt = (i : Int) - 20 → EvI i off x1 x2 m1 m2 m3 →
    ∃ o m, fX8_evenest_19 ik z_h b se z A k s t w fu x1 x2 x4 n_e b_h se_h f_ea f_hA k_hP s_h t_h w_h = some o ∧ fX9_evenest_18 im tx ta fa cl fu9 m1 m2 m3 off x4 be bg A9 H9 fb fh n = some m ∧ o.1 = m.1 ∧ AgL m.2.2.2.1 A9 ∧ Ag 69 m.2.2.2.2.2.2.2 n ∧ Bq be m.2.1 := by
  intro r
  induction r with
  | zero =>
    intro i fu fu9 x1 x2 m1 m2 m3 x4 n_e b_h se_h f_ea f_hA k_hP s_h t_h w_h be bg A9 H9 fb fh n h hb4 hi hf hf9 hir hx hE
    obtain ⟨f1, rfl⟩ : ∃ f, fu = f + 1 := ⟨fu - 1, by omega⟩
    obtain ⟨f9, rfl⟩ : ∃ f, fu9 = f + 1 := ⟨fu9 - 1, by omega⟩
    have hlt : (20 : Int32) < x4 := by rw [i_lt, hx]; simp; omega
    rcases hE with ⟨h0, -⟩ | ⟨h1, -⟩
    · omega
    · apply mk2
      · rw [fX8_evenest_19, if_pos hlt]
      · rw [fX9_evenest_18, if_pos hlt]
      · exact ⟨h1, AgL.rf, Ag.rf, Or.inl rfl⟩
  | succ r ih =>
    intro i fu fu9 x1 x2 m1 m2 m3 x4 n_e b_h se_h f_ea f_hA k_hP s_h t_h w_h be bg A9 H9 fb fh n h hb4 hi hf hf9 hir hx hE
    obtain ⟨f1, rfl⟩ : ∃ f, fu = f + 1 := ⟨fu - 1, by omega⟩
    obtain ⟨f9, rfl⟩ : ∃ f, fu9 = f + 1 := ⟨fu9 - 1, by omega⟩
    have hlt : ¬ (20 : Int32) < x4 := by rw [i_lt, hx]; simp; omega
    obtain ⟨hs, o, m, ho, hm, o1, m1', ho4, hm5, hA, hn⟩ := R_hearW h 4 (by decide) x4 ik n_e b_h se_h z_h f_ea f_hA k_hP se z s_h t_h w_h A im be bg tx ta fa cl A9 H9 fb fh
    rw [show nI 4 = (4 : Int32) from rfl] at ho hm
    have hl := ho4.2.2.1
    obtain ⟨u, eu, eu9, hu1, hu2⟩ := R_uneven ho4 hm5 im m.2.1 tx ta fa cl
    have hua := iab_toInt u (by omega) (by omega)
    have hub := zab_b (x := u.toInt) (k := 400) (by omega) hu2
    have hxo : (x4 - off).toInt = x4.toInt - off.toInt := i_sub (by omega) (by omega)
    have hfa := iab_toInt (x4 - off) (by omega) (by omega)
    have hfb := zab_b (x := x4.toInt - off.toInt) (k := 1000) (by omega) (by omega)
    have hbe : (nI hs.length).toInt = (hs.length : Int) := nI_toInt (by omega)
    have hsc := scr_toInt (nI hs.length) (iab u) (iab (x4 - off)) (by omega) (by omega) (by omega) (by omega) (by rw [hfa, hxo]; omega) (by rw [hfa, hxo]; omega)
    rw [hbe, hua, hfa, hxo] at hsc
    have hx4 : (x4 + 1).toInt = ((i + 1 : Nat) : Int) - 20 := by
      rw [i_add (by rw [hx]; simp; omega) (by rw [hx]; simp; omega), hx]; simp; omega
    have hrun : ∀ (y1 : Int32) (y2 : Int64) (p1 p2 p3 : Int32), EvI (i + 1) off y1 y2 p1 p2 p3 → ∃ o2 m2, fX8_evenest_19 ik z_h b se z A k s t w f1 y1 y2 (x4 + 1) o.1 o.2.1 o.2.2.1 o.2.2.2.1 o.2.2.2.2.1 o.2.2.2.2.2.1 o.2.2.2.2.2.2.1 o.2.2.2.2.2.2.2.1 o.2.2.2.2.2.2.2.2 = some o2 ∧ fX9_evenest_18 im tx ta fa cl f9 p1 p2 p3 off (x4 + 1) m.1 m.2.1 m.2.2.1 m.2.2.2.1 m.2.2.2.2.1 m.2.2.2.2.2.1 m.2.2.2.2.2.2 = some m2 ∧ o2.1 = m2.1 ∧ AgL m2.2.2.2.1 A9 ∧ Ag 69 m2.2.2.2.2.2.2.2 n ∧ Bq be m2.2.1 := by
      intro y1 y2 p1 p2 p3 hE2
      obtain ⟨o2, m2, e1, e2, e3, e4, e5, e6⟩ := ih (i + 1) f1 f9 y1 y2 p1 p2 p3 (x4 + 1) o.1 o.2.1 o.2.2.1 o.2.2.2.1 o.2.2.2.2.1 o.2.2.2.2.2.1 o.2.2.2.2.2.2.1 o.2.2.2.2.2.2.2.1 o.2.2.2.2.2.2.2.2 m.1 m.2.1 m.2.2.1 m.2.2.2.1 m.2.2.2.2.1 m.2.2.2.2.2.1 m.2.2.2.2.2.2 (h.ag hn) hb4 (by omega) (by omega) (by omega) (Or.inl (by omega)) hx4 hE2
      exact ⟨o2, m2, e1, e2, e3, fun j hj => (e4 j hj).trans (hA j hj), fun j hj => (e5 j hj).trans (hn j hj), Bq.tr (Or.inr ⟨_, hl, m1'⟩) e6⟩
    have hcl : fX8_evenest_19 ik z_h b se z A k s t w (f1 + 1) x1 x2 x4 n_e b_h se_h f_ea f_hA k_hP s_h t_h w_h = if lg_cmp (scr (nI hs.length) (iab u) (iab (x4 - off))) x2 ≤ 0 then fX8_evenest_19 ik z_h b se z A k s t w f1 x1 x2 (x4 + 1) o.1 o.2.1 o.2.2.1 o.2.2.2.1 o.2.2.2.2.1 o.2.2.2.2.2.1 o.2.2.2.2.2.2.1 o.2.2.2.2.2.2.2.1 o.2.2.2.2.2.2.2.2 else fX8_evenest_19 ik z_h b se z A k s t w f1 x4 (scr (nI hs.length) (iab u) (iab (x4 - off))) (x4 + 1) o.1 o.2.1 o.2.2.1 o.2.2.2.1 o.2.2.2.2.1 o.2.2.2.2.2.1 o.2.2.2.2.2.2.1 o.2.2.2.2.2.2.2.1 o.2.2.2.2.2.2.2.2 := by
      rw [fX8_evenest_19, if_neg hlt, ho, Option.bind_some]
      rw [show fX1_uneven o.1 o.2.2.2.1 = some u by rw [o1]; exact eu, Option.bind_some]
      simp only [lt_eq]
      rw [hb4, o1]
      rfl
    have hml : ∀ (y0 : Int32), fX9_evenest_95 im tx ta fa cl (fX9_evenest_18 im tx ta fa cl f9) m1 m2 m3 off x4 (iab u) y0 m.1 m.2.1 m.2.2.1 m.2.2.2.1 m.2.2.2.2.1 m.2.2.2.2.2.1 m.2.2.2.2.2.2 = if 0 < y0 then fX9_evenest_18 im tx ta fa cl f9 x4 m.1 (iab u) off (x4 + 1) m.1 m.2.1 m.2.2.1 m.2.2.2.1 m.2.2.2.2.1 m.2.2.2.2.2.1 m.2.2.2.2.2.2 else fX9_evenest_18 im tx ta fa cl f9 m1 m2 m3 off (x4 + 1) m.1 m.2.1 m.2.2.1 m.2.2.2.1 m.2.2.2.2.1 m.2.2.2.2.2.1 m.2.2.2.2.2.2 := by
      intro y0
      unfold fX9_evenest_95
      simp only [lt_eq]
    have hmo : ∃ y0 : Int32, fX9_evenest_18 im tx ta fa cl (f9 + 1) m1 m2 m3 off x4 be bg A9 H9 fb fh n = (if 0 < y0 then fX9_evenest_18 im tx ta fa cl f9 x4 m.1 (iab u) off (x4 + 1) m.1 m.2.1 m.2.2.1 m.2.2.2.1 m.2.2.2.2.1 m.2.2.2.2.2.1 m.2.2.2.2.2.2 else fX9_evenest_18 im tx ta fa cl f9 m1 m2 m3 off (x4 + 1) m.1 m.2.1 m.2.2.1 m.2.2.2.1 m.2.2.2.2.1 m.2.2.2.2.2.1 m.2.2.2.2.2.2) ∧ (0 < y0 ↔ ¬ (scr (nI hs.length) (iab u) (iab (x4 - off))).toInt ≤ x2.toInt) := by
      have hg0 : fX9_evenest_18 im tx ta fa cl (f9 + 1) m1 m2 m3 off x4 be bg A9 H9 fb fh n = if 0 ≤ m2 then (if nI hs.length = m2 then (if iab u = m3 then fX9_evenest_95 im tx ta fa cl (fX9_evenest_18 im tx ta fa cl f9) m1 m2 m3 off x4 (iab u) (iab (m1 - off) - iab (x4 - off)) m.1 m.2.1 m.2.2.1 m.2.2.2.1 m.2.2.2.2.1 m.2.2.2.2.2.1 m.2.2.2.2.2.2 else fX9_evenest_95 im tx ta fa cl (fX9_evenest_18 im tx ta fa cl f9) m1 m2 m3 off x4 (iab u) (m3 - iab u) m.1 m.2.1 m.2.2.1 m.2.2.2.1 m.2.2.2.2.1 m.2.2.2.2.2.1 m.2.2.2.2.2.2) else fX9_evenest_95 im tx ta fa cl (fX9_evenest_18 im tx ta fa cl f9) m1 m2 m3 off x4 (iab u) (nI hs.length - m2) m.1 m.2.1 m.2.2.1 m.2.2.2.1 m.2.2.2.2.1 m.2.2.2.2.2.1 m.2.2.2.2.2.2) else fX9_evenest_95 im tx ta fa cl (fX9_evenest_18 im tx ta fa cl f9) m1 m2 m3 off x4 (iab u) 1 m.1 m.2.1 m.2.2.1 m.2.2.2.1 m.2.2.2.2.1 m.2.2.2.2.2.1 m.2.2.2.2.2.2 := by
        rw [fX9_evenest_18, if_neg hlt, hm, Option.bind_some]
        rw [show fX9_uneven im m.1 m.2.1 tx ta fa cl m.2.2.2.2.1 = some u by rw [m1']; exact eu9, Option.bind_some]
        simp only [lt_eq]
        rw [show (if 0 ≤ u then u else 0 - u) = iab u from rfl, show (if 0 ≤ m1 - off then m1 - off else 0 - (m1 - off)) = iab (m1 - off) from rfl, show (if 0 ≤ x4 - off then x4 - off else 0 - (x4 - off)) = iab (x4 - off) from rfl, m1']
      rcases hE with ⟨-, h2, h3⟩ | ⟨-, h2, h3, h4, h5, h6, h7, h8⟩
      · refine ⟨1, ?_, ?_⟩
        · rw [hg0, if_neg (by rw [h3]; decide), hml]
        · rw [hsc, h2]
          have e9 : (-9223372036854775808 : Int64).toInt = -9223372036854775808 := by decide
          rw [e9]
          exact ⟨fun _ => by omega, fun _ => by decide⟩
      · have hm2 : (0 : Int32) ≤ m2 := i_le.mpr (by simpa using h2)
        have hm1o : (m1 - off).toInt = m1.toInt - off.toInt := i_sub (by omega) (by omega)
        have hga := iab_toInt (m1 - off) (by omega) (by omega)
        have hgb := zab_b (x := m1.toInt - off.toInt) (k := 1000) (by omega) (by omega)
        rw [hm1o] at hga
        rw [hxo] at hfa
        by_cases c1 : nI hs.length = m2
        · have c1' : (hs.length : Int) = m2.toInt := by rw [← c1, hbe]
          by_cases c2 : iab u = m3
          · have c2' : zab u.toInt = m3.toInt := by rw [← c2, hua]
            refine ⟨iab (m1 - off) - iab (x4 - off), ?_, ?_⟩
            · rw [hg0, if_pos hm2, if_pos c1, if_pos c2, hml]
            · rw [i_lt, i_sub (by omega) (by omega), hga, hfa, hsc, h8]
              simp only [Int32.toInt_zero]
              omega
          · have c2' : ¬ zab u.toInt = m3.toInt := fun q => c2 (i_eq.mpr (by rw [hua]; exact q))
            refine ⟨m3 - iab u, ?_, ?_⟩
            · rw [hg0, if_pos hm2, if_pos c1, if_neg c2, hml]
            · rw [i_lt, i_sub (by omega) (by omega), hua, hsc, h8]
              simp only [Int32.toInt_zero]
              omega
        · have c1' : ¬ (hs.length : Int) = m2.toInt := fun q => c1 (i_eq.mpr (by rw [hbe]; exact q))
          refine ⟨nI hs.length - m2, ?_, ?_⟩
          · rw [hg0, if_pos hm2, if_neg c1, hml]
          · rw [i_lt, i_sub (by omega) (by omega), hbe, hsc, h8]
            simp only [Int32.toInt_zero]
            omega
    obtain ⟨y0, hy, hiff⟩ := hmo
    rw [hcl, hy]
    by_cases cc : lg_cmp (scr (nI hs.length) (iab u) (iab (x4 - off))) x2 ≤ 0
    · have c3 : ¬ 0 < y0 := fun q => (hiff.mp q) ((lg_le0 _ _).mp cc)
      rw [if_pos cc, if_neg c3]
      refine hrun x1 x2 m1 m2 m3 ?_
      rcases hE with ⟨-, h2, h3⟩ | h2
      · exfalso
        have c4 := (lg_le0 _ _).mp cc
        rw [hsc, h2, show (-9223372036854775808 : Int64).toInt = -9223372036854775808 by decide] at c4
        omega
      · exact Or.inr h2
    · have c3 : 0 < y0 := hiff.mpr (fun q => cc ((lg_le0 _ _).mpr q))
      rw [if_neg cc, if_pos c3]
      refine hrun x4 _ x4 m.1 (iab u) (Or.inr ⟨rfl, ?_, ?_, ?_, ?_, ?_, ?_, ?_⟩)
      · rw [m1', hbe]; omega
      · rw [m1', hbe]; omega
      · rw [hua]; omega
      · rw [hua]; omega
      · omega
      · omega
      · rw [hsc, m1', hbe, hua]
theorem A_beat {L : List Pu} {b : Nat → Int32} {k : Int32} {t w s n : Nat → Int32} (h : RBal L b k t w s n)  (ho1 : -20 ≤ (n 4).toInt) (ho2 : (n 4).toInt ≤ 20) (i1 : Int32) (ik n_e : Int32) (b_h : Nat → Int32) (se_h : Int64) (z_h : Int32) (f_ea : Nat → Int32) (f_hA : Nat → Int64) (k_hP : Int32) (se : Int64) (z : Int32) (s_h t_h w_h : Nat → Int32) (A : Nat → Int64) (im be bg tx ta fa cl : Int32) (A9 H9 : Nat → Int64) (fb fh : Nat → Int32) : ∃ o m, fX8_beat i1 ik n_e b_h se_h z_h f_ea f_hA k_hP b se z s_h t_h w_h A k s t w = some o ∧ fX9_beat i1 im be bg tx ta fa cl A9 H9 fb fh n = some m ∧ o.1 = m.1 ∧ AgL m.2.2.2.1 A9 ∧ Ag 69 m.2.2.2.2.2.2.2 n ∧ Bq be m.2.1 := by
  obtain ⟨hs, o, m, ho, hm, o1, m1, ho4, hm5, hA, hn⟩ := R_hear h ik n_e b_h se_h z_h f_ea f_hA k_hP se z s_h t_h w_h A im be bg tx ta fa cl A9 H9 fb fh
  have hl := ho4.2.2.1
  by_cases h1 : bw i1 0 4 = 0
  · apply mk2
    · unfold fX8_beat
      rw [p_bw, Option.bind_some, if_pos h1]
    · unfold fX9_beat
      rw [q_bw, Option.bind_some, if_pos h1]
    · exact ⟨rfl, AgL.rf, Ag.rf, Or.inl rfl⟩
  · by_cases c3 : i1 = 3
    · obtain ⟨o2, m2, e1, e2, e3, e4, e5, e6⟩ := ev_both ik z_h se z A im tx ta fa cl (n 4) ho1 ho2 41 0 500 500 (b 4) (-9223372036854775808) 0 (-1) 0 (-20) n_e b_h se_h f_ea f_hA k_hP s_h t_h w_h be bg A9 H9 fb fh n h (h.1 4 (by decide)) (by omega) (by omega) (by omega) (Or.inr (by omega)) (by decide) (Or.inl ⟨rfl, rfl, rfl⟩)
      apply mk2
      · unfold fX8_beat fX8_evenest
        rw [p_bw, Option.bind_some, if_neg h1, if_pos c3, lt_eq, e1, Option.bind_some]
      · unfold fX9_beat fX9_evenest
        rw [q_bw, Option.bind_some, if_neg h1, if_pos c3, lt_eq, e2, Option.bind_some]
      · exact ⟨e3, e4, e5, e6⟩
    · by_cases c0 : i1 = 0
      · apply mk2
        · unfold fX8_beat
          rw [p_bw, Option.bind_some, if_neg h1, if_neg c3, ho, Option.bind_some, if_pos c0]
        · unfold fX9_beat
          rw [q_bw, Option.bind_some, if_neg h1, if_neg c3, hm, Option.bind_some, if_pos c0]
        · exact ⟨o1.trans m1.symm, hA, hn, Or.inr ⟨_, hl, m1⟩⟩
      · by_cases c1 : i1 = 1
        · apply mk2
          · unfold fX8_beat
            rw [p_bw, Option.bind_some, if_neg h1, if_neg c3, ho, Option.bind_some, if_neg c0, if_pos c1, o1, p_gaps _ hl, Option.bind_some]
          · unfold fX9_beat
            rw [q_bw, Option.bind_some, if_neg h1, if_neg c3, hm, Option.bind_some, if_neg c0, if_pos c1, m1, q_gaps _ hl, Option.bind_some]
          · exact ⟨rfl, hA, hn, Or.inr ⟨_, hl, rfl⟩⟩
        · by_cases c2 : i1 = 2
          · obtain ⟨u, eu, eu9, -, -⟩ := R_uneven ho4 hm5 im m.2.1 tx ta fa cl
            apply mk2
            · unfold fX8_beat
              rw [p_bw, Option.bind_some, if_neg h1, if_neg c3, ho, Option.bind_some, if_neg c0, if_neg c1, if_pos c2, o1, eu, Option.bind_some]
            · unfold fX9_beat
              rw [q_bw, Option.bind_some, if_neg h1, if_neg c3, hm, Option.bind_some, if_neg c0, if_neg c1, if_pos c2, m1, eu9, Option.bind_some]
            · exact ⟨rfl, hA, hn, Or.inr ⟨_, hl, rfl⟩⟩
          · by_cases c5 : hs.length = 0
            · have hz : nI hs.length = 0 := by rw [c5]; rfl
              apply mk2
              · unfold fX8_beat
                rw [p_bw, Option.bind_some, if_neg h1, if_neg c3, ho, Option.bind_some, if_neg c0, if_neg c1, if_neg c2, o1, if_pos hz]
              · unfold fX9_beat
                rw [q_bw, Option.bind_some, if_neg h1, if_neg c3, hm, Option.bind_some, if_neg c0, if_neg c1, if_neg c2, m1, if_pos hz]
              · exact ⟨rfl, hA, hn, Or.inr ⟨_, hl, rfl⟩⟩
            · have hz : ¬ nI hs.length = 0 := nI_ne0 (by omega) (by omega)
              have hpr : nI hs.length - 1 = nI (hs.length - 1) := by
                obtain ⟨q, hq⟩ : ∃ q, hs.length = q + 1 := ⟨hs.length - 1, by omega⟩
                rw [hq, nI_pred]; rfl
              apply mk2
              · unfold fX8_beat
                rw [p_bw, Option.bind_some, if_neg h1, if_neg c3, ho, Option.bind_some, if_neg c0, if_neg c1, if_neg c2, o1, if_neg hz, hpr, p_beatAt ho4 (by omega), Option.bind_some]
              · unfold fX9_beat
                rw [q_bw, Option.bind_some, if_neg h1, if_neg c3, hm, Option.bind_some, if_neg c0, if_neg c1, if_neg c2, m1, if_neg hz, hpr, gd_t (inb_nI (by omega) (by decide)), nI_clamp (by omega), (hm5.at (i := hs.length - 1) (by omega)).1]
              · exact ⟨rfl, hA, hn, Or.inr ⟨_, hl, rfl⟩⟩
