theorem mk2 {α β : Type} {x : Option α} {y : Option β} {P : α → β → Prop} {o : α} {m : β} (hx : x = some o) (hy : y = some m) (hp : P o m) : ∃ o m, x = some o ∧ y = some m ∧ P o m := ⟨o, m, hx, hy, hp⟩
/-- the model's count of beats behind what was asked -/
def Bq (be be2 : Int32) : Prop := be2 = be ∨ ∃ l, l ≤ 400 ∧ be2 = nI l
theorem Bq.tr {a b c : Int32} (h1 : Bq a b) (h2 : Bq b c) : Bq a c := by
  rcases h2 with h2 | h2
  · rw [h2]; exact h1
  · exact Or.inr h2
theorem Ag.rf {N : Nat} {v : Nat → Int32} : Ag N v v := fun _ _ => rfl
theorem AgL.rf {v : Nat → Int64} : AgL v v := fun _ _ => rfl
theorem i_neg_ge {x : Int32} (h : ¬ 0 ≤ x) : x < 0 := Int32.not_le.mp h
theorem A_heard {L : List Pu} {b : Nat → Int32} {k : Int32} {t w s n : Nat → Int32} (h : RBal L b k t w s n) (i1 : Int32) (ik n_e : Int32) (b_h : Nat → Int32) (se_h : Int64) (z_h : Int32) (f_ea : Nat → Int32) (f_hA : Nat → Int64) (k_hP : Int32) (se : Int64) (z : Int32) (s_h t_h w_h : Nat → Int32) (A : Nat → Int64) (im be bg tx ta fa cl : Int32) (A9 H9 : Nat → Int64) (fb fh : Nat → Int32) : ∃ o m, fX8_heard i1 ik n_e b_h se_h z_h f_ea f_hA k_hP b se z s_h t_h w_h A k s t w = some o ∧ fX9_heard i1 im be bg tx ta fa cl A9 H9 fb fh n = some m ∧ o.1 = m.1 ∧ AgL m.2.2.2.1 A9 ∧ Ag 69 m.2.2.2.2.2.2.2 n ∧ Bq be m.2.1 := by
  obtain ⟨hs, o, m, ho, hm, o1, m1, ho4, hm5, hA, hn⟩ := R_hear h ik n_e b_h se_h z_h f_ea f_hA k_hP se z s_h t_h w_h A im be bg tx ta fa cl A9 H9 fb fh
  have hl := ho4.2.2.1
  by_cases hi : 0 ≤ i1
  · obtain ⟨j, hj, rfl⟩ := nI_of (Int32.not_lt.mpr hi)
    by_cases c : j < hs.length
    · apply mk2
      · unfold fX8_heard
        rw [if_pos hi, ho, Option.bind_some, o1, p_beatAt ho4 c, Option.bind_some]
      · unfold fX9_heard
        rw [if_pos hi, hm, Option.bind_some, m1, if_neg (nI_ge c (by omega)), gd_t (inb_nI (by omega) (by decide)), nI_clamp (by omega), (hm5.at c).1]
      · exact ⟨rfl, hA, hn, Or.inr ⟨_, hl, rfl⟩⟩
    · have hc : nI hs.length ≤ nI j := nI_le (by omega) (by omega)
      apply mk2
      · unfold fX8_heard fX1_beatAt
        rw [if_pos hi, ho, Option.bind_some, o1, if_neg (Int32.not_lt.mpr hi), if_pos hc, Option.bind_some]
      · unfold fX9_heard
        rw [if_pos hi, hm, Option.bind_some, m1, if_pos hc]
      · exact ⟨rfl, hA, hn, Or.inr ⟨_, hl, rfl⟩⟩
  · apply mk2
    · unfold fX8_heard
      rw [if_neg hi]
    · unfold fX9_heard
      rw [if_neg hi]
    · exact ⟨rfl, AgL.rf, Ag.rf, Or.inl rfl⟩
theorem A_gap {L : List Pu} {b : Nat → Int32} {k : Int32} {t w s n : Nat → Int32} (h : RBal L b k t w s n) (i1 : Int32) (ik n_e : Int32) (b_h : Nat → Int32) (se_h : Int64) (z_h : Int32) (f_ea : Nat → Int32) (f_hA : Nat → Int64) (k_hP : Int32) (se : Int64) (z : Int32) (s_h t_h w_h : Nat → Int32) (A : Nat → Int64) (im be bg tx ta fa cl : Int32) (A9 H9 : Nat → Int64) (fb fh : Nat → Int32) : ∃ o m, fX8_gap i1 ik n_e b_h se_h z_h f_ea f_hA k_hP b se z s_h t_h w_h A k s t w = some o ∧ fX9_gap i1 im be bg tx ta fa cl A9 H9 fb fh n = some m ∧ o.1 = m.1 ∧ AgL m.2.2.2.1 A9 ∧ Ag 69 m.2.2.2.2.2.2.2 n ∧ Bq be m.2.1 := by
  obtain ⟨hs, o, m, ho, hm, o1, m1, ho4, hm5, hA, hn⟩ := R_hear h ik n_e b_h se_h z_h f_ea f_hA k_hP se z s_h t_h w_h A im be bg tx ta fa cl A9 H9 fb fh
  have hl := ho4.2.2.1
  by_cases hi : 0 ≤ i1
  · obtain ⟨j, hj, rfl⟩ := nI_of (Int32.not_lt.mpr hi)
    by_cases c : j + 1 < hs.length
    · apply mk2
      · unfold fX8_gap
        rw [if_pos hi, ho, Option.bind_some, o1, p_gapAt ho4 c, Option.bind_some]
      · unfold fX9_gap
        rw [if_pos hi, hm, Option.bind_some, m1, q_gaps _ hl, Option.bind_some, if_neg (nI_ge (by omega) (by omega)), q_gapOf hm5 c, Option.bind_some]
      · exact ⟨rfl, hA, hn, Or.inr ⟨_, hl, rfl⟩⟩
    · have hc : nI (hs.length - 1) ≤ nI j := nI_le (by omega) (by omega)
      apply mk2
      · unfold fX8_gap fX1_gapAt
        rw [if_pos hi, ho, Option.bind_some, o1, if_neg (Int32.not_lt.mpr hi), p_gaps _ hl, Option.bind_some, if_pos hc, Option.bind_some]
      · unfold fX9_gap
        rw [if_pos hi, hm, Option.bind_some, m1, q_gaps _ hl, Option.bind_some, if_pos hc]
      · exact ⟨rfl, hA, hn, Or.inr ⟨_, hl, rfl⟩⟩
  · apply mk2
    · unfold fX8_gap
      rw [if_neg hi]
    · unfold fX9_gap
      rw [if_neg hi]
    · exact ⟨rfl, AgL.rf, Ag.rf, Or.inl rfl⟩
theorem A_mean {L : List Pu} {b : Nat → Int32} {k : Int32} {t w s n : Nat → Int32} (h : RBal L b k t w s n) (i1 : Int32) (ik n_e : Int32) (b_h : Nat → Int32) (se_h : Int64) (z_h : Int32) (f_ea : Nat → Int32) (f_hA : Nat → Int64) (k_hP : Int32) (se : Int64) (z : Int32) (s_h t_h w_h : Nat → Int32) (A : Nat → Int64) (im be bg tx ta fa cl : Int32) (A9 H9 : Nat → Int64) (fb fh : Nat → Int32) : ∃ o m, fX8_mean i1 ik n_e b_h se_h z_h f_ea f_hA k_hP b se z s_h t_h w_h A k s t w = some o ∧ fX9_mean i1 im be bg tx ta fa cl A9 H9 fb fh n = some m ∧ o.1 = m.1 ∧ AgL m.2.2.2.1 A9 ∧ Ag 69 m.2.2.2.2.2.2.2 n ∧ Bq be m.2.1 := by
  obtain ⟨hs, o, m, ho, hm, o1, m1, ho4, hm5, hA, hn⟩ := R_hear h ik n_e b_h se_h z_h f_ea f_hA k_hP se z s_h t_h w_h A im be bg tx ta fa cl A9 H9 fb fh
  have hl := ho4.2.2.1
  by_cases hp : bw i1 0 1 = 0
  · by_cases hg : hs.length - 1 = 0
    · apply mk2
      · unfold fX8_mean
        rw [ho, Option.bind_some, o1, p_gaps _ hl, Option.bind_some, hg, if_pos nI_0]
      · unfold fX9_mean
        rw [q_bw, Option.bind_some, if_pos hp]
      · exact ⟨rfl, AgL.rf, Ag.rf, Or.inl rfl⟩
    · have h1 := (ho4.at (i := hs.length - 1) (by omega)).2
      have h2 := ho4.lt (i := 0) (j := hs.length - 1) (by omega) (by omega)
      obtain ⟨v, e1, e2⟩ := R_frac (a := hd0 hs (hs.length - 1) - hd0 hs 0) (b := hs.length - 1) (by omega) (by omega) (by omega) i1
      rw [if_pos hp] at e1
      apply mk2
      · unfold fX8_mean
        rw [ho, Option.bind_some, o1, p_gaps _ hl, Option.bind_some, if_neg (nI_ne0 (by omega) (by omega)), p_beatAt ho4 (by omega), Option.bind_some, show (0 : Int32) = nI 0 from rfl, p_beatAt ho4 (by omega), Option.bind_some, pk_sub (by omega), nI_l (by omega), nI_l (by omega), e1, Option.bind_some]
      · unfold fX9_mean
        rw [q_bw, Option.bind_some, if_pos hp]
      · exact ⟨rfl, AgL.rf, Ag.rf, Or.inl rfl⟩
  · by_cases hg : hs.length - 1 = 0
    · apply mk2
      · unfold fX8_mean
        rw [ho, Option.bind_some, o1, p_gaps _ hl, Option.bind_some, hg, if_pos nI_0]
      · unfold fX9_mean
        rw [q_bw, Option.bind_some, if_neg hp, hm, Option.bind_some, m1, q_gaps _ hl, Option.bind_some, hg, if_pos nI_0]
      · exact ⟨rfl, hA, hn, Or.inr ⟨_, hl, rfl⟩⟩
    · have h1 := (ho4.at (i := hs.length - 1) (by omega)).2
      have h2 := ho4.lt (i := 0) (j := hs.length - 1) (by omega) (by omega)
      obtain ⟨v, e1, e2⟩ := R_frac (a := hd0 hs (hs.length - 1) - hd0 hs 0) (b := hs.length - 1) (by omega) (by omega) (by omega) i1
      rw [if_neg hp] at e1
      have hpr : nI hs.length - 1 = nI (hs.length - 1) := by
        obtain ⟨q, hq⟩ : ∃ q, hs.length = q + 1 := ⟨hs.length - 1, by omega⟩
        rw [hq, nI_pred]; rfl
      apply mk2
      · unfold fX8_mean
        rw [ho, Option.bind_some, o1, p_gaps _ hl, Option.bind_some, if_neg (nI_ne0 (by omega) (by omega)), p_beatAt ho4 (by omega), Option.bind_some, show (0 : Int32) = nI 0 from rfl, p_beatAt ho4 (by omega), Option.bind_some, pk_sub (by omega), nI_l (by omega), nI_l (by omega), e1, Option.bind_some]
      · unfold fX9_mean
        rw [q_bw, Option.bind_some, if_neg hp, hm, Option.bind_some, m1, q_gaps _ hl, Option.bind_some, if_neg (nI_ne0 (by omega) (by omega)), hpr, gd_t (inb_nI (by omega) (by decide)), Option.bind_some, nI_clamp (by omega), (hm5.at (i := hs.length - 1) (by omega)).1, (hm5.at (i := 0) (by omega)).1, pk_sub (by omega), nI_l (by omega), nI_l (by omega), e2, Option.bind_some]
      · exact ⟨rfl, hA, hn, Or.inr ⟨_, hl, rfl⟩⟩
