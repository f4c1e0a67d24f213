/-! READ: clauses done -/
def RT (b : Nat → Int32) (se : Int64) (kT : Int32) (A : Nat → Int64) (k : Int32) (fT s t w n : Nat → Int32) (A9 : Nat → Int64) : Prop := ∃ L c, RN L b se A k t w s n A9 ∧ Trn c kT fT n
def Fr2 (m n : Nat → Int32) : Prop := ∀ j, j = 13 ∨ j = 14 ∨ 43 ≤ j → m j = n j
theorem Fr2.rf {n : Nat → Int32} : Fr2 n n := fun _ _ => rfl
theorem Fr2.tr {m n u : Nat → Int32} (h : Fr2 m n) (g : Fr2 n u) : Fr2 m u := fun j hj => (h j hj).trans (g j hj)
theorem A_does {b : Nat → Int32} {se : Int64} {kT : Int32} {A : Nat → Int64} {k : Int32} {fT s t w n : Nat → Int32} {A9 : Nat → Int64} (h : RT b se kT A k fT s t w n A9) (i : Nat) (hi : i < 12) (Lt : Nat) (hL : Lt ≤ 8) (v ik im be bg tx ta fa cl : Int32) (fb fc fm : Nat → Int32) (hc : fc i = nI Lt) (hm : fm i = v) :
    ∃ o m, fX8_isClauseDone (nI Lt) v ik b se 1 kT A k fT s t w = some o ∧ fX9_does (nI i) im be bg tx ta fa cl A9 fb fc fm n = some m ∧ o.1 = m.1 ∧ RT o.2.1 o.2.2.1 o.2.2.2.1 o.2.2.2.2.1 o.2.2.2.2.2.1 o.2.2.2.2.2.2.1 o.2.2.2.2.2.2.2.1 o.2.2.2.2.2.2.2.2.1 o.2.2.2.2.2.2.2.2.2 m.2.2.2.2.2 m.2.2.2.1 ∧ Fr2 m.2.2.2.2.2 n ∧ Bq be m.2.1 := by
  obtain ⟨L, c, h1, h2⟩ := h
  have ii : inb (nI i) 12 = true := inb_nI (by omega) (by decide)
  by_cases c7 : Lt = 7
  · subst c7
    obtain ⟨o, m, e1, e2, e3, ⟨c2, e4⟩, e5⟩ := A_wheel h2 v ik im be bg tx ta fa cl
    have hR : RN L b se A k t w s m.2 A9 := h1.of (fun j hj => e5 j (by omega)) (fun _ _ => rfl)
    have hF : Fr2 m.2 n := fun j hj => e5 j (by omega)
    by_cases c0 : o.1 < 0
    · apply mk2
      · unfold fX8_isClauseDone
        rw [if_pos (show nI 7 = 7 from rfl), e1, Option.bind_some, if_pos c0]
      · unfold fX9_does
        rw [gd_t ii, lt_eq, gd_t ii, nI_clamp (by omega), hc, hm, if_pos (show (7 : Int32) ≤ nI 7 by decide), gd_t ii, if_pos (show nI 7 = 7 from rfl), e2, Option.bind_some, ← e3, if_pos c0]
      · exact ⟨rfl, ⟨L, c2, hR, e4⟩, hF, Or.inl rfl⟩
    · apply mk2
      · unfold fX8_isClauseDone
        rw [if_pos (show nI 7 = 7 from rfl), e1, Option.bind_some, if_neg c0]
      · unfold fX9_does
        rw [gd_t ii, lt_eq, gd_t ii, nI_clamp (by omega), hc, hm, if_pos (show (7 : Int32) ≤ nI 7 by decide), gd_t ii, if_pos (show nI 7 = 7 from rfl), e2, Option.bind_some, ← e3, if_neg c0]
      · exact ⟨rfl, ⟨L, c2, hR, e4⟩, hF, Or.inl rfl⟩
  by_cases c8 : Lt = 8
  · subst c8
    obtain ⟨o, m, e1, e2, e3, ⟨L2, e4⟩, e5, e6⟩ := A_go h1 v ik im be bg tx ta fa cl fb
    have hT : Trn c kT fT m.2.2.2.2.2 := h2.of (fun j hj => e5 j (by omega))
    have hF : Fr2 m.2.2.2.2.2 n := fun j hj => e5 j (by omega)
    by_cases c0 : o.1 < 0
    · apply mk2
      · unfold fX8_isClauseDone
        rw [if_neg (show ¬ nI 8 = 7 by decide), if_pos (show nI 8 = 8 from rfl), e1, Option.bind_some, if_pos c0]
      · unfold fX9_does
        rw [gd_t ii, lt_eq, gd_t ii, nI_clamp (by omega), hc, hm, if_pos (show (7 : Int32) ≤ nI 8 by decide), gd_t ii, if_neg (show ¬ nI 8 = 7 by decide), e2, Option.bind_some, ← e3, if_pos c0]
      · exact ⟨rfl, ⟨L2, c, e4, hT⟩, hF, e6⟩
    · apply mk2
      · unfold fX8_isClauseDone
        rw [if_neg (show ¬ nI 8 = 7 by decide), if_pos (show nI 8 = 8 from rfl), e1, Option.bind_some, if_neg c0]
      · unfold fX9_does
        rw [gd_t ii, lt_eq, gd_t ii, nI_clamp (by omega), hc, hm, if_pos (show (7 : Int32) ≤ nI 8 by decide), gd_t ii, if_neg (show ¬ nI 8 = 7 by decide), e2, Option.bind_some, ← e3, if_neg c0]
      · exact ⟨rfl, ⟨L2, c, e4, hT⟩, hF, e6⟩
  have n7 : ¬ nI Lt = 7 := by rw [show (7 : Int32) = nI 7 from rfl, nI_eq (by omega) (by decide)]; exact c7
  have n8 : ¬ nI Lt = 8 := by rw [show (8 : Int32) = nI 8 from rfl, nI_eq (by omega) (by decide)]; exact c8
  have n77 : ¬ (7 : Int32) ≤ nI Lt := nI_ge (b := 7) (by omega) (by decide)
  by_cases hv : sbl Lt v = 0
  · apply mk2
    · unfold fX8_isClauseDone
      rw [if_neg n7, if_neg n8, p_isSet Lt (by omega), Option.bind_some, if_pos hv, if_pos rfl]
    · unfold fX9_does
      rw [gd_t ii, lt_eq, gd_t ii, nI_clamp (by omega), hc, hm, if_neg n77, gd_t ii, q_setN Lt (by omega) v hv, Option.bind_some, if_pos (show (-1001 : Int32) ≤ -1000 by decide)]
    · exact ⟨rfl, ⟨L, c, h1, h2⟩, Fr2.rf, Or.inl rfl⟩
  · have hB := h1.2.2.2.1
    have hgt : ¬ n Lt ≤ -1000 := by
      have e : (-1000 : Int32).toInt = -1000 := by decide
      obtain ⟨⟨b0, b2, b3, b4, b5, b6, -⟩, b1⟩ := hB
      have : Lt = 0 ∨ Lt = 1 ∨ Lt = 2 ∨ Lt = 3 ∨ Lt = 4 ∨ Lt = 5 ∨ Lt = 6 := by omega
      rw [i_le, e]
      unfold Rg at *
      rcases this with rfl | rfl | rfl | rfl | rfl | rfl | rfl <;> omega
    apply mk2
    · unfold fX8_isClauseDone
      rw [if_neg n7, if_neg n8, p_isSet Lt (by omega), Option.bind_some, if_neg hv, if_neg (by decide), p_pbh Lt (by omega), Option.bind_some]
    · unfold fX9_does
      rw [gd_t ii, lt_eq, gd_t ii, nI_clamp (by omega), hc, hm, if_neg n77, gd_t ii, q_setY Lt (by omega) v hv, Option.bind_some, if_neg hgt]
    · refine ⟨rfl, ⟨L, c, h1.put Lt (by omega) v hv, h2.of (fun j hj => ?_)⟩, fun j hj => ?_, Or.inl rfl⟩
      · show upd n Lt v j = n j
        rw [upd_at, if_neg (by omega)]
      · show upd n Lt v j = n j
        rw [upd_at, if_neg (by omega)]
theorem cls_both (ik im : Int32) (fx gx : Nat → Int32) (le bgt ta fa : Int32) (c2 : Nat) (hc2 : c2 ≤ 12) (fm fw fc gm : Nat → Int32) (hC : Cls c2 fw fm fc gm) : ∀ (r i fu fu9 : Nat) (x be bg : Int32) (b : Nat → Int32) (se : Int64) (kT : Int32) (A : Nat → Int64) (k : Int32) (fT s t w n : Nat → Int32) (A9 : Nat → Int64) (fb : Nat → Int32), i + r = c2 → r < fu → r < fu9 → RT b se kT A k fT s t w n A9 →
    ∃ o m, fX8_read_30 ik 1 fx fu x (nI i) le (nI c2) b se kT fm fw A k fT s t w = some o ∧ fX9_read_116 im gx fu9 x (nI i) be bg bgt ta fa (nI c2) A9 fb fc gm n = some m ∧
      o.1 = m.1 ∧ o.2.1 = le ∧ m.2.2.2.1 = bgt ∧ RT o.2.2.2.1 o.2.2.2.2.1 o.2.2.2.2.2.1 o.2.2.2.2.2.2.2.2.1 o.2.2.2.2.2.2.2.2.2.1 o.2.2.2.2.2.2.2.2.2.2.1 o.2.2.2.2.2.2.2.2.2.2.2.1 o.2.2.2.2.2.2.2.2.2.2.2.2.1 o.2.2.2.2.2.2.2.2.2.2.2.2.2 m.2.2.2.2.2.2.2.2.2.2.2 m.2.2.2.2.2.2.2.1 ∧ Fr2 m.2.2.2.2.2.2.2.2.2.2.2 n ∧ Bq be m.2.1 := by
  intro r
  induction r with
  | zero =>
    intro i fu fu9 x be bg b se kT A k fT s t w n A9 fb hi hf hf9 h
    obtain ⟨f, rfl⟩ : ∃ f, fu = f + 1 := ⟨fu - 1, by omega⟩
    obtain ⟨f9, rfl⟩ : ∃ f, fu9 = f + 1 := ⟨fu9 - 1, by omega⟩
    have hle : nI c2 ≤ nI i := nI_le (by omega) (by omega)
    apply mk2
    · rw [fX8_read_30, if_pos hle]
    · rw [fX9_read_116, if_pos hle]
    · exact ⟨rfl, rfl, rfl, h, Fr2.rf, Or.inl rfl⟩
  | succ r ih =>
    intro i fu fu9 x be bg b se kT A k fT s t w n A9 fb hi hf hf9 h
    obtain ⟨f, rfl⟩ : ∃ f, fu = f + 1 := ⟨fu - 1, by omega⟩
    obtain ⟨f9, rfl⟩ : ∃ f, fu9 = f + 1 := ⟨fu9 - 1, by omega⟩
    have hle : ¬ nI c2 ≤ nI i := nI_ge (by omega) (by omega)
    have ii : inb (nI i) 12 = true := inb_nI (by omega) (by decide)
    obtain ⟨⟨Lt, hL, hw⟩, hfc, hgm⟩ := hC i (by omega)
    obtain ⟨o, m, e1, e2, e3, e4, e5, e6⟩ := A_does h i (by omega) Lt hL (fm i) ik im be bg bgt ta fa (nI c2) fb fc gm (hfc.trans hw) hgm
    obtain ⟨o2, m2, g1, g2, g3, g4, g5, g6, g7, g8⟩ := ih (i + 1) f f9 (if o.1 = 0 then x else x + 1) m.2.1 m.2.2.1 _ _ _ _ _ _ _ _ _ _ _ m.2.2.2.2.1 (by omega) (by omega) (by omega) e4
    refine ⟨o2, m2, ?_, ?_, g3, g4, g5, g6, g7.tr e5, e6.tr g8⟩
    · rw [fX8_read_30, if_neg hle, if_neg (show ¬ (12 : Int32) ≤ nI i from nI_ge (b := 12) (by omega) (by decide)), gd_t ii, gd_t ii, nI_clamp (by omega), hw, e1, Option.bind_some, ← g1]
      by_cases cx : o.1 = 0
      · rw [if_pos cx, if_pos cx, lt_eq, nI_1]
      · rw [if_neg cx, if_neg cx, lt_eq, lt_eq, nI_1]
    · rw [fX9_read_116, if_neg hle, e2, Option.bind_some, ← g2, ← e3]
      by_cases cx : o.1 = 0
      · rw [if_pos cx, if_pos cx, lt_eq, nI_1]
      · rw [if_neg cx, if_neg cx, lt_eq, lt_eq, nI_1]
theorem A_read {b : Nat → Int32} {se : Int64} {kT : Int32} {A : Nat → Int64} {k : Int32} {fT s t w n : Nat → Int32} {A9 : Nat → Int64} (h : RT b se kT A k fT s t w n A9) {c : Nat} {le tx : Int32} {fx gx : Nat → Int32} (hT : Txt c le tx fx gx) (ik clx im be bg ta fa cl : Int32) (fm fw fc gm fb : Nat → Int32) :
    ∃ o m, fX8_read ik le clx b se 1 kT fm fx fw A k fT s t w = some o ∧ fX9_read im be bg tx ta fa cl A9 fb fc gm n gx = some m ∧
      o.1 = m.1 ∧ o.2.1 = 0 ∧ m.2.2.2.1 = 0 ∧ RT o.2.2.2.1 o.2.2.2.2.1 o.2.2.2.2.2.1 o.2.2.2.2.2.2.2.2.1 o.2.2.2.2.2.2.2.2.2.1 o.2.2.2.2.2.2.2.2.2.2.1 o.2.2.2.2.2.2.2.2.2.2.2.1 o.2.2.2.2.2.2.2.2.2.2.2.2.1 o.2.2.2.2.2.2.2.2.2.2.2.2.2 m.2.2.2.2.2.2.2.2.2.2.2 m.2.2.2.2.2.2.2.1 ∧ Fr2 m.2.2.2.2.2.2.2.2.2.2.2 n ∧ Bq be m.2.1 := by
  have h1 := hT.1
  obtain ⟨x, k2, fm2, fw2, ta2, fa2, fc2, gm2, e1, e2, e3, e4⟩ := parse_both hT im be bg A9 fb n 11 0 0 500 500 fm fw fc gm (by omega) (by omega) (by omega) (by omega) (fun i hi => absurd hi (Nat.not_lt_zero i))
  have e1 : fX5_parse le clx fm fx fw = some (x, nI k2, fm2, fw2) := e1
  have e2 : fX9_read im be bg tx ta fa cl A9 fb fc gm n gx = fX9_read_92 im gx be bg tx ta2 fa2 (nI k2) A9 fb fc2 gm2 n := e2
  rcases e4 with ⟨x1, k12, hC⟩ | hx
  · obtain ⟨o2, m2, g1, g2, g3⟩ := cls_both ik im fx gx 0 0 ta2 fa2 k2 k12 fm2 fw2 fc2 gm2 hC k2 0 500 500 0 be bg b se kT A k fT s t w n A9 fb (by omega) (by omega) (by omega) h
    refine ⟨o2, m2, ?_, ?_, g3⟩
    · unfold fX8_read
      rw [e1, Option.bind_some, if_pos x1]
      exact g1
    · rw [e2]
      unfold fX9_read_92
      rw [if_pos (show fa2 < 0 by rw [← e3, x1]; decide)]
      exact g2
  · apply mk2
    · unfold fX8_read
      rw [e1, Option.bind_some, if_neg (show ¬ x = -1 from fun q => hx (by rw [q]; decide))]
    · rw [e2]
      unfold fX9_read_92
      rw [if_neg (by rw [← e3]; exact hx)]
    · exact ⟨by rw [e3], rfl, rfl, h, Fr2.rf, Or.inl rfl⟩
