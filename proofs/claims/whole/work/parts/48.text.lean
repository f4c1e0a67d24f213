/-! READ: the text -/
def sgn (c : Nat) (fx : Nat → Int32) (i : Nat) : Int32 := if i < c then fx i else -1
theorem p_sign {c : Nat} {le tx : Int32} {fx gx : Nat → Int32} (h : Txt c le tx fx gx) (i : Nat) (hi : i < 1000) (cl : Int32) : fX5_signAt (nI i) le cl fx = some (sgn c fx i) := by
  obtain ⟨h1, h2, h3, h4⟩ := h
  unfold fX5_signAt sgn
  rw [h2, if_neg (nI_pos (by omega))]
  by_cases ci : i < c
  · rw [if_neg (nI_ge ci (by omega)), if_neg (show ¬ (100 : Int32) ≤ nI i from nI_ge (b := 100) (by omega) (by decide)), gd_t (inb_nI (by omega) (by decide)), nI_clamp (by omega), if_pos ci]
  · rw [if_pos (nI_le (by omega) (by omega)), if_neg ci]
def ltr (v : Int32) : Int32 := if v = 97 then 0 else if v = 118 then 1 else if v = 115 then 2 else if v = 103 then 3 else if v = 111 then 4 else if v = 102 then 5 else if v = 108 then 6 else if v = 119 then 7 else if v = 116 then 8 else -1
theorem q_letter (v : Int32) : fX9_letter v = some (ltr v) := by
  unfold fX9_letter ltr
  repeat' split
  all_goals rfl
theorem ltr_of (v : Int32) (h : ¬ ltr v = -1) : ∃ L : Nat, L ≤ 8 ∧ ltr v = nI L := by
  unfold ltr at h ⊢
  by_cases c0 : v = 97
  · rw [if_pos c0]; exact ⟨0, by decide, rfl⟩
  rw [if_neg c0] at h ⊢
  by_cases c1 : v = 118
  · rw [if_pos c1]; exact ⟨1, by decide, rfl⟩
  rw [if_neg c1] at h ⊢
  by_cases c2 : v = 115
  · rw [if_pos c2]; exact ⟨2, by decide, rfl⟩
  rw [if_neg c2] at h ⊢
  by_cases c3 : v = 103
  · rw [if_pos c3]; exact ⟨3, by decide, rfl⟩
  rw [if_neg c3] at h ⊢
  by_cases c4 : v = 111
  · rw [if_pos c4]; exact ⟨4, by decide, rfl⟩
  rw [if_neg c4] at h ⊢
  by_cases c5 : v = 102
  · rw [if_pos c5]; exact ⟨5, by decide, rfl⟩
  rw [if_neg c5] at h ⊢
  by_cases c6 : v = 108
  · rw [if_pos c6]; exact ⟨6, by decide, rfl⟩
  rw [if_neg c6] at h ⊢
  by_cases c7 : v = 119
  · rw [if_pos c7]; exact ⟨7, by decide, rfl⟩
  rw [if_neg c7] at h ⊢
  by_cases c8 : v = 116
  · rw [if_pos c8]; exact ⟨8, by decide, rfl⟩
  rw [if_neg c8] at h
  exact absurd rfl h
theorem p_l8 (i1 le cl : Int32) (fs : Nat → Int32) (v : Int32) (fu k : Nat) (hk : k < 9) : fX5_letterAt_8 i1 le cl fs (fu + 1) v (nI k) = if v = tbLetters k then some (nI k) else fX5_letterAt_8 i1 le cl fs fu v (nI (k + 1)) := by
  rw [fX5_letterAt_8, if_neg (show ¬ (9 : Int32) ≤ nI k from nI_ge (b := 9) (by omega) (by decide)), gd_t (inb_nI (by omega) (by decide)), nI_clamp (by omega), lt_eq, nI_1]
  by_cases c : v = tbLetters k
  · rw [if_pos c, if_pos c.symm]
  · rw [if_neg c, if_neg (fun e => c e.symm)]
theorem p_letter {c : Nat} {le tx : Int32} {fx gx : Nat → Int32} (h : Txt c le tx fx gx) (i : Nat) (hi : i < 1000) (cl : Int32) : fX5_letterAt (nI i) le cl fx = some (ltr (sgn c fx i)) := by
  unfold fX5_letterAt
  rw [p_sign h i hi, Option.bind_some]
  generalize sgn c fx i = v
  have e9 : ∀ fu, fX5_letterAt_8 (nI i) le cl fx (fu + 1) v (nI 9) = some (-1) := fun fu => by rw [fX5_letterAt_8, if_pos (by decide)]
  have e := fun k hk fu => p_l8 (nI i) le cl fx v fu k hk
  rw [show (0 : Int32) = nI 0 from rfl, e 0 (by decide) 499, e 1 (by decide) 498, e 2 (by decide) 497, e 3 (by decide) 496, e 4 (by decide) 495, e 5 (by decide) 494, e 6 (by decide) 493, e 7 (by decide) 492, e 8 (by decide) 491, e9 490]
  unfold ltr
  rw [show tbLetters 0 = 97 from rfl, show tbLetters 1 = 118 from rfl, show tbLetters 2 = 115 from rfl, show tbLetters 3 = 103 from rfl, show tbLetters 4 = 111 from rfl, show tbLetters 5 = 102 from rfl, show tbLetters 6 = 108 from rfl, show tbLetters 7 = 119 from rfl, show tbLetters 8 = 116 from rfl]
  repeat' split
  all_goals rfl
theorem q_isFrom {c : Nat} {le tx : Int32} {fx gx : Nat → Int32} (h : Txt c le tx fx gx) (i : Nat) (hi : i < 1000) (lo hi2 im be bg fa cl : Int32) (hlo : (-1 : Int32) < lo) : fX9_isFrom lo hi2 im be bg tx (nI i) fa cl gx = some (bw (sgn c fx i) lo hi2) := by
  obtain ⟨h1, h2, h3, h4⟩ := h
  unfold fX9_isFrom sgn
  rw [h3]
  by_cases ci : i < c
  · obtain ⟨v, v1, v2, v3⟩ := h4 i ci
    rw [if_neg (nI_ge ci (by omega)), gd_t (inb_nI (by omega) (by decide)), nI_clamp (by omega), if_pos ci, v2, v3, q_bw, Option.bind_some]
    unfold bw
    split
    · rfl
    · split <;> rfl
  · rw [if_pos (nI_le (by omega) (by omega)), if_neg ci, bw_lt hlo]
def numF (c : Nat) (fx : Nat → Int32) (i : Nat) : Nat → Int32
  | 0 => 0
  | d + 1 => numF c fx i d * 10 + sgn c fx (i + d) - 48
theorem dig_both {c : Nat} {le tx : Int32} {fx gx : Nat → Int32} (h : Txt c le tx fx gx) (i : Nat) (hi : i < 500) (im be bg x1 x2 fa cl cl8 : Int32) (fc fm : Nat → Int32) : ∀ (r d fu fu9 : Nat), d + r = 3 → r < fu → r < fu9 → (0 < d → i + d ≤ c) →
    ∃ e, d ≤ e ∧ e ≤ 3 ∧ (0 < e → i + e ≤ c) ∧ fX5_digitsEnd_2 (nI i) le cl8 fx fu (nI (i + d)) = some (nI (i + e)) ∧
      fX9_reads_80 im be bg tx gx fu9 x1 x2 (numF c fx i d) (nI d) (nI (i + d)) fa cl fc fm = fX9_reads_131 im be bg tx gx x1 x2 (numF c fx i e) (nI e) (nI (i + e)) fa cl fc fm := by
  intro r
  induction r with
  | zero =>
    intro d fu fu9 hd hf hf9 hc
    obtain ⟨f, rfl⟩ : ∃ f, fu = f + 1 := ⟨fu - 1, by omega⟩
    obtain ⟨f9, rfl⟩ : ∃ f, fu9 = f + 1 := ⟨fu9 - 1, by omega⟩
    have hd3 : d = 3 := by omega
    subst hd3
    refine ⟨3, by omega, by omega, hc, ?_, ?_⟩
    · rw [fX5_digitsEnd_2, show (3 : Int32) = nI 3 from rfl, nI_add, if_pos (nI_le (Nat.le_refl _) (by omega))]
    · rw [fX9_reads_80, if_pos (by decide)]
  | succ r ih =>
    intro d fu fu9 hd hf hf9 hc
    obtain ⟨f, rfl⟩ : ∃ f, fu = f + 1 := ⟨fu - 1, by omega⟩
    obtain ⟨f9, rfl⟩ : ∃ f, fu9 = f + 1 := ⟨fu9 - 1, by omega⟩
    have hn : ¬ nI (i + 3) ≤ nI (i + d) := nI_ge (by omega) (by omega)
    have hn3 : ¬ (3 : Int32) ≤ nI d := nI_ge (b := 3) (by omega) (by decide)
    by_cases cd : bw (sgn c fx (i + d)) 48 57 = 0
    · refine ⟨d, Nat.le_refl _, by omega, hc, ?_, ?_⟩
      · rw [fX5_digitsEnd_2, show (3 : Int32) = nI 3 from rfl, nI_add, if_neg hn, p_sign h _ (by omega), Option.bind_some, p_bw, Option.bind_some, if_pos cd]
      · rw [fX9_reads_80, if_neg hn3, q_isFrom h _ (by omega) _ _ _ _ _ _ _ (by decide), Option.bind_some, if_pos cd]
    · have hlt : i + d < c := by
        by_cases cc : i + d < c
        · exact cc
        · unfold sgn at cd
          rw [if_neg cc] at cd
          exact absurd (by decide) cd
      obtain ⟨e, e1, e2, e3, e4, e5⟩ := ih (d + 1) f f9 (by omega) (by omega) (by omega) (fun _ => by omega)
      obtain ⟨v, v1, v2, v3⟩ := h.2.2.2 (i + d) hlt
      have h1 := h.1
      refine ⟨e, by omega, e2, e3, ?_, ?_⟩
      · rw [fX5_digitsEnd_2, show (3 : Int32) = nI 3 from rfl, nI_add, if_neg hn, p_sign h _ (by omega), Option.bind_some, p_bw, Option.bind_some, if_neg cd, lt_eq, nI_1]
        exact e4
      · rw [fX9_reads_80, if_neg hn3, q_isFrom h _ (by omega) _ _ _ _ _ _ _ (by decide), Option.bind_some, if_neg cd, gd_t (inb_nI (by omega) (by decide)), lt_eq, lt_eq, lt_eq, nI_1, nI_1, nI_clamp (by omega)]
        have en : (10 : Int32) * numF c fx i d + gx (i + d) - 48 = numF c fx i (d + 1) := by
          show _ = numF c fx i d * 10 + sgn c fx (i + d) - 48
          unfold sgn
          rw [if_pos hlt, v2, v3, Int32.mul_comm]
        rw [en]
        exact e5
theorem p_num {c : Nat} {le tx : Int32} {fx gx : Nat → Int32} (h : Txt c le tx fx gx) (i : Nat) (hi : i < 500) (cl : Int32) (e : Nat) (he : e ≤ 3) : ∀ (r d fu : Nat), d + r = e → r < fu → fX5_number_5 (nI i) (nI (i + e)) le cl fx fu (numF c fx i d) (nI (i + d)) = some (numF c fx i e) := by
  intro r
  induction r with
  | zero =>
    intro d fu hd hf
    obtain ⟨f, rfl⟩ : ∃ f, fu = f + 1 := ⟨fu - 1, by omega⟩
    have hd3 : d = e := by omega
    subst hd3
    rw [fX5_number_5, if_pos (nI_le (Nat.le_refl _) (by omega))]
  | succ r ih =>
    intro d fu hd hf
    obtain ⟨f, rfl⟩ : ∃ f, fu = f + 1 := ⟨fu - 1, by omega⟩
    rw [fX5_number_5, if_neg (nI_ge (by omega) (by omega)), p_sign h _ (by omega), Option.bind_some, lt_eq, lt_eq, nI_1]
    exact ih (d + 1) f (by omega) (by omega)
/-- clauses noted, alike -/
def Cls (k : Nat) (fw fm fc gm : Nat → Int32) : Prop := ∀ i, i < k → (∃ L : Nat, L ≤ 8 ∧ fw i = nI L) ∧ fc i = fw i ∧ gm i = fm i
theorem Cls.snoc {k : Nat} {fw fm fc gm : Nat → Int32} (h : Cls k fw fm fc gm) (L : Nat) (hL : L ≤ 8) (v : Int32) : Cls (k + 1) (upd fw k (nI L)) (upd fm k v) (upd fc k (nI L)) (upd gm k v) := by
  intro i hi
  simp only [upd_at]
  by_cases c : i = k
  · rw [if_pos c, if_pos c, if_pos c, if_pos c]
    exact ⟨⟨L, hL, rfl⟩, rfl, rfl⟩
  · rw [if_neg c, if_neg c, if_neg c, if_neg c]
    exact h i (by omega)
/-- one clause, both ways -/
def ClR (x : Option Nat) (k : Nat) : Prop := True
theorem clause_both {c : Nat} {le tx : Int32} {fx gx : Nat → Int32} (h : Txt c le tx fx gx) (a k : Nat) (ha : a ≤ 200) (hk : k < 12) (im be bg : Int32) (fm fw fc gm : Nat → Int32) (hC : Cls k fw fm fc gm) (K : Int32 → Int32 → Int32 → (Nat → Int32) → (Nat → Int32) → Option (Int32 × Int32 × (Nat → Int32) × (Nat → Int32))) :
    (∃ F, F ≤ 300 ∧ (∀ fu, fX5_parse_9 le fx (fu + 1) (nI a) (nI k) (nI k) fm fw = some (nI F, nI k, fm, fw)) ∧ fX9_reads im be bg tx (nI a) (-1) (nI k) fc gm gx = some (nI F, nI F, nI k, fc, gm)) ∨
    (∃ E fm2 fw2 fc2 gm2, E ≤ c ∧ Cls (k + 1) fw2 fm2 fc2 gm2 ∧ (∀ fu, fX5_parse_9 le fx (fu + 1) (nI a) (nI k) (nI k) fm fw = if nI E = le then some (-1, nI (k + 1), fm2, fw2) else if sgn c fx E = 59 then fX5_parse_9 le fx fu (nI (E + 1)) (nI (k + 1)) (nI (k + 1)) fm2 fw2 else some (nI E, nI (k + 1), fm2, fw2)) ∧
      fX9_reads im be bg tx (nI a) (-1) (nI k) fc gm gx = some (nI E, -1, nI (k + 1), fc2, gm2)) := by
  have h' := h
  obtain ⟨h1, h2, h3, h4⟩ := h'
  have hk12 : ¬ (12 : Int32) ≤ nI k := nI_ge (b := 12) (by omega) (by decide)
  have ik : inb (nI k) 12 = true := inb_nI (by omega) (by decide)
  have hlt : fX9_reads im be bg tx (nI a) (-1) (nI k) fc gm gx = fX9_reads_27 im be bg tx gx (ltr (sgn c fx a)) (nI a) (-1) (nI k) fc gm := by
    unfold fX9_reads sgn
    by_cases ca : a < c
    · obtain ⟨v, v1, v2, v3⟩ := h4 a ca
      rw [h3, if_neg (nI_ge ca (by omega)), gd_t (inb_nI (by omega) (by decide)), q_letter, Option.bind_some, nI_clamp (by omega), if_pos ca, v2, v3]
    · rw [h3, if_pos (nI_le (by omega) (by omega)), if_neg ca]
      rfl
  by_cases cl : ltr (sgn c fx a) = -1
  · refine Or.inl ⟨a, by omega, fun fu => ?_, ?_⟩
    · rw [fX5_parse_9, if_neg hk12, p_letter h a (by omega), Option.bind_some, if_pos cl]
    · rw [hlt]
      unfold fX9_reads_27
      rw [if_pos cl]
  obtain ⟨L, hL, hLe⟩ := ltr_of _ cl
  -- where the digits begin
  have key : ∀ (s : Nat) (x2 : Int32) (neg : Bool), s ≤ 202 → 0 < s → (x2 = 0 ↔ neg = false) →
      (∀ fu, fX5_parse_9 le fx (fu + 1) (nI a) (nI k) (nI k) fm fw = fX5_parse_49 le fx (fX5_parse_9 le fx fu) (nI a) (nI k) (nI L) (nI s) (nI k) fm fw) →
      (fX5_signAt (nI a + 1) le (nI k) fx = some (sgn c fx (a + 1))) → ((sgn c fx (a + 1) = 45) ↔ neg = true) →
      fX9_reads im be bg tx (nI a) (-1) (nI k) fc gm gx = fX9_reads_80 im be bg tx gx 500 (nI L) x2 0 0 (nI s) (-1) (nI k) fc gm →
      (∃ F, F ≤ 300 ∧ (∀ fu, fX5_parse_9 le fx (fu + 1) (nI a) (nI k) (nI k) fm fw = some (nI F, nI k, fm, fw)) ∧ fX9_reads im be bg tx (nI a) (-1) (nI k) fc gm gx = some (nI F, nI F, nI k, fc, gm)) ∨
      (∃ E fm2 fw2 fc2 gm2, E ≤ c ∧ Cls (k + 1) fw2 fm2 fc2 gm2 ∧ (∀ fu, fX5_parse_9 le fx (fu + 1) (nI a) (nI k) (nI k) fm fw = if nI E = le then some (-1, nI (k + 1), fm2, fw2) else if sgn c fx E = 59 then fX5_parse_9 le fx fu (nI (E + 1)) (nI (k + 1)) (nI (k + 1)) fm2 fw2 else some (nI E, nI (k + 1), fm2, fw2)) ∧
        fX9_reads im be bg tx (nI a) (-1) (nI k) fc gm gx = some (nI E, -1, nI (k + 1), fc2, gm2)) := by
    intro s x2 neg hs hs0 hx2 hp hsg hneg hr
    obtain ⟨e, e1, e2, e3, e4, e5⟩ := dig_both h s (by omega) im be bg (nI L) x2 (-1) (nI k) (nI k) fc gm 3 0 500 500 (by omega) (by omega) (by omega) (fun q => absurd q (Nat.lt_irrefl 0))
    have e4 : fX5_digitsEnd (nI s) le (nI k) fx = some (nI (s + e)) := e4
    have e5 : fX9_reads_80 im be bg tx gx 500 (nI L) x2 0 0 (nI s) (-1) (nI k) fc gm = _ := e5
    by_cases c0 : e = 0
    · subst c0
      refine Or.inl ⟨s, by omega, fun fu => ?_, ?_⟩
      · rw [hp fu]
        unfold fX5_parse_49
        rw [e4, Option.bind_some, Nat.add_zero, if_pos rfl]
      · rw [hr, e5]
        unfold fX9_reads_131
        rw [if_pos (show nI 0 = 0 from rfl), Nat.add_zero]
    · have hE := e3 (by omega)
      have hne : ¬ nI (s + e) = nI s := by rw [nI_eq (by omega) (by omega)]; omega
      have hnum : fX5_number (nI s) (nI (s + e)) le (nI k) fx = some (numF c fx s e) := p_num h s (by omega) (nI k) e e2 e 0 500 (by omega) (by omega)
      have h113 : ∀ (fu : Nat) (y : Int32), fX5_parse_113 le fx (fX5_parse_9 le fx fu) (nI k) (nI (s + e)) y (nI k) (nI k) fm (upd fw k (nI L)) = if nI (s + e) = le then some (-1, nI (k + 1), upd fm k y, upd fw k (nI L)) else if sgn c fx (s + e) = 59 then fX5_parse_9 le fx fu (nI (s + e + 1)) (nI (k + 1)) (nI (k + 1)) (upd fm k y) (upd fw k (nI L)) else some (nI (s + e), nI (k + 1), upd fm k y, upd fw k (nI L)) := fun fu y => by
        unfold fX5_parse_113
        simp only [lt_eq]
        rw [gd_t ik, nI_clamp (by omega), p_sign h _ (by omega), Option.bind_some, nI_1, nI_1]
      have hend : ¬ nI e = 0 := nI_ne0 (by omega) (by omega)
      cases neg with
      | true =>
        have h45 := hneg.mpr rfl
        have hx : ¬ x2 = 0 := fun q => by have := hx2.mp q; cases this
        refine Or.inr ⟨s + e, upd fm k (-(numF c fx s e)), upd fw k (nI L), upd fc k (nI L), upd gm k (-(numF c fx s e)), hE, hC.snoc L hL _, fun fu => ?_, ?_⟩
        · rw [hp fu, ← h113 fu]
          unfold fX5_parse_49
          rw [e4, Option.bind_some, if_neg hne, gd_t ik, lt_eq, hsg, Option.bind_some, if_pos h45, hnum, Option.bind_some, nI_clamp (by omega)]
        · rw [hr, e5]
          unfold fX9_reads_131
          simp only [lt_eq]
          rw [if_neg hend, gd_t ik, if_neg hx, gd_t ik, nI_clamp (by omega), nI_1]
      | false =>
        have h45 : ¬ sgn c fx (a + 1) = 45 := fun q => by have := hneg.mp q; cases this
        have hx : x2 = 0 := hx2.mpr rfl
        refine Or.inr ⟨s + e, upd fm k (numF c fx s e), upd fw k (nI L), upd fc k (nI L), upd gm k (numF c fx s e), hE, hC.snoc L hL _, fun fu => ?_, ?_⟩
        · rw [hp fu, ← h113 fu]
          unfold fX5_parse_49
          rw [e4, Option.bind_some, if_neg hne, gd_t ik, lt_eq, hsg, Option.bind_some, if_neg h45, hnum, Option.bind_some, nI_clamp (by omega)]
        · rw [hr, e5]
          unfold fX9_reads_131
          simp only [lt_eq]
          rw [if_neg hend, gd_t ik, if_pos hx, gd_t ik, nI_clamp (by omega), nI_1]
  have hsg : fX5_signAt (nI a + 1) le (nI k) fx = some (sgn c fx (a + 1)) := by rw [nI_1]; exact p_sign h _ (by omega) _
  have hr27 : fX9_reads im be bg tx (nI a) (-1) (nI k) fc gm gx = if bw (sgn c fx (a + 1)) 45 45 = 0 then fX9_reads_80 im be bg tx gx 500 (nI L) (bw (sgn c fx (a + 1)) 45 45) 0 0 (nI (a + 1)) (-1) (nI k) fc gm else fX9_reads_80 im be bg tx gx 500 (nI L) (bw (sgn c fx (a + 1)) 45 45) 0 0 (nI (a + 2)) (-1) (nI k) fc gm := by
    rw [hlt]
    unfold fX9_reads_27
    rw [if_neg cl, lt_eq, nI_1, q_isFrom h _ (by omega) _ _ _ _ _ _ _ (by decide), Option.bind_some, lt_eq, nI_1, hLe]
  by_cases c45 : sgn c fx (a + 1) = 45
  · have hb : ¬ bw (sgn c fx (a + 1)) 45 45 = 0 := by rw [c45]; decide
    refine key (a + 2) (bw (sgn c fx (a + 1)) 45 45) true (by omega) (by omega) ⟨fun q => absurd q hb, fun q => by cases q⟩ (fun fu => ?_) hsg ⟨fun _ => rfl, fun _ => c45⟩ (by rw [hr27, if_neg hb])
    rw [fX5_parse_9, if_neg hk12, p_letter h a (by omega), Option.bind_some, if_neg cl, hsg, Option.bind_some, if_pos c45, hLe, show (2 : Int32) = nI 2 from rfl, nI_add]
  · have hb : bw (sgn c fx (a + 1)) 45 45 = 0 := by
      unfold bw
      split
      · rfl
      · next q1 =>
        split
        · rfl
        · next q2 =>
          exfalso
          apply c45
          have q1 := i_le.mp (Int32.not_lt.mp q1)
          have q2 := i_le.mp (Int32.not_lt.mp q2)
          rw [i_eq]
          omega
    refine key (a + 1) (bw (sgn c fx (a + 1)) 45 45) false (by omega) (by omega) ⟨fun _ => rfl, fun _ => hb⟩ (fun fu => ?_) hsg ⟨fun q => absurd q c45, fun q => by cases q⟩ (by rw [hr27, if_pos hb])
    rw [fX5_parse_9, if_neg hk12, p_letter h a (by omega), Option.bind_some, if_neg cl, hsg, Option.bind_some, if_neg c45, hLe, nI_1]
/-- the whole text -/
theorem parse_both {c : Nat} {le tx : Int32} {fx gx : Nat → Int32} (h : Txt c le tx fx gx) (im be bg : Int32) (A9 : Nat → Int64) (fb n : Nat → Int32) : ∀ (r a k fu fu9 : Nat) (fm fw fc gm : Nat → Int32), k + r = 11 → a ≤ 101 → r + 2 < fu → r + 2 < fu9 → Cls k fw fm fc gm →
    ∃ x k2 fm2 fw2 ta fa fc2 gm2, fX5_parse_9 le fx fu (nI a) (nI k) (nI k) fm fw = some (x, nI k2, fm2, fw2) ∧
      ((fX9_reads im be bg tx (nI a) (-1) (nI k) fc gm gx).bind fun ov => fX9_read_19 im gx fu9 be bg tx ov.1 ov.2.1 ov.2.2.1 A9 fb ov.2.2.2.1 ov.2.2.2.2 n) = fX9_read_92 im gx be bg tx ta fa (nI k2) A9 fb fc2 gm2 n ∧
      x = fa ∧ ((x = -1 ∧ k2 ≤ 12 ∧ Cls k2 fw2 fm2 fc2 gm2) ∨ ¬ x < 0) := by
  intro r
  induction r with
  | zero =>
    intro a k fu fu9 fm fw fc gm hk ha hf hf9 hC
    obtain ⟨f, rfl⟩ : ∃ f, fu = f + 1 := ⟨fu - 1, by omega⟩
    obtain ⟨f9, rfl⟩ : ∃ f, fu9 = f + 1 := ⟨fu9 - 1, by omega⟩
    have h1 := h.1
    rcases clause_both h a k (by omega) (by omega) im be bg fm fw fc gm hC (fun _ _ _ _ _ => none) with ⟨F, hF, e1, e2⟩ | ⟨E, fm2, fw2, fc2, gm2, hE, hC2, e1, e2⟩
    · refine ⟨nI F, k, fm, fw, nI F, nI F, fc, gm, e1 f, ?_, rfl, Or.inr (nI_pos (by omega))⟩
      rw [e2, Option.bind_some, fX9_read_19, if_pos (nI_pos' (by omega))]
    · have hm0 : ¬ (0 : Int32) ≤ -1 := by decide
      by_cases cE : E = c
      · refine ⟨-1, k + 1, fm2, fw2, nI E, -1, fc2, gm2, ?_, ?_, rfl, Or.inl ⟨rfl, by omega, hC2⟩⟩
        · rw [e1 f, if_pos (by rw [cE, h.2.1])]
        · rw [e2, Option.bind_some, fX9_read_19, if_neg hm0, if_pos (by rw [h.2.2.1]; exact nI_le (by omega) (by omega))]
      · have hnE : ¬ nI E = le := by rw [h.2.1, nI_eq (by omega) (by omega)]; exact cE
        obtain ⟨v, v1, v2, v3⟩ := h.2.2.2 E (by omega)
        have hsE : sgn c fx E = nI v := by unfold sgn; rw [if_pos (by omega), v2]
        have hk12 : nI (k + 1) = 12 := by rw [show k + 1 = 12 by omega]; rfl
        refine ⟨nI E, k + 1, fm2, fw2, nI (E + 1), nI E, fc2, gm2, ?_, ?_, rfl, Or.inr (nI_pos (by omega))⟩
        · rw [e1 f, if_neg hnE]
          split
          · obtain ⟨f2, rfl⟩ : ∃ f2, f = f2 + 1 := ⟨f - 1, by omega⟩
            rw [fX5_parse_9, if_pos (by rw [hk12]; decide), nI_pred]
          · rfl
        · rw [e2, Option.bind_some, fX9_read_19, if_neg hm0, if_neg (by rw [h.2.2.1]; exact nI_ge (by omega) (by omega)), gd_t (inb_nI (by omega) (by decide)), nI_clamp (by omega), v3]
          have hK : fX9_read_68 im gx (fX9_read_19 im gx f9) be bg tx (nI E) (nI E) (nI (k + 1)) A9 fb fc2 gm2 n = fX9_read_92 im gx be bg tx (nI (E + 1)) (nI E) (nI (k + 1)) A9 fb fc2 gm2 n := by
            unfold fX9_read_68
            rw [lt_eq, if_pos (nI_pos' (by omega)), nI_1]
            obtain ⟨f2, rfl⟩ : ∃ f2, f9 = f2 + 1 := ⟨f9 - 1, by omega⟩
            rw [fX9_read_19, if_pos (nI_pos' (by omega))]
          by_cases c59 : nI v = 59
          · rw [if_pos c59, if_pos hk12]; exact hK
          · rw [if_neg c59]; exact hK
  | succ r ih =>
    intro a k fu fu9 fm fw fc gm hk ha hf hf9 hC
    obtain ⟨f, rfl⟩ : ∃ f, fu = f + 1 := ⟨fu - 1, by omega⟩
    obtain ⟨f9, rfl⟩ : ∃ f, fu9 = f + 1 := ⟨fu9 - 1, by omega⟩
    have h1 := h.1
    rcases clause_both h a k (by omega) (by omega) im be bg fm fw fc gm hC (fun _ _ _ _ _ => none) with ⟨F, hF, e1, e2⟩ | ⟨E, fm2, fw2, fc2, gm2, hE, hC2, e1, e2⟩
    · refine ⟨nI F, k, fm, fw, nI F, nI F, fc, gm, e1 f, ?_, rfl, Or.inr (nI_pos (by omega))⟩
      rw [e2, Option.bind_some, fX9_read_19, if_pos (nI_pos' (by omega))]
    · have hm0 : ¬ (0 : Int32) ≤ -1 := by decide
      by_cases cE : E = c
      · refine ⟨-1, k + 1, fm2, fw2, nI E, -1, fc2, gm2, ?_, ?_, rfl, Or.inl ⟨rfl, by omega, hC2⟩⟩
        · rw [e1 f, if_pos (by rw [cE, h.2.1])]
        · rw [e2, Option.bind_some, fX9_read_19, if_neg hm0, if_pos (by rw [h.2.2.1]; exact nI_le (by omega) (by omega))]
      · have hnE : ¬ nI E = le := by rw [h.2.1, nI_eq (by omega) (by omega)]; exact cE
        obtain ⟨v, v1, v2, v3⟩ := h.2.2.2 E (by omega)
        have hsE : sgn c fx E = nI v := by unfold sgn; rw [if_pos (by omega), v2]
        have hk12 : ¬ nI (k + 1) = 12 := by rw [show (12 : Int32) = nI 12 from rfl, nI_eq (by omega) (by omega)]; omega
        by_cases c59 : nI v = 59
        · obtain ⟨x, k2, fm3, fw3, ta, fa, fc3, gm3, g1, g2, g3⟩ := ih (E + 1) (k + 1) f f9 fm2 fw2 fc2 gm2 (by omega) (by omega) (by omega) (by omega) hC2
          refine ⟨x, k2, fm3, fw3, ta, fa, fc3, gm3, ?_, ?_, g3⟩
          · rw [e1 f, if_neg hnE, if_pos (by rw [hsE]; exact c59)]
            exact g1
          · rw [e2, Option.bind_some, fX9_read_19, if_neg hm0, if_neg (by rw [h.2.2.1]; exact nI_ge (by omega) (by omega)), gd_t (inb_nI (by omega) (by decide)), nI_clamp (by omega), v3, if_pos c59, if_neg hk12]
            unfold fX9_read_68
            rw [lt_eq, if_neg hm0, nI_1]
            exact g2
        · refine ⟨nI E, k + 1, fm2, fw2, nI (E + 1), nI E, fc2, gm2, ?_, ?_, rfl, Or.inr (nI_pos (by omega))⟩
          · rw [e1 f, if_neg hnE, if_neg (by rw [hsE]; exact c59)]
          · rw [e2, Option.bind_some, fX9_read_19, if_neg hm0, if_neg (by rw [h.2.2.1]; exact nI_ge (by omega) (by omega)), gd_t (inb_nI (by omega) (by decide)), nI_clamp (by omega), v3, if_neg c59]
            unfold fX9_read_68
            rw [lt_eq, if_pos (nI_pos' (by omega)), nI_1]
            obtain ⟨f2, rfl⟩ : ∃ f2, f9 = f2 + 1 := ⟨f9 - 1, by omega⟩
            rw [fX9_read_19, if_pos (nI_pos' (by omega))]
