/-! what is heard from now on; from now on with another number -/
theorem p_put (j : Nat) (hj : j < 7) (v : Int32) (b : Nat → Int32) (se : Int64) (z : Int32) : fX0_put (nI j) v b se z = some (upd b j v) := by
  have : j = 0 ∨ j = 1 ∨ j = 2 ∨ j = 3 ∨ j = 4 ∨ j = 5 ∨ j = 6 := by omega
  rcases this with rfl | rfl | rfl | rfl | rfl | rfl | rfl <;> rfl
theorem R_goes {L : List Pu} {b : Nat → Int32} {k : Int32} {t w s n : Nat → Int32} (h : RBal L b k t w s n) (n_e : Int32) (se : Int64) (z : Int32) (f_a : Nat → Int32) (A : Nat → Int64) (im be bg tx ta fa cl : Int32) (A9 : Nat → Int64) (fb : Nat → Int32) :
    ∃ hs b2 se2 f_a2 A2 o A92 fb2 n2, fX1_listen n_e b se z f_a A k s t w = some (nI hs.length, b2, se2, f_a2, A2, o) ∧ fX9_goes 400 im be bg tx ta fa cl A9 fb n = some (nI hs.length, n 8, A92, fb2, n2) ∧ Hrd hs 400 f_a2 ∧ Hrd hs 400 fb2 := by
  have h0 : ∀ f : Nat → Int32, Hrd [] 0 f := fun f => ⟨List.Pairwise.nil, fun q hq => by simp at hq, Nat.le_refl _, fun j q hq => by simp at hq⟩
  obtain ⟨hs, L2, b2, se2, f_a2, A2, o, A92, fb2, n2, e1, e2, e3, e4, -⟩ := R_listen z im tx ta fa cl (n 8) 400 0 500 500 [] L b se f_a A k s t w A9 fb n (by omega) (by omega) (by omega) h (by rw [nI_0, Int32.add_zero]) (h0 _) (h0 _)
  refine ⟨hs, b2, se2, f_a2, A2, o, A92, fb2, n2, e1, ?_, e3, e4⟩
  unfold fX9_goes
  rw [lt_eq]
  exact e2
theorem R_hear {L : List Pu} {b : Nat → Int32} {k : Int32} {t w s n : Nat → Int32} (h : RBal L b k t w s n) (ik n_e : Int32) (b_h : Nat → Int32) (se_h : Int64) (z_h : Int32) (f_ea : Nat → Int32) (f_hA : Nat → Int64) (k_hP : Int32) (se : Int64) (z : Int32) (s_h t_h w_h : Nat → Int32) (A : Nat → Int64)
    (im be bg tx ta fa cl : Int32) (A9 H9 : Nat → Int64) (fb fh : Nat → Int32) :
    ∃ hs o m, fX8_listenFromNow ik n_e b_h se_h z_h f_ea f_hA k_hP b se z s_h t_h w_h A k s t w = some o ∧ fX9_hears_ im be bg tx ta fa cl A9 H9 fb fh n = some m ∧ o.1 = nI hs.length ∧ m.1 = nI hs.length ∧ Hrd hs 400 o.2.2.2.1 ∧ Hrd hs 400 m.2.2.2.2.1 ∧ AgL m.2.2.1 A9 ∧ Ag 69 m.2.2.2.2.2.2 n := by
  obtain ⟨b2, A2, o, hc, hag, -, hrp⟩ := p_bcopy h.2.2.1 b_h se_h z_h b se z f_hA k_hP A s_h t_h w_h
  have hR := h.cp hag hrp
  have hup : Ag 69 (upd n 0 (n 0)) n := fun j hj => by
    rw [upd_at]
    split
    · next c => rw [c]
    · rfl
  obtain ⟨H2, h2, l1, l2, l3⟩ := q_lays im be bg tx ta fa cl A9 H9 fh n
  obtain ⟨hs, b3, se3, f_a3, A3, o3, A93, fb3, n3, g1, g2, g3, g4⟩ := R_goes (hR.ag hup) n_e se z_h f_ea A2 im be bg tx ta fa cl A9 fb
  obtain ⟨A4, n4, k1, k2, k3⟩ := q_back im (nI hs.length) (upd n 0 (n 0) 8) tx ta fa cl A93 H2 h2 n3
  refine ⟨hs, (nI hs.length, b3, se3, f_a3, A3, o3), (nI hs.length, upd n 0 (n 0) 8, A4, H2, fb3, h2, n4), ?_, ?_, rfl, rfl, g3, g4, ?_, ?_⟩
  · unfold fX8_listenFromNow
    rw [hc, Option.bind_some, g1, Option.bind_some]
  · unfold fX9_hears_ fX9_hears
    rw [l1, Option.bind_some, gd_t (by decide), lt_eq, show Int32.toNatClampNeg 0 = 0 by decide, g2, Option.bind_some, k1, Option.bind_some, Option.bind_some]
  · exact fun j hj => (k2 j hj).trans (l2 j hj)
  · exact fun j hj => (k3 j hj).trans (l3 j hj)
theorem R_hearW {L : List Pu} {b : Nat → Int32} {k : Int32} {t w s n : Nat → Int32} (h : RBal L b k t w s n) (j : Nat) (hj : j < 6) (v ik n_e : Int32) (b_h : Nat → Int32) (se_h : Int64) (z_h : Int32) (f_ea : Nat → Int32) (f_hA : Nat → Int64) (k_hP : Int32) (se : Int64) (z : Int32) (s_h t_h w_h : Nat → Int32) (A : Nat → Int64)
    (im be bg tx ta fa cl : Int32) (A9 H9 : Nat → Int64) (fb fh : Nat → Int32) :
    ∃ hs o m, fX8_listenWith (nI j) v ik n_e b_h se_h z_h f_ea f_hA k_hP b se z s_h t_h w_h A k s t w = some o ∧ fX9_hears (nI j) v im be bg tx ta fa cl A9 H9 fb fh n = some m ∧ o.1 = nI hs.length ∧ m.1 = nI hs.length ∧ Hrd hs 400 o.2.2.2.1 ∧ Hrd hs 400 m.2.2.2.2.1 ∧ AgL m.2.2.1 A9 ∧ Ag 69 m.2.2.2.2.2.2 n := by
  obtain ⟨b2, A2, o, hc, hag, -, hrp⟩ := p_bcopy h.2.2.1 b_h se_h z_h b se z f_hA k_hP A s_h t_h w_h
  have hR := (h.cp hag hrp).put j hj v
  obtain ⟨H2, h2, l1, l2, l3⟩ := q_lays im be bg tx ta fa cl A9 H9 fh n
  obtain ⟨hs, b3, se3, f_a3, A3, o3, A93, fb3, n3, g1, g2, g3, g4⟩ := R_goes hR n_e se z_h f_ea A2 im be bg tx ta fa cl A9 fb
  obtain ⟨A4, n4, k1, k2, k3⟩ := q_back im (nI hs.length) (upd n j v 8) tx ta fa cl A93 H2 h2 n3
  refine ⟨hs, (nI hs.length, b3, se3, f_a3, A3, o3), (nI hs.length, upd n j v 8, A4, H2, fb3, h2, n4), ?_, ?_, rfl, rfl, g3, g4, ?_, ?_⟩
  · unfold fX8_listenWith
    rw [hc, Option.bind_some, p_put j (by omega), Option.bind_some, g1, Option.bind_some]
  · unfold fX9_hears
    rw [l1, Option.bind_some, gd_t (inb_nI (by omega) (by decide)), lt_eq, nI_clamp (by omega), g2, Option.bind_some, k1, Option.bind_some]
  · exact fun i hi => (k2 i hi).trans (l2 i hi)
  · exact fun i hi => (k3 i hi).trans (l3 i hi)
/-! beats, gaps -/
def hd0 (hs : List Nat) (i : Nat) : Nat := hs.getD i 0
def gv (hs : List Nat) (i : Nat) : Int32 := nI (hd0 hs (i + 1)) - nI (hd0 hs i)
theorem Hrd.at {hs : List Nat} {N : Nat} {f : Nat → Int32} (h : Hrd hs N f) {i : Nat} (hi : i < hs.length) : f i = nI (hd0 hs i) ∧ hd0 hs i < N := by
  have e : hs[i]? = some (hd0 hs i) := by
    unfold hd0
    rw [List.getD_eq_getElem?_getD, List.getElem?_eq_getElem hi]; rfl
  exact ⟨h.2.2.2 i _ e, h.2.1 _ (List.mem_of_getElem? e)⟩
theorem Hrd.lt {hs : List Nat} {N : Nat} {f : Nat → Int32} (h : Hrd hs N f) {i j : Nat} (hij : i < j) (hj : j < hs.length) : hd0 hs i < hd0 hs j := by
  have e1 : hs[i]? = some (hd0 hs i) := by
    unfold hd0
    rw [List.getD_eq_getElem?_getD, List.getElem?_eq_getElem (by omega)]; rfl
  have e2 : hs[j]? = some (hd0 hs j) := by
    unfold hd0
    rw [List.getD_eq_getElem?_getD, List.getElem?_eq_getElem hj]; rfl
  have h1 := List.pairwise_iff_getElem.mp h.1 i j (by omega) hj hij
  rw [List.getElem?_eq_getElem (by omega)] at e1
  rw [List.getElem?_eq_getElem hj] at e2
  rw [Option.some.inj e1, Option.some.inj e2] at h1
  exact h1
theorem p_beatAt {hs : List Nat} {f : Nat → Int32} (h : Hrd hs 400 f) {i : Nat} (hi : i < hs.length) : fX1_beatAt (nI i) (nI hs.length) f = some (nI (hd0 hs i)) := by
  have hl := h.2.2.1
  unfold fX1_beatAt
  rw [if_neg (nI_pos (by omega)), if_neg (nI_ge hi (by omega)), if_neg (show ¬ (400 : Int32) ≤ nI i from nI_ge (b := 400) (by omega) (by decide)), gd_t (inb_nI (by omega) (by decide)), nI_clamp (by omega), (h.at hi).1]
theorem p_gaps (l : Nat) (hl : l ≤ 400) : fX1_gaps (nI l) = some (nI (l - 1)) := by
  unfold fX1_gaps
  rw [lt_eq]
  cases l with
  | zero => rfl
  | succ l =>
    rw [nI_pred]
    cases l with
    | zero => rfl
    | succ l =>
      rw [if_pos (show 0 < nI (l + 1) from nI_lt (a := 0) (by omega) (by omega))]; rfl
theorem q_gaps (l : Nat) (hl : l ≤ 400) (im bg tx ta fa cl : Int32) : fX9_gaps im (nI l) bg tx ta fa cl = some (nI (l - 1)) := p_gaps l hl
theorem p_gapAt {hs : List Nat} {f : Nat → Int32} (h : Hrd hs 400 f) {i : Nat} (hi : i + 1 < hs.length) : fX1_gapAt (nI i) (nI hs.length) f = some (gv hs i) := by
  have hl := h.2.2.1
  unfold fX1_gapAt
  rw [if_neg (nI_pos (by omega)), p_gaps _ hl, Option.bind_some, if_neg (nI_ge (by omega) (by omega)), nI_1, p_beatAt h hi, Option.bind_some, p_beatAt h (by omega), Option.bind_some]
  rfl
theorem q_gapOf {hs : List Nat} {f : Nat → Int32} (h : Hrd hs 400 f) {i : Nat} (hi : i + 1 < hs.length) (im be bg tx ta fa cl : Int32) : fX9_gapOf (nI i) im be bg tx ta fa cl f = some (gv hs i) := by
  have hl := h.2.2.1
  unfold fX9_gapOf
  rw [nI_1, gd_t (inb_nI (by omega) (by decide)), gd_t (inb_nI (by omega) (by decide)), nI_clamp (by omega), nI_clamp (by omega), (h.at hi).1, (h.at (i := i) (by omega)).1]
  rfl
theorem gv_toInt {hs : List Nat} {f : Nat → Int32} (h : Hrd hs 400 f) {i : Nat} (hi : i + 1 < hs.length) : (gv hs i).toInt = (hd0 hs (i + 1) : Int) - hd0 hs i := by
  have h1 := (h.at hi).2
  have h2 := (h.at (i := i) (by omega)).2
  unfold gv
  exact pk_sub_toInt (by omega) (by omega)
theorem uneven_both {hs : List Nat} {f fb : Nat → Int32} (h : Hrd hs 400 f) (h9 : Hrd hs 400 fb) (im bg tx ta fa cl : Int32) : ∀ (r i fu fu9 : Nat) (x : Int32), hs.length - i ≤ r → (i = 0 ∨ i < hs.length) → r < fu → r < fu9 → -(hd0 hs i : Int) ≤ x.toInt → x.toInt ≤ hd0 hs i →
    ∃ u, fX1_uneven_9 (nI hs.length) f fu x (nI (hs.length - 1)) (nI i) = some u ∧ fX9_uneven_4 im (nI hs.length) bg tx ta fa cl fb fu9 x (nI i) = some u ∧ -400 < u.toInt ∧ u.toInt < 400 := by
  intro r
  induction r with
  | zero =>
    intro i fu fu9 x hr hi hf hf9 hx1 hx2
    obtain ⟨f1, rfl⟩ : ∃ f, fu = f + 1 := ⟨fu - 1, by omega⟩
    obtain ⟨f9, rfl⟩ : ∃ f, fu9 = f + 1 := ⟨fu9 - 1, by omega⟩
    have hl := h.2.2.1
    have hle : nI (hs.length - 1) ≤ nI i + 1 := by rw [nI_1]; exact nI_le (by omega) (by omega)
    have hb : hd0 hs i < 400 := by
      by_cases c : i < hs.length
      · exact (h.at c).2
      · unfold hd0
        rw [List.getD_eq_getElem?_getD, List.getElem?_eq_none (by omega)]; decide
    refine ⟨x, ?_, ?_, by omega, by omega⟩
    · rw [fX1_uneven_9, if_pos hle]
    · rw [fX9_uneven_4, q_gaps _ hl, Option.bind_some, if_pos hle]
  | succ r ih =>
    intro i fu fu9 x hr hi hf hf9 hx1 hx2
    obtain ⟨f1, rfl⟩ : ∃ f, fu = f + 1 := ⟨fu - 1, by omega⟩
    obtain ⟨f9, rfl⟩ : ∃ f, fu9 = f + 1 := ⟨fu9 - 1, by omega⟩
    have hl := h.2.2.1
    by_cases c : i + 2 < hs.length
    · have hle : ¬ nI (hs.length - 1) ≤ nI i + 1 := by rw [nI_1]; exact nI_ge (by omega) (by omega)
      have g1 := gv_toInt h (i := i) (by omega)
      have g2 : (gv hs (i + 1)).toInt = (hd0 hs (i + 2) : Int) - hd0 hs (i + 1) := gv_toInt h (i := i + 1) (by omega)
      have a1 := h.lt (i := i) (j := i + 1) (by omega) (by omega)
      have a2 := h.lt (i := i + 1) (j := i + 2) (by omega) (by omega)
      have a3 := (h.at (i := i + 2) (by omega)).2
      have s1 : (gv hs i - gv hs (i + 1)).toInt = (gv hs i).toInt - (gv hs (i + 1)).toInt := i_sub (by omega) (by omega)
      have s2 : (x + (gv hs i - gv hs (i + 1))).toInt = x.toInt + (gv hs i - gv hs (i + 1)).toInt := i_add (by omega) (by omega)
      obtain ⟨u, e1, e2, e3⟩ := ih (i + 2) f1 f9 (x + (gv hs i - gv hs (i + 1))) (by omega) (Or.inr c) (by omega) (by omega) (by omega) (by omega)
      have e22 : nI i + 2 = nI (i + 2) := by rw [show (2 : Int32) = nI 2 from rfl, nI_add]
      refine ⟨u, ?_, ?_, e3⟩
      · rw [fX1_uneven_9, if_neg hle, p_gapAt h (by omega), Option.bind_some, nI_1, p_gapAt h (by omega), Option.bind_some, lt_eq, lt_eq, e22]
        exact e1
      · rw [fX9_uneven_4, q_gaps _ hl, Option.bind_some, if_neg hle, q_gapOf h9 (by omega), Option.bind_some, nI_1, q_gapOf h9 (by omega), Option.bind_some, lt_eq, lt_eq, e22]
        exact e2
    · have hle : nI (hs.length - 1) ≤ nI i + 1 := by rw [nI_1]; exact nI_le (by omega) (by omega)
      have hb : hd0 hs i < 400 := by
        by_cases c : i < hs.length
        · exact (h.at c).2
        · unfold hd0
          rw [List.getD_eq_getElem?_getD, List.getElem?_eq_none (by omega)]; decide
      refine ⟨x, ?_, ?_, by omega, by omega⟩
      · rw [fX1_uneven_9, if_pos hle]
      · rw [fX9_uneven_4, q_gaps _ hl, Option.bind_some, if_pos hle]
theorem R_uneven {hs : List Nat} {f fb : Nat → Int32} (h : Hrd hs 400 f) (h9 : Hrd hs 400 fb) (im bg tx ta fa cl : Int32) :
    ∃ u, fX1_uneven (nI hs.length) f = some u ∧ fX9_uneven im (nI hs.length) bg tx ta fa cl fb = some u ∧ -400 < u.toInt ∧ u.toInt < 400 := by
  have hl := h.2.2.1
  obtain ⟨u, e1, e2, e3⟩ := uneven_both h h9 im bg tx ta fa cl hs.length 0 500 500 0 (by omega) (Or.inl rfl) (by omega) (by omega) (by simp) (by simp)
  refine ⟨u, ?_, e2, e3⟩
  unfold fX1_uneven
  rw [p_gaps _ hl, Option.bind_some]
  exact e1
