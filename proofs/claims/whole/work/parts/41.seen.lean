/-! SEEN, FITS -/
def alw (c : Nat) (ff fs : Nat → Int32) (j : Nat) (x a : Int32) : Bool := (List.range' j (c - j)).all (fun i => !(decide (ff i = x) && !decide (fs i = a)))
theorem alw_end (c : Nat) (ff fs : Nat → Int32) (x a : Int32) : alw c ff fs c x a = true := by
  unfold alw
  rw [Nat.sub_self]; rfl
theorem alw_step (c : Nat) (ff fs : Nat → Int32) (j : Nat) (hj : j < c) (x a : Int32) : alw c ff fs j x a = (!(decide (ff j = x) && !decide (fs j = a)) && alw c ff fs (j + 1) x a) := by
  unfold alw
  obtain ⟨d, hd⟩ : ∃ d, c - j = d + 1 := ⟨c - j - 1, by omega⟩
  rw [hd, List.range'_succ, List.all_cons, show c - (j + 1) = d by omega]
theorem alw_true {c : Nat} {ff fs : Nat → Int32} {x a : Int32} (h : ∀ i, i < c → ¬ ff i = x) : ∀ (r j : Nat), j + r = c → alw c ff fs j x a = true := by
  intro r
  induction r with
  | zero => intro j hj; rw [show j = c by omega]; exact alw_end _ _ _ _ _
  | succ r ih =>
    intro j hj
    rw [alw_step _ _ _ _ (by omega), ih (j + 1) (by omega)]
    simp [h j (by omega)]
theorem p_allows2 (c : Nat) (hc : c ≤ 8) (ff fs : Nat → Int32) (x a : Int32) : ∀ (r j fu : Nat), j + r = c → r < fu → fX3_allows_2 x a (nI c) ff fs fu (nI j) = some (if alw c ff fs j x a = true then 1 else 0) := by
  intro r
  induction r with
  | zero =>
    intro j fu hj hf
    obtain ⟨f, rfl⟩ : ∃ f, fu = f + 1 := ⟨fu - 1, by omega⟩
    have hj2 : j = c := by omega
    subst hj2
    rw [fX3_allows_2, if_pos (nI_le (Nat.le_refl _) (by omega)), alw_end, if_pos rfl]
  | succ r ih =>
    intro j fu hj hf
    obtain ⟨f, rfl⟩ : ∃ f, fu = f + 1 := ⟨fu - 1, by omega⟩
    have hi8 : inb (nI j) 8 = true := inb_nI (by omega) (by decide)
    rw [fX3_allows_2, if_neg (nI_ge (by omega) (by omega)), if_neg (show ¬ (8 : Int32) ≤ nI j from nI_ge (b := 8) (by omega) (by decide)), gd_t hi8, nI_clamp (by omega), alw_step _ _ _ _ (by omega)]
    simp only [lt_eq, nI_1]
    by_cases c1 : ff j = x
    · rw [if_pos c1, gd_t hi8]
      by_cases c2 : fs j = a
      · rw [if_pos c2, ih (j + 1) f (by omega) (by omega)]
        simp [c1, c2]
      · rw [if_neg c2]
        simp [c1, c2]
    · rw [if_neg c1, ih (j + 1) f (by omega) (by omega)]
      simp [c1]
theorem p_allows (c : Nat) (hc : c ≤ 8) (ff fs : Nat → Int32) (x a : Int32) : fX3_allows x a (nI c) ff fs = some (if alw c ff fs 0 x a = true then 1 else 0) := p_allows2 c hc ff fs x a c 0 500 (by omega) (by omega)
theorem p_great (c : Nat) (hc : c ≤ 8) (ff : Nat → Int32) (hff : ∀ i, i < c → 0 ≤ (ff i).toInt ∧ (ff i).toInt ≤ 400) : ∀ (r j fu : Nat) (x : Int32), j + r = c → r < fu → -1 ≤ x.toInt → x.toInt ≤ 400 → (∀ i, i < j → (ff i).toInt ≤ x.toInt) →
    ∃ g, fX3_greatestFirst_4 (nI c) ff fu x (nI j) = some g ∧ -1 ≤ g.toInt ∧ g.toInt ≤ 400 ∧ ∀ i, i < c → (ff i).toInt ≤ g.toInt := by
  intro r
  induction r with
  | zero =>
    intro j fu x hj hf h1 h2 h3
    obtain ⟨f, rfl⟩ : ∃ f, fu = f + 1 := ⟨fu - 1, by omega⟩
    have hj2 : j = c := by omega
    subst hj2
    exact ⟨x, by rw [fX3_greatestFirst_4, if_pos (nI_le (Nat.le_refl _) (by omega))], h1, h2, h3⟩
  | succ r ih =>
    intro j fu x hj hf h1 h2 h3
    obtain ⟨f, rfl⟩ : ∃ f, fu = f + 1 := ⟨fu - 1, by omega⟩
    have hi8 : inb (nI j) 8 = true := inb_nI (by omega) (by decide)
    have hfj := hff j (by omega)
    have hm : x.toInt ≤ (if x < ff j then ff j else x).toInt ∧ (ff j).toInt ≤ (if x < ff j then ff j else x).toInt ∧ (if x < ff j then ff j else x).toInt ≤ 400 := by
      by_cases cc : x < ff j
      · rw [if_pos cc]
        have := i_lt.mp cc
        omega
      · rw [if_neg cc]
        have := i_le.mp (Int32.not_lt.mp cc)
        omega
    obtain ⟨g, e1, e2⟩ := ih (j + 1) f (if x < ff j then ff j else x) (by omega) (by omega) (by omega) (by omega) (fun i hi => by
      by_cases cc : i = j
      · subst cc; exact hm.2.1
      · have := h3 i (by omega); omega)
    refine ⟨g, ?_, e2⟩
    rw [fX3_greatestFirst_4, if_neg (nI_ge (by omega) (by omega)), if_neg (show ¬ (8 : Int32) ≤ nI j from nI_ge (b := 8) (by omega) (by decide)), gd_t hi8, nI_clamp (by omega)]
    simp only [lt_eq, nI_1]
    exact e1
/-- what is seen, as the model has it -/
def Sm (c : Nat) (ff fs n : Nat → Int32) : Prop := n 13 = nI c ∧ ∀ i, i < c → n (43 + 2 * i) = ff i ∧ n (44 + 2 * i) = fs i
theorem Sm.of {c : Nat} {ff fs n m : Nat → Int32} (h : Sm c ff fs n) (hm : ∀ j, (12 ≤ j ∧ j < 15) ∨ (39 ≤ j ∧ j < 69) → m j = n j) (hc : c ≤ 5) : Sm c ff fs m :=
  ⟨(hm 13 (by omega)).trans h.1, fun i hi => ⟨(hm _ (by omega)).trans (h.2 i hi).1, (hm _ (by omega)).trans (h.2 i hi).2⟩⟩
theorem q_seen17 (im bg tx ta fa cl : Int32) (c : Nat) (hc : c ≤ 5) (ff fs : Nat → Int32) (K : Int32 → Int32 → Int32 → (Nat → Int64) → (Nat → Int32) → (Nat → Int32) → Option (Int32 × Int32 × (Nat → Int64) × (Nat → Int32) × (Nat → Int32))) (x2 be : Int32) (A : Nat → Int64) (fb n : Nat → Int32) (hS : Sm c ff fs n) : ∀ (r j fu : Nat) (x1 : Int32), j + r = c → r < fu →
    fX9_isSeen_17 im bg tx ta fa cl K fu x1 x2 (nI j) be A fb n = (fX9_tick im be bg tx ta fa cl A fb n).bind (fun o => K (if alw c ff fs j x2 (n 0) = true then x1 else 0) (x2 + 1) o.1 o.2.1 o.2.2.1 o.2.2.2) := by
  have q2 : ∀ (a b : Nat), (nI a) + 2 * nI b = nI (a + 2 * b) := fun a b => by rw [show (2 : Int32) = nI 2 from rfl, pk_mul, nI_add]
  intro r
  induction r with
  | zero =>
    intro j fu x1 hj hf
    obtain ⟨f, rfl⟩ : ∃ f, fu = f + 1 := ⟨fu - 1, by omega⟩
    have hj2 : j = c := by omega
    subst hj2
    rw [fX9_isSeen_17, hS.1, if_pos (nI_le (Nat.le_refl _) (by omega)), alw_end, if_pos rfl]
    rfl
  | succ r ih =>
    intro j fu x1 hj hf
    obtain ⟨f, rfl⟩ : ∃ f, fu = f + 1 := ⟨fu - 1, by omega⟩
    have hs := hS.2 j (by omega)
    rw [fX9_isSeen_17, hS.1, if_neg (nI_ge (by omega) (by omega))]
    rw [show (43 : Int32) + 2 * nI j = nI (43 + 2 * j) from q2 43 j, gd_t (inb_nI (by omega) (by decide)), nI_clamp (by omega), hs.1, nI_1, show 43 + 2 * j + 1 = 44 + 2 * j by omega]
    simp only [lt_eq, nI_1]
    rw [alw_step _ _ _ _ (by omega)]
    by_cases c1 : ff j = x2
    · rw [if_pos c1, gd_t (inb_nI (by omega) (by decide)), nI_clamp (by omega), hs.2]
      by_cases c2 : fs j = n 0
      · rw [if_pos c2, ih (j + 1) f x1 (by omega) (by omega)]
        simp [c1, c2]
      · rw [if_neg c2, ih (j + 1) f 0 (by omega) (by omega)]
        simp [c1, c2]
    · rw [if_neg c1, ih (j + 1) f x1 (by omega) (by omega)]
      simp [c1]
def BeOk (be be2 : Int32) (d : Nat) : Prop := 0 ≤ be2.toInt ∧ be2.toInt ≤ be.toInt + d
theorem be_tick (be : Int32) (x : Int32) (h : 0 ≤ be.toInt) (h2 : be.toInt < 1000000000) : BeOk be (if x = 0 then be else be + 1) 1 := by
  unfold BeOk
  split
  · omega
  · rw [i_add (by simp; omega) (by simp; omega)]; simp; omega
/-- nothing more is seen: the model goes on by itself -/
theorem q_seenB (im bg tx ta fa cl : Int32) (c : Nat) (hc : c ≤ 5) (ff fs : Nat → Int32) : ∀ (r i fu : Nat) (L : List Pu) (b : Nat → Int32) (k : Int32) (t w s : Nat → Int32) (be : Int32) (A : Nat → Int64) (fb n : Nat → Int32), RBal L b k t w s n → Sm c ff fs n → i + r = 401 → r < fu → 0 ≤ be.toInt → be.toInt + (r : Int) < 900000000 → (∀ j, j < c → (ff j).toInt < i) →
    ∃ be2 A2 fb2 n2, fX9_isSeen_4 im bg tx ta fa cl fu 1 (nI i) be A fb n = some (1, be2, A2, fb2, n2) ∧ BeOk be be2 r := by
  intro r
  induction r with
  | zero =>
    intro i fu L b k t w s be A fb n h hS hi hf hb1 hb2 hff
    obtain ⟨f, rfl⟩ : ∃ f, fu = f + 1 := ⟨fu - 1, by omega⟩
    refine ⟨be, A, fb, n, ?_, by unfold BeOk; omega⟩
    rw [fX9_isSeen_4, if_pos (show (400 : Int32) < nI i from nI_lt (a := 400) (by omega) (by omega)), gd_t (by decide)]
  | succ r ih =>
    intro i fu L b k t w s be A fb n h hS hi hf hb1 hb2 hff
    obtain ⟨f, rfl⟩ : ∃ f, fu = f + 1 := ⟨fu - 1, by omega⟩
    obtain ⟨b2, o, n2, -, ht9, hR2, -, hfr⟩ := R_tick h im be bg tx ta fa cl (by rw [i_lt]; simp; omega) 0 0 A A fb
    generalize hx : tb (dps n (L.filter (fun q => decide (q.1 = n 8)))) = x at ht9
    have hbt := be_tick be x hb1 (by omega)
    obtain ⟨be3, A3, fb3, n3, e1, e2⟩ := ih (i + 1) f _ b2 o.1 o.2.2.1 o.2.2.2 o.2.1 (if x = 0 then be else be + 1) _ _ n2 hR2 (hS.of (fun j hj => hfr j (by omega)) hc) (by omega) (by omega) hbt.1 (by have := hbt.2; omega) (fun j hj => by have := hff j hj; omega)
    refine ⟨be3, A3, fb3, n3, ?_, by unfold BeOk at *; omega⟩
    rw [fX9_isSeen_4, if_neg (show ¬ (400 : Int32) < nI i from nI_nlt (b := i) (a := 400) (by omega) (by decide)), if_neg (show ¬ (1 : Int32) = 0 by decide), show (0 : Int32) = nI 0 from rfl, q_seen17 im bg tx ta fa cl c hc ff fs _ (nI i) be A fb n hS c 0 500 1 (by omega) (by omega)]
    have hal : alw c ff fs 0 (nI i) (n 0) = true := alw_true (fun j hj e => by
      have h1 := hff j hj
      rw [e, nI_toInt (by omega)] at h1
      omega) c 0 (by omega)
    rw [hal, if_pos rfl, nI_1, ht9, Option.bind_some]
    exact e1
/-- both look at what is seen -/
theorem R_seen2 (i1 ik z_h : Int32) (bn : Nat → Int32) (se : Int64) (z : Int32) (An : Nat → Int64) (kn : Int32) (tn wn sn : Nat → Int32) (im bg tx ta fa cl : Int32) (c : Nat) (hc : c ≤ 5) (ff fs : Nat → Int32) (g : Int32) (hg1 : -1 ≤ g.toInt) (hg2 : g.toInt ≤ 400) (hgf : ∀ i, i < c → (ff i).toInt ≤ g.toInt) : ∀ (r i fu fu9 : Nat) (L : List Pu) (b : Nat → Int32) (se2 : Int64) (A2 : Nat → Int64) (k : Int32) (t w s : Nat → Int32) (be : Int32) (A : Nat → Int64) (fb n : Nat → Int32), RBal L b k t w s n → Sm c ff fs n → i + r = 401 → r + 1 < fu → r < fu9 → 0 ≤ be.toInt → be.toInt + (r : Int) < 900000000 →
    ∃ o m, fX8_goesAsSeen_36 i1 ik z_h bn se z (nI c) An kn ff fs sn tn wn fu g (nI i) b se2 A2 k s t w = some o ∧ fX9_isSeen_4 im bg tx ta fa cl fu9 1 (nI i) be A fb n = some m ∧ o.1 = m.1 ∧ (o.1 = 0 ∨ o.1 = 1) ∧ BeOk be m.2.1 r := by
  intro r
  induction r with
  | zero =>
    intro i fu fu9 L b se2 A2 k t w s be A fb n h hS hi hf hf9 hb1 hb2
    obtain ⟨f, rfl⟩ : ∃ f, fu = f + 1 := ⟨fu - 1, by omega⟩
    obtain ⟨f9, rfl⟩ : ∃ f, fu9 = f + 1 := ⟨fu9 - 1, by omega⟩
    have hgi : g < nI i := by rw [i_lt, nI_toInt (by omega)]; omega
    apply mk2
    · rw [fX8_goesAsSeen_36, if_pos hgi]
    · rw [fX9_isSeen_4, if_pos (show (400 : Int32) < nI i from nI_lt (a := 400) (by omega) (by omega)), gd_t (by decide)]
    · exact ⟨rfl, Or.inr rfl, show BeOk be be 0 from ⟨hb1, by omega⟩⟩
  | succ r ih =>
    intro i fu fu9 L b se2 A2 k t w s be A fb n h hS hi hf hf9 hb1 hb2
    by_cases hgi : g < nI i
    · obtain ⟨f, rfl⟩ : ∃ f, fu = f + 1 := ⟨fu - 1, by omega⟩
      have h3 := i_lt.mp hgi
      rw [nI_toInt (by omega)] at h3
      obtain ⟨be3, A3, fb3, n3, e1, e2⟩ := q_seenB im bg tx ta fa cl c hc ff fs (r + 1) i fu9 L b k t w s be A fb n h hS hi hf9 hb1 hb2 (fun j hj => by have := hgf j hj; omega)
      apply mk2
      · rw [fX8_goesAsSeen_36, if_pos hgi]
      · exact e1
      · exact ⟨rfl, Or.inr rfl, e2⟩
    · obtain ⟨f, rfl⟩ : ∃ f, fu = f + 1 := ⟨fu - 1, by omega⟩
      obtain ⟨f9, rfl⟩ : ∃ f, fu9 = f + 1 := ⟨fu9 - 1, by omega⟩
      obtain ⟨b2, o, n2, ht, ht9, hR2, -, hfr⟩ := R_tick h im be bg tx ta fa cl (by rw [i_lt]; simp; omega) se2 z_h A2 A fb
      generalize hx : tb (dps n (L.filter (fun q => decide (q.1 = n 8)))) = x at ht ht9
      have hbt := be_tick be x hb1 (by omega)
      have h0 : b 0 = n 0 := h.1 0 (by decide)
      have hm9 : ∀ (y : Int32), (if alw c ff fs 0 (nI i) (n 0) = true then (1 : Int32) else 0) = y → fX9_isSeen_4 im bg tx ta fa cl (f9 + 1) 1 (nI i) be A fb n = fX9_isSeen_4 im bg tx ta fa cl f9 y (nI (i + 1)) (if x = 0 then be else be + 1) (tq 1 (dps n (L.filter (fun q => decide (q.1 = n 8)))) (En n, A)).2 (if x = 0 then fb else hb be bg (n 8) fb) n2 := by
        intro y hy
        rw [fX9_isSeen_4, if_neg (show ¬ (400 : Int32) < nI i from nI_nlt (b := i) (a := 400) (by omega) (by decide)), if_neg (show ¬ (1 : Int32) = 0 by decide), show (0 : Int32) = nI 0 from rfl, q_seen17 im bg tx ta fa cl c hc ff fs _ (nI i) be A fb n hS c 0 500 1 (by omega) (by omega)]
        rw [nI_1, show nI 0 = (0 : Int32) from rfl, hy, ht9, Option.bind_some]
      by_cases ca : alw c ff fs 0 (nI i) (n 0) = true
      · rw [hm9 1 (by rw [ca]; rfl)]
        obtain ⟨o2, m2, e1, e2, e3, e4, e5⟩ := ih (i + 1) f f9 _ b2 _ _ o.1 o.2.2.1 o.2.2.2 o.2.1 (if x = 0 then be else be + 1) _ _ n2 hR2 (hS.of (fun j hj => hfr j (by omega)) hc) (by omega) (by omega) (by omega) hbt.1 (by have := hbt.2; omega)
        refine ⟨o2, m2, ?_, e2, e3, e4, by unfold BeOk at *; omega⟩
        rw [fX8_goesAsSeen_36, if_neg hgi, p_allows c (by omega), Option.bind_some, h0, if_pos ca, if_neg (show ¬ (1 : Int32) = 0 by decide), ht, Option.bind_some, lt_eq, nI_1]
        exact e1
      · rw [hm9 0 (by rw [if_neg ca])]
        obtain ⟨f10, rfl⟩ : ∃ q, f9 = q + 1 := ⟨f9 - 1, by omega⟩
        have hend : fX9_isSeen_4 im bg tx ta fa cl (f10 + 1) 0 (nI (i + 1)) (if x = 0 then be else be + 1) (tq 1 (dps n (L.filter (fun q => decide (q.1 = n 8)))) (En n, A)).2 (if x = 0 then fb else hb be bg (n 8) fb) n2 = some (0, (if x = 0 then be else be + 1), (tq 1 (dps n (L.filter (fun q => decide (q.1 = n 8)))) (En n, A)).2, (if x = 0 then fb else hb be bg (n 8) fb), n2) := by
          rw [fX9_isSeen_4]
          split
          · rw [gd_t (by decide)]
          · rw [if_pos rfl, gd_t (by decide)]
        apply mk2
        · rw [fX8_goesAsSeen_36, if_neg hgi, p_allows c (by omega), Option.bind_some, h0, if_neg ca, if_pos rfl]
        · exact hend
        · exact ⟨rfl, Or.inl rfl, show BeOk be (if x = 0 then be else be + 1) (r + 1) from ⟨hbt.1, by have := hbt.2; omega⟩⟩
