/-! SHIFT -/
theorem q_147 (j2 b m : Nat) (hj : j2 < 6) (hb : b + m ≤ 60) (i1 i2 im be bg tx ta fa cl : Int32) (fs fz : Nat → Int32) (gv : Nat → Int64) : ∀ (r x fu : Nat) (g : Nat → Int64), x + r = m → r < fu →
    ∃ g2, fX9_shift_147 i1 i2 (nI j2) (nI b) (nI m) im be bg tx ta fa cl fs fz fu (nI x) g gv = some (nI m, g2, gv) ∧ (∀ y, x ≤ y → y < m → g2 (60 * j2 + b + y) = gv y) ∧ ∀ y, ¬ (60 * j2 + b + x ≤ y ∧ y < 60 * j2 + b + m) → g2 y = g y := by
  intro r
  induction r with
  | zero =>
    intro x fu g hx hf
    obtain ⟨f, rfl⟩ : ∃ f, fu = f + 1 := ⟨fu - 1, by omega⟩
    refine ⟨g, ?_, fun y h1 h2 => by omega, fun _ _ => rfl⟩
    rw [fX9_shift_147, if_pos (nI_le (by omega) (by omega))]
  | succ r ih =>
    intro x fu g hx hf
    obtain ⟨f, rfl⟩ : ∃ f, fu = f + 1 := ⟨fu - 1, by omega⟩
    obtain ⟨g2, e1, e2, e3⟩ := ih (x + 1) f (vp_updL g (60 * j2 + b + x) (gv x)) (by omega) (by omega)
    refine ⟨g2, ?_, fun y h1 h2 => ?_, fun y hy => ?_⟩
    · rw [fX9_shift_147, if_neg (nI_ge (by omega) (by omega)), gd_t (inb_nI (by omega) (by decide)), sixty, nI_add, gd_t (inb_nI (by omega) (by decide)), lt_eq, lt_eq, nI_clamp (by omega), nI_clamp (by omega), nI_1]
      exact e1
    · by_cases c : y = x
      · subst c
        rw [e3 _ (by omega), updL_at, if_pos rfl]
      · exact e2 y (by omega) h2
    · rw [e3 y (by omega), updL_at, if_neg (by omega)]
theorem q_110 (j1 a m : Nat) (hj : j1 < 6) (ha : a + m ≤ 60) (i3 i4 im be bg tx ta fa cl : Int32) (fs fz : Nat → Int32) (g : Nat → Int64) : ∀ (r x fu : Nat) (gv : Nat → Int64), x + r = m → r < fu → (∀ y, y < x → gv y = g (60 * j1 + a + y)) →
    ∃ gv2, fX9_shift_110 (nI j1) (nI a) i3 i4 (nI m) im be bg tx ta fa cl fs fz fu (nI x) g gv = fX9_shift_147 (nI j1) (nI a) i3 i4 (nI m) im be bg tx ta fa cl fs fz 500 0 g gv2 ∧ ∀ y, y < m → gv2 y = g (60 * j1 + a + y) := by
  intro r
  induction r with
  | zero =>
    intro x fu gv hx hf h
    obtain ⟨f, rfl⟩ : ∃ f, fu = f + 1 := ⟨fu - 1, by omega⟩
    refine ⟨gv, ?_, fun y hy => h y (by omega)⟩
    rw [fX9_shift_110, if_pos (nI_le (by omega) (by omega))]
  | succ r ih =>
    intro x fu gv hx hf h
    obtain ⟨f, rfl⟩ : ∃ f, fu = f + 1 := ⟨fu - 1, by omega⟩
    obtain ⟨gv2, e1, e2⟩ := ih (x + 1) f (vp_updL gv x (g (60 * j1 + a + x))) (by omega) (by omega) (fun y hy => by
      rw [updL_at]
      by_cases c : y = x
      · subst c; rw [if_pos rfl]
      · rw [if_neg c]; exact h y (by omega))
    refine ⟨gv2, ?_, e2⟩
    rw [fX9_shift_110, if_neg (nI_ge (by omega) (by omega)), sixty, nI_add, gd_t (inb_nI (by omega) (by decide)), gd_t (inb_nI (by omega) (by decide)), lt_eq, lt_eq, nI_clamp (by omega), nI_clamp (by omega), nI_1]
    exact e1
def runs (i n : Int32) (z : Nat) : Prop := ¬ n < 0 ∧ ¬ i < 0 ∧ i.toInt + n.toInt ≤ z
theorem p_run (i n : Int32) (z : Nat) (hz : z ≤ 60) (so : Int32) (f : Nat → Int64) : (runs i n z → fX4_hasRun i n so (nI z) f = some 1) ∧ (¬ runs i n z → fX4_hasRun i n so (nI z) f = some 0) := by
  unfold fX4_hasRun runs
  by_cases c1 : n < 0
  · rw [if_pos c1]
    exact ⟨fun h => absurd c1 h.1, fun _ => rfl⟩
  by_cases c2 : i < 0
  · rw [if_neg c1, if_pos c2]
    exact ⟨fun h => absurd c2 h.2.1, fun _ => rfl⟩
  have c1' := i_le.mp (Int32.not_lt.mp c1)
  rw [c_0] at c1'
  have r1 := i_rng n
  have hzt : (nI z).toInt = z := nI_toInt (by omega)
  have hs : (nI z - n).toInt = (z : Int) - n.toInt := by rw [i_sub (by omega) (by omega), hzt]
  have h60 : ¬ (60 : Int32) < nI z := nI_nlt (a := 60) (by omega) (by decide)
  rw [if_neg c1, if_neg c2]
  by_cases c3 : (nI z - n) < i
  · rw [if_pos c3]
    have c3 := i_lt.mp c3
    rw [hs] at c3
    exact ⟨fun h => by have := h.2.2; omega, fun _ => rfl⟩
  · rw [if_neg c3, if_neg h60]
    have c3 := i_le.mp (Int32.not_lt.mp c3)
    rw [hs] at c3
    exact ⟨fun _ => rfl, fun h => absurd ⟨c1, c2, by omega⟩ h⟩
theorem runs_of {i n : Int32} {z : Nat} (hz : z ≤ 60) (h : runs i n z) : ∃ a m, i = nI a ∧ n = nI m ∧ a + m ≤ z := by
  obtain ⟨h1, h2, h3⟩ := h
  have h1 := i_le.mp (Int32.not_lt.mp h1)
  have h2 := i_le.mp (Int32.not_lt.mp h2)
  rw [c_0] at h1 h2
  exact ⟨i.toInt.toNat, n.toInt.toNat, by rw [i_eq, nI_toInt (by omega)]; omega, by rw [i_eq, nI_toInt (by omega)]; omega, by omega⟩
/-- what the model answers, both tapes being there -/
theorem q_shift (j1 j2 : Nat) (hj1 : j1 < 6) (hj2 : j2 < 6) (i2 i4 i5 im be bg tx ta fa cl : Int32) (gi gv : Nat → Int64) (fs fz : Nat → Int32) (s1 s2 z1 z2 : Nat) (hs1 : s1 ≤ 5) (hs2 : s2 ≤ 5) (hz1 : z1 ≤ 60) (hz2 : z2 ≤ 60) (e1 : fs j1 = nI s1) (e2 : fs j2 = nI s2) (e3 : fz j1 = nI z1) (e4 : fz j2 = nI z2) :
    (s1 = 0 ∨ s2 = 0 → fX9_shift (nI j1) i2 (nI j2) i4 i5 im be bg tx ta fa cl gi fs gv fz = some (-11, gi, gv)) ∧
    (s1 ≠ 0 → s2 ≠ 0 → s1 ≠ s2 → fX9_shift (nI j1) i2 (nI j2) i4 i5 im be bg tx ta fa cl gi fs gv fz = some (-12, gi, gv)) ∧
    (s1 ≠ 0 → s1 = s2 → ¬ (runs i2 i5 z1 ∧ runs i4 i5 z2) → fX9_shift (nI j1) i2 (nI j2) i4 i5 im be bg tx ta fa cl gi fs gv fz = some (-13, gi, gv)) ∧
    (s1 ≠ 0 → s1 = s2 → ∀ a b m, i2 = nI a → i4 = nI b → i5 = nI m → a + m ≤ z1 → b + m ≤ z2 → ∃ g2 gv2, fX9_shift (nI j1) i2 (nI j2) i4 i5 im be bg tx ta fa cl gi fs gv fz = some (nI m, g2, gv2) ∧ (∀ y, y < m → g2 (60 * j2 + b + y) = gi (60 * j1 + a + y)) ∧ ∀ y, ¬ (60 * j2 + b ≤ y ∧ y < 60 * j2 + b + m) → g2 y = gi y) := by
  have ij1 : inb (nI j1) 6 = true := inb_nI (by omega) (by decide)
  have ij2 : inb (nI j2) 6 = true := inb_nI (by omega) (by decide)
  have hne : ∀ x, x ≠ 0 → x ≤ 5 → ¬ nI x = 0 := fun x h h5 => nI_ne0 (by omega) (by omega)
  have hz1t : (nI z1).toInt = z1 := nI_toInt (by omega)
  have hz2t : (nI z2).toInt = z2 := nI_toInt (by omega)
  unfold fX9_shift
  rw [q_tapeY j1 hj1, Option.bind_some, if_neg n01, q_tapeY j2 hj2, Option.bind_some, if_neg n01, gd_t ij1, gd_t ij2, gd_t ij1, gd_t ij2, gd_t ij1, gd_t ij2, nI_clamp (by omega), nI_clamp (by omega), e1, e2, e3, e4]
  refine ⟨fun h => ?_, fun h1 h2 h3 => ?_, fun h1 h2 h3 => ?_, fun h1 h2 a b m ha hb hm hl1 hl2 => ?_⟩
  · by_cases c : s1 = 0
    · rw [if_pos (by rw [c]; rfl)]
    · rw [if_neg (hne s1 c hs1), if_pos (by rw [h.resolve_left c]; rfl)]
  · rw [if_neg (hne s1 h1 hs1), if_neg (hne s2 h2 hs2), if_neg (by rw [nI_eq (by omega) (by omega)]; exact h3)]
  · subst h2
    rw [if_neg (hne s1 h1 hs1), if_neg (hne s1 h1 hs1), if_pos rfl]
    by_cases c1 : i5 < 0
    · rw [if_pos c1]
    by_cases c2 : i2 < 0
    · rw [if_neg c1, if_pos c2]
    by_cases c3 : i4 < 0
    · rw [if_neg c1, if_neg c2, if_pos c3]
    rw [if_neg c1, if_neg c2, if_neg c3]
    by_cases c4 : (0 : Int32) < lg_cmp (i2.toInt64 + i5.toInt64) ((nI z1).toInt64)
    · rw [if_pos c4]
    rw [if_neg c4]
    rw [lg_cmp_gt, l_lt, iL_add, iL, hz1t] at c4
    by_cases c5 : lg_cmp (i4.toInt64 + i5.toInt64) ((nI z2).toInt64) ≤ 0
    · rw [lg_le0, iL_add, iL, hz2t] at c5
      exact absurd ⟨⟨c1, c2, by omega⟩, ⟨c1, c3, c5⟩⟩ h3
    · rw [if_neg c5]
  · subst h2 ha hb hm
    rw [if_neg (hne s1 h1 hs1), if_neg (hne s1 h1 hs1), if_pos rfl, if_neg (nI_pos (by omega)), if_neg (nI_pos (by omega)), if_neg (nI_pos (by omega)), if_neg (by rw [lg_cmp_gt, l_lt, iL_add, iL, hz1t, nI_toInt (by omega), nI_toInt (by omega)]; omega), if_pos (by rw [lg_le0, iL_add, iL, hz2t, nI_toInt (by omega), nI_toInt (by omega)]; omega)]
    obtain ⟨gv2, g1, g2⟩ := q_110 j1 a m hj1 (by omega) (nI j2) (nI b) im be bg tx ta fa cl fs fz gi m 0 500 gv (by omega) (by omega) (fun y hy => absurd hy (Nat.not_lt_zero y))
    obtain ⟨g3, k1, k2, k3⟩ := q_147 j2 b m hj2 (by omega) (nI j1) (nI a) im be bg tx ta fa cl fs fz gv2 m 0 500 gi (by omega) (by omega)
    refine ⟨g3, gv2, ?_, fun y hy => (k2 y (Nat.zero_le _) hy).trans (g2 y hy), fun y hy => k3 y (by omega)⟩
    exact g1.trans k1
theorem cpy_at {f g : Nat → Int64} {a b m y : Nat} : va_cpy f g a b m y = if b ≤ y ∧ y < b + m then f (a + (y - b)) else g y := rfl
theorem sm1 {s1 : Nat} (h : s1 ≤ 5) : nI s1 - 1 = -1 ↔ s1 = 0 := by
  have : s1 = 0 ∨ s1 = 1 ∨ s1 = 2 ∨ s1 = 3 ∨ s1 = 4 ∨ s1 = 5 := by omega
  rcases this with rfl | rfl | rfl | rfl | rfl | rfl <;> decide
theorem sm2 {s1 s2 : Nat} (h : s1 ≤ 5) (h2 : s2 ≤ 5) : nI s1 - 1 = nI s2 - 1 ↔ s1 = s2 := by
  constructor
  · intro e
    have : nI s1 = nI s2 := by
      have := congrArg (fun x => x + 1) e
      simpa using this
    exact (nI_eq (by omega) (by omega)).mp this
  · intro e; rw [e]
theorem A_shiftY (j1 j2 : Nat) (hj1 : j1 < 6) (hj2 : j2 < 6) (hne : j1 ≠ j2) (i2 i4 i5 : Int32) (rp rp2 : Nat) (ik so si so2 si2 : Int32) (fq : Nat → Option Nat) (hf1 : fq j1 = some rp) (hf2 : fq j2 = some rp2) (fi fi2 gi gv : Nat → Int64) (fs fz : Nat → Int32) (hT1 : TapOk j1 so si fi fs fz gi) (hT2 : TapOk j2 so2 si2 fi2 fs fz gi) (im be bg tx ta fa cl : Int32) :
    ∃ o m, fX8_shift rp rp2 (nI j1) i2 (nI j2) i4 i5 ik so si so2 si2 fq fi fi2 = some o ∧ fX9_shift (nI j1) i2 (nI j2) i4 i5 im be bg tx ta fa cl gi fs gv fz = some m ∧ o.1 = m.1 ∧ TapOk j2 so2 si2 o.2 fs fz m.2.1 ∧ Oth j2 fs fz m.2.1 fs fz gi := by
  obtain ⟨s1, z1, a1, a2, a3, a4, a5, a6, a7⟩ := hT1
  obtain ⟨s2, z2, b1, b2, b3, b4, b5, b6, b7⟩ := id hT2
  obtain ⟨q1, q2, q3, q4⟩ := q_shift j1 j2 hj1 hj2 i2 i4 i5 im be bg tx ta fa cl gi gv fs fz s1 s2 z1 z2 a1 b1 a2 b2 a3 b3 a5 b5
  have hp : ∀ r, (if so = (-1) then (some ((-11), fi2)) else (if so2 = (-1) then (some ((-11), fi2)) else (if so = so2 then ((fX4_hasRun i2 i5 so si fi).bind fun ov10 =>
      if ov10 = 0 then (some ((-13), fi2)) else ((fX4_hasRun i4 i5 so2 si2 fi2).bind fun ov12 =>
      if ov12 = 0 then (some ((-13), fi2)) else (gd (!decide (i2 < 0)) (gd (!decide (i4 < 0)) (gd (!decide (i5 < 0)) (gd (decide (i2.toNatClampNeg + i5.toNatClampNeg ≤ 60)) (gd (decide (i4.toNatClampNeg + i5.toNatClampNeg ≤ 60)) (some (i5, va_cpy fi fi2 i2.toNatClampNeg i4.toNatClampNeg i5.toNatClampNeg)))))))) ) else (some ((-12), fi2))))) = some r → fX8_shift rp rp2 (nI j1) i2 (nI j2) i4 i5 ik so si so2 si2 fq fi fi2 = some r := by
    intro r hr
    unfold fX8_shift
    rw [p_tapeY j1 hj1, Option.bind_some, hf1, oq_s, p_tapeY j2 hj2, Option.bind_some, hf2, oq_s]
    exact hr
  obtain ⟨p1, p2⟩ := p_run i2 i5 z1 a2 so fi
  obtain ⟨p3, p4⟩ := p_run i4 i5 z2 b2 so2 fi2
  by_cases c0 : s1 = 0 ∨ s2 = 0
  · refine mk2 (hp (-11, fi2) ?_) (q1 c0) ⟨rfl, hT2, Oth.rf⟩
    by_cases c1 : s1 = 0
    · rw [if_pos (by rw [a4, sm1 a1]; exact c1)]
    · rw [if_neg (by rw [a4, sm1 a1]; exact c1), if_pos (by rw [b4, sm1 b1]; exact c0.resolve_left c1)]
  have c1 : s1 ≠ 0 := fun q => c0 (Or.inl q)
  have c2 : s2 ≠ 0 := fun q => c0 (Or.inr q)
  have n1 : ¬ so = -1 := by rw [a4, sm1 a1]; exact c1
  have n2 : ¬ so2 = -1 := by rw [b4, sm1 b1]; exact c2
  by_cases c3 : s1 = s2
  · have n3 : so = so2 := by rw [a4, b4, c3]
    by_cases c4 : runs i2 i5 z1
    · by_cases c5 : runs i4 i5 z2
      · obtain ⟨a, m, ea, em, ham⟩ := runs_of a2 c4
        obtain ⟨b, m', eb, em', hbm⟩ := runs_of b2 c5
        have hmm : m' = m := by
          have h5 := c5.2.2
          have h4 := c5.2.1
          have := i_rng i4
          have := i_rng i5
          have e := em'.symm.trans em
          exact (nI_eq (by omega) (by omega)).mp e
        subst hmm
        obtain ⟨g2, gv2, k1, k2, k3⟩ := q4 c1 c3 a b m' ea eb em ham hbm
        refine mk2 (hp (nI m', va_cpy fi fi2 a b m') ?_) k1 ⟨rfl, ⟨s2, z2, b1, b2, b3, b4, b5, b6, fun i hi => ?_⟩, fun x hx => ⟨rfl, rfl, fun i hi => k3 _ (by omega)⟩⟩
        · rw [if_neg n1, if_neg n2, if_pos n3, a6, p1 c4, Option.bind_some, if_neg n01, b6, p3 c5, Option.bind_some, if_neg n01, ea, eb, em, gd_t (by simp [nI_pos (show a < 2 ^ 31 by omega)]), gd_t (by simp [nI_pos (show b < 2 ^ 31 by omega)]), gd_t (by simp [nI_pos (show m' < 2 ^ 31 by omega)]), nI_clamp (by omega), nI_clamp (by omega), nI_clamp (by omega), gd_t (by simp; omega), gd_t (by simp; omega)]
        · show g2 (60 * j2 + i) = va_cpy fi fi2 a b m' i
          rw [cpy_at]
          by_cases cc : b ≤ i ∧ i < b + m'
          · rw [if_pos cc]
            have := k2 (i - b) (by omega)
            rw [show 60 * j2 + b + (i - b) = 60 * j2 + i by omega, show 60 * j1 + a + (i - b) = 60 * j1 + (a + (i - b)) by omega, a7 _ (by omega)] at this
            exact this
          · rw [if_neg cc, k3 _ (by omega)]
            exact b7 i hi
      · refine mk2 (hp (-13, fi2) ?_) (q3 c1 c3 (fun g => c5 g.2)) ⟨rfl, hT2, Oth.rf⟩
        rw [if_neg n1, if_neg n2, if_pos n3, a6, p1 c4, Option.bind_some, if_neg n01, b6, p4 c5, Option.bind_some, if_pos rfl]
    · refine mk2 (hp (-13, fi2) ?_) (q3 c1 c3 (fun g => c4 g.1)) ⟨rfl, hT2, Oth.rf⟩
      rw [if_neg n1, if_neg n2, if_pos n3, a6, p2 c4, Option.bind_some, if_pos rfl]
  · refine mk2 (hp (-12, fi2) ?_) (q2 c1 c2 c3) ⟨rfl, hT2, Oth.rf⟩
    rw [if_neg n1, if_neg n2, if_neg (by rw [a4, b4, sm2 a1 b1]; exact c3)]
theorem A_shiftS (j1 : Nat) (hj1 : j1 < 6) (i2 i4 i5 : Int32) (rp : Nat) (ik so si : Int32) (fq : Nat → Option Nat) (hf1 : fq j1 = some rp) (fi gi gv : Nat → Int64) (fs fz : Nat → Int32) (hT1 : TapOk j1 so si fi fs fz gi) (im be bg tx ta fa cl : Int32) :
    ∃ o m, fX8_shift_same rp rp (nI j1) i2 (nI j1) i4 i5 ik so si fq fi = some o ∧ fX9_shift (nI j1) i2 (nI j1) i4 i5 im be bg tx ta fa cl gi fs gv fz = some m ∧ o.1 = m.1 ∧ TapOk j1 so si o.2 fs fz m.2.1 ∧ Oth j1 fs fz m.2.1 fs fz gi := by
  obtain ⟨s1, z1, a1, a2, a3, a4, a5, a6, a7⟩ := id hT1
  obtain ⟨q1, q2, q3, q4⟩ := q_shift j1 j1 hj1 hj1 i2 i4 i5 im be bg tx ta fa cl gi gv fs fz s1 s1 z1 z1 a1 a1 a2 a2 a3 a3 a5 a5
  have hp : ∀ r, (if so = (-1) then (some ((-11), fi)) else (if so = (-1) then (some ((-11), fi)) else (if so = so then ((fX4_hasRun i2 i5 so si fi).bind fun ov10 =>
      if ov10 = 0 then (some ((-13), fi)) else ((fX4_hasRun i4 i5 so si fi).bind fun ov12 =>
      if ov12 = 0 then (some ((-13), fi)) else (gd (!decide (i2 < 0)) (gd (!decide (i4 < 0)) (gd (!decide (i5 < 0)) (gd (decide (i2.toNatClampNeg + i5.toNatClampNeg ≤ 60)) (gd (decide (i4.toNatClampNeg + i5.toNatClampNeg ≤ 60)) (some (i5, va_cpy fi fi i2.toNatClampNeg i4.toNatClampNeg i5.toNatClampNeg)))))))) ) else (some ((-12), fi))))) = some r → fX8_shift_same rp rp (nI j1) i2 (nI j1) i4 i5 ik so si fq fi = some r := by
    intro r hr
    unfold fX8_shift_same
    rw [p_tapeY j1 hj1, Option.bind_some, hf1, oq_s, Option.bind_some, oq_s]
    exact hr
  obtain ⟨p1, p2⟩ := p_run i2 i5 z1 a2 so fi
  obtain ⟨p3, p4⟩ := p_run i4 i5 z1 a2 so fi
  by_cases c0 : s1 = 0
  · refine mk2 (hp (-11, fi) ?_) (q1 (Or.inl c0)) ⟨rfl, hT1, Oth.rf⟩
    rw [if_pos (by rw [a4, sm1 a1]; exact c0)]
  have n1 : ¬ so = -1 := by rw [a4, sm1 a1]; exact c0
  by_cases c4 : runs i2 i5 z1
  · by_cases c5 : runs i4 i5 z1
    · obtain ⟨a, m, ea, em, ham⟩ := runs_of a2 c4
      obtain ⟨b, m', eb, em', hbm⟩ := runs_of a2 c5
      have hmm : m' = m := by
        have e := em'.symm.trans em
        exact (nI_eq (by omega) (by omega)).mp e
      subst hmm
      obtain ⟨g2, gv2, k1, k2, k3⟩ := q4 c0 rfl a b m' ea eb em ham hbm
      refine mk2 (hp (nI m', va_cpy fi fi a b m') ?_) k1 ⟨rfl, ⟨s1, z1, a1, a2, a3, a4, a5, a6, fun i hi => ?_⟩, fun x hx => ⟨rfl, rfl, fun i hi => k3 _ (by omega)⟩⟩
      · rw [if_neg n1, if_neg n1, if_pos rfl, a6, p1 c4, Option.bind_some, if_neg n01, p3 c5, Option.bind_some, if_neg n01, ea, eb, em, gd_t (by simp [nI_pos (show a < 2 ^ 31 by omega)]), gd_t (by simp [nI_pos (show b < 2 ^ 31 by omega)]), gd_t (by simp [nI_pos (show m' < 2 ^ 31 by omega)]), nI_clamp (by omega), nI_clamp (by omega), nI_clamp (by omega), gd_t (by simp; omega), gd_t (by simp; omega)]
      · show g2 (60 * j1 + i) = va_cpy fi fi a b m' i
        rw [cpy_at]
        by_cases cc : b ≤ i ∧ i < b + m'
        · rw [if_pos cc]
          have := k2 (i - b) (by omega)
          rw [show 60 * j1 + b + (i - b) = 60 * j1 + i by omega, show 60 * j1 + a + (i - b) = 60 * j1 + (a + (i - b)) by omega, a7 _ (by omega)] at this
          exact this
        · rw [if_neg cc, k3 _ (by omega)]
          exact a7 i hi
    · refine mk2 (hp (-13, fi) ?_) (q3 c0 rfl (fun g => c5 g.2)) ⟨rfl, hT1, Oth.rf⟩
      rw [if_neg n1, if_neg n1, if_pos rfl, a6, p1 c4, Option.bind_some, if_neg n01, p4 c5, Option.bind_some, if_pos rfl]
  · refine mk2 (hp (-13, fi) ?_) (q3 c0 rfl (fun g => c4 g.1)) ⟨rfl, hT1, Oth.rf⟩
    rw [if_neg n1, if_neg n1, if_pos rfl, a6, p2 c4, Option.bind_some, if_pos rfl]
/-- a tape that there isn't -/
theorem q_shiftN (i1 i2 i3 i4 i5 : Int32) (hi : bw i1 0 5 = 0 ∨ bw i3 0 5 = 0) (gi gv : Nat → Int64) (fs fz : Nat → Int32) (im be bg tx ta fa cl : Int32) : fX9_shift i1 i2 i3 i4 i5 im be bg tx ta fa cl gi fs gv fz = some (-1, gi, gv) := by
  unfold fX9_shift
  by_cases c : bw i1 0 5 = 0
  · rw [q_tapeN c, Option.bind_some, if_pos rfl]
  · obtain ⟨j, hj, e⟩ := bw_of (n := 5) rfl c
    rw [e, q_tapeY j (by omega), Option.bind_some, if_neg n01, q_tapeN (hi.resolve_left c), Option.bind_some, if_pos rfl]
theorem p_shiftNN (i1 i2 i3 i4 i5 : Int32) (h1 : bw i1 0 5 = 0) (h3 : bw i3 0 5 = 0) (rp : Nat) (ik so si : Int32) (fq : Nat → Option Nat) (fi : Nat → Int64) : fX8_shift_same rp rp i1 i2 i3 i4 i5 ik so si fq fi = some (-1, fi) := by
  unfold fX8_shift_same
  rw [p_tapeN h1, Option.bind_some, oq_n, p_tapeN h3, Option.bind_some, oq_n]
theorem p_shiftNY (i1 i2 i4 i5 : Int32) (j : Nat) (hj : j < 6) (h1 : bw i1 0 5 = 0) (rp : Nat) (ik so si : Int32) (fq : Nat → Option Nat) (hq : fq j = some rp) (fi : Nat → Int64) : fX8_shift_same rp rp i1 i2 (nI j) i4 i5 ik so si fq fi = some (-1, fi) := by
  unfold fX8_shift_same
  rw [p_tapeN h1, Option.bind_some, oq_n, p_tapeY j hj, Option.bind_some, hq, oq_s]
theorem p_shiftYN (i2 i3 i4 i5 : Int32) (j : Nat) (hj : j < 6) (h3 : bw i3 0 5 = 0) (rp : Nat) (ik so si : Int32) (fq : Nat → Option Nat) (hq : fq j = some rp) (fi : Nat → Int64) : fX8_shift_same rp rp (nI j) i2 i3 i4 i5 ik so si fq fi = some (-1, fi) := by
  unfold fX8_shift_same
  rw [p_tapeY j hj, Option.bind_some, hq, oq_s, p_tapeN h3, Option.bind_some, oq_n]
