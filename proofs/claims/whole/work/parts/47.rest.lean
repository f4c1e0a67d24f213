/-! WHEEL, TURNS, ENERGY, FEED, SEE, BOOK, COUNT, IMAGE, UNDO -/
def Trn (c : Nat) (kT : Int32) (fT n : Nat → Int32) : Prop := c ≤ 4 ∧ kT = nI c ∧ n 12 = nI c ∧ ∀ i, i < c → n (39 + i) = fT i ∧ ∃ d : Nat, 2 ≤ d ∧ d ≤ 99 ∧ fT i = nI d
theorem Trn.of {c : Nat} {kT : Int32} {fT n m : Nat → Int32} (h : Trn c kT fT n) (hm : ∀ j, j = 12 ∨ (39 ≤ j ∧ j < 43) → m j = n j) : Trn c kT fT m := by
  obtain ⟨h1, h2, h3, h4⟩ := h
  exact ⟨h1, h2, (hm 12 (by omega)).trans h3, fun i hi => ⟨(hm _ (by omega)).trans (h4 i hi).1, (h4 i hi).2⟩⟩
theorem SeenOk.of {c : Nat} {kS : Int32} {ff fs n m : Nat → Int32} (h : SeenOk c kS ff fs n) (hm : ∀ j, j = 13 ∨ (43 ≤ j ∧ j < 53) → m j = n j) : SeenOk c kS ff fs m := by
  obtain ⟨h1, h2, ⟨h3, h4⟩, h5⟩ := h
  exact ⟨h1, h2, ⟨(hm 13 (by omega)).trans h3, fun i hi => ⟨(hm _ (by omega)).trans (h4 i hi).1, (hm _ (by omega)).trans (h4 i hi).2⟩⟩, h5⟩
theorem BkOk.of {c : Nat} {kK : Int32} {gf gs n m : Nat → Int32} (h : BkOk c kK gf gs n) (hm : ∀ j, j = 14 ∨ (53 ≤ j ∧ j < 69) → m j = n j) : BkOk c kK gf gs m := by
  obtain ⟨h1, h2, h3, h4⟩ := h
  exact ⟨h1, h2, (hm 14 (by omega)).trans h3, fun i hi => ⟨(hm _ (by omega)).trans (h4 i hi).1, (hm _ (by omega)).trans (h4 i hi).2.1, (h4 i hi).2.2⟩⟩
/-- all that an image holds, in class and model alike -/
def RW (b : Nat → Int32) (se : Int64) (kK kS kT : Int32) (A : Nat → Int64) (k : Int32) (gf gs ff fs fT s t w n : Nat → Int32) (A9 : Nat → Int64) : Prop :=
  ∃ L cT cS cK, RN L b se A k t w s n A9 ∧ Trn cT kT fT n ∧ SeenOk cS kS ff fs n ∧ BkOk cK kK gf gs n
theorem RW.ag {b : Nat → Int32} {se : Int64} {kK kS kT : Int32} {A : Nat → Int64} {k : Int32} {gf gs ff fs fT s t w n m : Nat → Int32} {A9 B9 : Nat → Int64} (h : RW b se kK kS kT A k gf gs ff fs fT s t w n A9) (hm : Ag 69 m n) (hA : AgL B9 A9) : RW b se kK kS kT A k gf gs ff fs fT s t w m B9 := by
  obtain ⟨L, cT, cS, cK, h1, h2, h3, h4⟩ := h
  exact ⟨L, cT, cS, cK, h1.ag hm hA, h2.of (fun j hj => hm j (by omega)), h3.of (fun j hj => hm j (by omega)), h4.of (fun j hj => hm j (by omega))⟩
theorem p_copy6 (k1 : Int32) (f1 : Nat → Int32) : ∀ (r i fu : Nat) (f : Nat → Int32), i + r = 4 → r < fu → (∀ j, j < i → f j = f1 j) → ∃ f2, fX6_copy_10 k1 f1 fu (nI i) k1 f = some (k1, f2) ∧ ∀ j, j < 4 → f2 j = f1 j := by
  intro r
  induction r with
  | zero =>
    intro i fu f hi hf h
    obtain ⟨fu', rfl⟩ : ∃ f, fu = f + 1 := ⟨fu - 1, by omega⟩
    refine ⟨f, ?_, fun j hj => h j (by omega)⟩
    rw [fX6_copy_10, if_pos (show (4 : Int32) ≤ nI i from nI_le (a := 4) (by omega) (by omega))]
  | succ r ih =>
    intro i fu f hi hf h
    obtain ⟨fu', rfl⟩ : ∃ f, fu = f + 1 := ⟨fu - 1, by omega⟩
    have hin : inb (nI i) 4 = true := inb_nI (by omega) (by decide)
    have hn : ¬ (4 : Int32) ≤ nI i := nI_ge (b := 4) (by omega) (by decide)
    obtain ⟨f2, h1, h2⟩ := ih (i + 1) fu' (upd f i (f1 i)) (by omega) (by omega) (fun j hj => by
      rw [upd_at]
      by_cases c : j = i
      · subst c; rw [if_pos rfl]
      · rw [if_neg c]; exact h j (by omega))
    refine ⟨f2, ?_, h2⟩
    rw [fX6_copy_10, if_neg hn, if_neg hn, gd_t hin, gd_t hin]
    simp only [lt_eq]
    rw [nI_clamp (by omega), nI_1]
    exact h1
theorem p_copy3 (k1 : Int32) (f1 s1 : Nat → Int32) : ∀ (r i fu : Nat) (f s : Nat → Int32), i + r = 8 → r < fu → (∀ j, j < i → f j = f1 j ∧ s j = s1 j) → ∃ f2 s2, fX3_copy_10 k1 f1 s1 fu (nI i) k1 f s = some (k1, f2, s2) ∧ ∀ j, j < 8 → f2 j = f1 j ∧ s2 j = s1 j := by
  intro r
  induction r with
  | zero =>
    intro i fu f s hi hf h
    obtain ⟨fu', rfl⟩ : ∃ f, fu = f + 1 := ⟨fu - 1, by omega⟩
    refine ⟨f, s, ?_, fun j hj => h j (by omega)⟩
    rw [fX3_copy_10, if_pos (show (8 : Int32) ≤ nI i from nI_le (a := 8) (by omega) (by omega))]
  | succ r ih =>
    intro i fu f s hi hf h
    obtain ⟨fu', rfl⟩ : ∃ f, fu = f + 1 := ⟨fu - 1, by omega⟩
    have hin : inb (nI i) 8 = true := inb_nI (by omega) (by decide)
    obtain ⟨f2, s2, h1, h2⟩ := ih (i + 1) fu' (upd f i (f1 i)) (upd s i (s1 i)) (by omega) (by omega) (fun j hj => by
      simp only [upd_at]
      by_cases c : j = i
      · subst c; rw [if_pos rfl, if_pos rfl]; exact ⟨rfl, rfl⟩
      · rw [if_neg c, if_neg c]; exact h j (by omega))
    refine ⟨f2, s2, ?_, h2⟩
    rw [fX3_copy_10, if_neg (show ¬ (8 : Int32) ≤ nI i from nI_ge (b := 8) (by omega) (by decide)), gd_t hin, gd_t hin]
    simp only [lt_eq]
    rw [gd_t hin, gd_t hin, nI_clamp (by omega), nI_1]
    exact h1
abbrev Wo : Type := (Nat → Int32) × Int64 × Int32 × Int32 × Int32 × (Nat → Int64) × Int32 × (Nat → Int32) × (Nat → Int32) × (Nat → Int32) × (Nat → Int32) × (Nat → Int32) × (Nat → Int32) × (Nat → Int32) × (Nat → Int32)
def RWo (o : Wo) (n : Nat → Int32) (A9 : Nat → Int64) : Prop := RW o.1 o.2.1 o.2.2.1 o.2.2.2.1 o.2.2.2.2.1 o.2.2.2.2.2.1 o.2.2.2.2.2.2.1 o.2.2.2.2.2.2.2.1 o.2.2.2.2.2.2.2.2.1 o.2.2.2.2.2.2.2.2.2.1 o.2.2.2.2.2.2.2.2.2.2.1 o.2.2.2.2.2.2.2.2.2.2.2.1 o.2.2.2.2.2.2.2.2.2.2.2.2.1 o.2.2.2.2.2.2.2.2.2.2.2.2.2.1 o.2.2.2.2.2.2.2.2.2.2.2.2.2.2 n A9
theorem R_copy {b1 : Nat → Int32} {se1 : Int64} {kK1 kS1 kT1 : Int32} {A1 : Nat → Int64} {k1 : Int32} {gf1 gs1 ff1 fs1 fT1 s1 t1 w1 n : Nat → Int32} {A9 : Nat → Int64} (h : RW b1 se1 kK1 kS1 kT1 A1 k1 gf1 gs1 ff1 fs1 fT1 s1 t1 w1 n A9) (z1 z : Int32) (b : Nat → Int32) (se : Int64) (kK kS kT : Int32) (A : Nat → Int64) (k : Int32) (gf gs ff fs fT s t w : Nat → Int32) :
    ∃ o : Wo, fX7_copy b se z kK kS kT b1 se1 z1 kK1 kS1 kT1 A k gf gs ff fs fT A1 k1 gf1 gs1 ff1 fs1 fT1 s t w s1 t1 w1 = some o ∧ RWo o n A9 ∧ o.1 9 = n 9 := by
  obtain ⟨L, cT, cS, cK, h1, h2, h3, h4⟩ := h
  obtain ⟨b2, A2, o, e1, e2, e3, e4⟩ := p_bcopy h1.1.2.2.1 b se z b1 se1 z1 A k A1 s t w
  obtain ⟨f2, g1, g2⟩ := p_copy6 kT1 fT1 4 0 500 fT (by omega) (by omega) (fun j hj => by omega)
  obtain ⟨ff2, fs2, i1, i2⟩ := p_copy3 kS1 ff1 fs1 8 0 500 ff fs (by omega) (by omega) (fun j hj => by omega)
  obtain ⟨gf2, gs2, j1, j2⟩ := p_copy3 kK1 gf1 gs1 8 0 500 gf gs (by omega) (by omega) (fun j hj => by omega)
  refine ⟨(b2, se1, kK1, kS1, kT1, A2, o.1, gf2, gs2, ff2, fs2, f2, o.2), ?_, ?_, (e2 9 (by decide)).trans (h1.1.1 9 (by decide))⟩
  · unfold fX7_copy
    rw [e1, Option.bind_some, show fX6_copy kT kT1 fT fT1 = some (kT1, f2) from g1, Option.bind_some, show fX3_copy kS kS1 ff fs ff1 fs1 = some (kS1, ff2, fs2) from i1, Option.bind_some, show fX3_copy kK kK1 gf gs gf1 gs1 = some (kK1, gf2, gs2) from j1, Option.bind_some]
  · refine ⟨L, cT, cS, cK, ⟨h1.1.cp e2 e4, h1.2.1, fun j hj => (e3 j hj).trans (h1.2.2.1 j hj), h1.2.2.2⟩, ?_, ?_, ?_⟩
    · obtain ⟨a1, a2, a3, a4⟩ := h2
      refine ⟨a1, a2, a3, fun i hi => ?_⟩
      show n (39 + i) = f2 i ∧ ∃ d : Nat, 2 ≤ d ∧ d ≤ 99 ∧ f2 i = nI d
      rw [g2 i (by omega)]
      exact a4 i hi
    · obtain ⟨a1, a2, ⟨a3, a4⟩, a5⟩ := h3
      refine ⟨a1, a2, ⟨a3, fun i hi => ?_⟩, fun i hi => ?_⟩
      · show n (43 + 2 * i) = ff2 i ∧ n (44 + 2 * i) = fs2 i
        rw [(i2 i (by omega)).1, (i2 i (by omega)).2]
        exact a4 i hi
      · show 0 ≤ (ff2 i).toInt ∧ (ff2 i).toInt ≤ 400
        rw [(i2 i (by omega)).1]
        exact a5 i hi
    · obtain ⟨a1, a2, a3, a4⟩ := h4
      refine ⟨a1, a2, a3, fun i hi => ?_⟩
      show n (53 + 2 * i) = gf2 i ∧ n (54 + 2 * i) = gs2 i ∧ 0 ≤ (gf2 i).toInt ∧ (gf2 i).toInt ≤ 99 ∧ 0 ≤ (gs2 i).toInt
      rw [(j2 i (by omega)).1, (j2 i (by omega)).2]
      exact a4 i hi
theorem A_wheel {c : Nat} {kT : Int32} {fT n : Nat → Int32} (h : Trn c kT fT n) (i1 ik im be bg tx ta fa cl : Int32) :
    ∃ o m, fX8_wheel i1 ik kT fT = some o ∧ fX9_wheel i1 im be bg tx ta fa cl n = some m ∧ o.1 = m.1 ∧ (∃ c2, Trn c2 o.2.1 o.2.2 m.2) ∧ ∀ j, ¬ (j = 12 ∨ (39 ≤ j ∧ j < 43)) → m.2 j = n j := by
  have h' := h
  obtain ⟨h1, h2, h3, h4⟩ := h
  by_cases hi : bw i1 2 99 = 0
  · apply mk2
    · unfold fX8_wheel
      rw [p_bw, Option.bind_some, if_pos hi]
    · unfold fX9_wheel
      rw [q_bw, Option.bind_some, if_pos hi]
    · exact ⟨rfl, ⟨c, h'⟩, fun _ _ => rfl⟩
  by_cases hc : c = 4
  · apply mk2
    · unfold fX8_wheel
      rw [p_bw, Option.bind_some, if_neg hi, if_neg (show ¬ kT < 4 by rw [h2, hc]; decide)]
    · unfold fX9_wheel
      rw [q_bw, Option.bind_some, if_neg hi, if_pos (by rw [h3, hc]; rfl)]
    · exact ⟨rfl, ⟨c, h'⟩, fun _ _ => rfl⟩
  have hrg := bw_rg hi
  rw [show (2 : Int32).toInt = 2 by decide, show (99 : Int32).toInt = 99 by decide] at hrg
  have hadd : fX6_add i1 kT fT = some (nI (c + 1), upd fT c i1) := by
    unfold fX6_add
    rw [h2, if_neg (nI_pos (by omega)), if_neg (show ¬ (4 : Int32) ≤ nI c from nI_ge (b := 4) (by omega) (by decide)), gd_t (inb_nI (by omega) (by decide)), lt_eq, lt_eq, nI_clamp (by omega), nI_1]
  apply mk2
  · unfold fX8_wheel
    rw [p_bw, Option.bind_some, if_neg hi, if_pos (show kT < 4 by rw [h2]; exact nI_lt (b := 4) (by omega) (by decide)), hadd, Option.bind_some]
  · unfold fX9_wheel
    rw [q_bw, Option.bind_some, if_neg hi, if_neg (show ¬ n 12 = 4 by rw [h3, show (4 : Int32) = nI 4 from rfl, nI_eq (by omega) (by decide)]; exact hc), h3, show (39 : Int32) + nI c = nI (39 + c) from nI_add 39 c, gd_t (inb_nI (by omega) (by decide)), lt_eq, lt_eq, lt_eq, nI_clamp (by omega)]
  · refine ⟨?_, ⟨c + 1, by omega, rfl, ?_, fun i hi => ?_⟩, fun j hj => ?_⟩
    · show nI (c + 1) - 1 = upd n (39 + c) i1 12
      rw [nI_pred, upd_at, if_neg (by omega), h3]
    · show upd (upd n (39 + c) i1) 12 (upd n (39 + c) i1 12 + 1) 12 = _
      rw [upd_at, if_pos rfl, upd_at, if_neg (by omega), h3, nI_1]
    · show upd (upd n (39 + c) i1) 12 (upd n (39 + c) i1 12 + 1) (39 + i) = upd fT c i1 i ∧ ∃ d : Nat, 2 ≤ d ∧ d ≤ 99 ∧ upd fT c i1 i = nI d
      rw [upd_at, if_neg (by omega), upd_at, upd_at]
      by_cases ci : i = c
      · rw [if_pos (by omega), if_pos ci]
        exact ⟨rfl, i1.toInt.toNat, by omega, by omega, by rw [i_eq, nI_toInt (by omega)]; omega⟩
      · rw [if_neg (by omega), if_neg ci]
        exact h4 i (by omega)
    · show upd (upd n (39 + c) i1) 12 (upd n (39 + c) i1 12 + 1) j = n j
      rw [upd_at, if_neg (by omega), upd_at, if_neg (by omega)]
theorem lN_mulZ (a b : Nat) : lN a * lN b = lN (a * b) := (Int64.ofNat_mul a b).symm
theorem turns_both {c : Nat} {kT : Int32} {fT n : Nat → Int32} (h : Trn c kT fT n) (w : Nat) (hw : w < c) (i2 im be bg tx ta fa cl : Int32) : ∀ (r i fu fu9 P : Nat), i + r = w + 1 → r < fu → r < fu9 → 0 < P → P ≤ 2 * 99 ^ i →
    ∃ Q, 0 < Q ∧ Q ≤ 2 * 99 ^ (w + 1) ∧ fX6_beatsOfOneTurn_7 (nI w) kT fT fu (lN P) (nI i) = some (lN Q) ∧ fX9_turns_37 (nI w) i2 im be bg tx ta fa cl n fu9 (lN P) (nI i) = fX9_lowest ((n 9).toInt64) (lN Q) i2 := by
  obtain ⟨h1, h2, h3, h4⟩ := h
  intro r
  induction r with
  | zero =>
    intro i fu fu9 P hi hf hf9 hP0 hP
    obtain ⟨f, rfl⟩ : ∃ f, fu = f + 1 := ⟨fu - 1, by omega⟩
    obtain ⟨f9, rfl⟩ : ∃ f, fu9 = f + 1 := ⟨fu9 - 1, by omega⟩
    have hlt : nI w < nI i := nI_lt (by omega) (by omega)
    refine ⟨P, hP0, by rw [← show i = w + 1 by omega]; exact hP, ?_, ?_⟩
    · rw [fX6_beatsOfOneTurn_7, if_pos hlt]
    · rw [fX9_turns_37, if_pos hlt]
      cases fX9_lowest ((n 9).toInt64) (lN P) i2 <;> rfl
  | succ r ih =>
    intro i fu fu9 P hi hf hf9 hP0 hP
    obtain ⟨f, rfl⟩ : ∃ f, fu = f + 1 := ⟨fu - 1, by omega⟩
    obtain ⟨f9, rfl⟩ : ∃ f, fu9 = f + 1 := ⟨fu9 - 1, by omega⟩
    have hlt : ¬ nI w < nI i := nI_nlt (by omega) (by omega)
    obtain ⟨e1, d, d1, d2, d3⟩ := h4 i (by omega)
    obtain ⟨Q, q0, q1, q2, q3⟩ := ih (i + 1) f f9 (P * d) (by omega) (by omega) (by omega) (Nat.mul_pos hP0 (by omega)) (by
      rw [Nat.pow_succ, ← Nat.mul_assoc]
      exact Nat.mul_le_mul hP d2)
    refine ⟨Q, q0, q1, ?_, ?_⟩
    · rw [fX6_beatsOfOneTurn_7, if_neg hlt, if_neg (show ¬ (4 : Int32) ≤ nI i from nI_ge (b := 4) (by omega) (by decide)), gd_t (inb_nI (by omega) (by decide)), lt_eq, lt_eq, nI_clamp (by omega), d3, nI_l (by omega), lN_mulZ, nI_1]
      exact q2
    · rw [fX9_turns_37, if_neg hlt, show (39 : Int32) + nI i = nI (39 + i) from nI_add 39 i, gd_t (inb_nI (by omega) (by decide)), lt_eq, lt_eq, nI_clamp (by omega), e1, d3, nI_l (by omega), lN_mulZ, nI_1]
      exact q3
theorem A_turns {L : List Pu} {b : Nat → Int32} {se : Int64} {A : Nat → Int64} {k : Int32} {t w s n : Nat → Int32} {A9 : Nat → Int64} (h : RN L b se A k t w s n A9) {c : Nat} {kT : Int32} {fT : Nat → Int32} (hT : Trn c kT fT n) (i1 i2 ik im be bg tx ta fa cl : Int32) :
    ∃ r, fX8_turns i1 i2 ik b se 1 kT fT = some r ∧ fX9_turns i1 i2 im be bg tx ta fa cl n = some r := by
  obtain ⟨h1, h2, h3, h4⟩ := id hT
  have h1m : (nI c - 1).toInt = (c : Int) - 1 := by
    rw [i_sub (by rw [nI_toInt (by omega), c_1]; omega) (by rw [nI_toInt (by omega), c_1]; omega), nI_toInt (by omega), c_1]
  by_cases hi : bw i1 0 (n 12 - 1) = 0
  · refine ⟨-9223372036854775808, ?_, ?_⟩
    · unfold fX8_turns
      rcases bw_hi hi with c1 | ⟨c1, c2⟩
      · rw [if_pos c1]
      · rw [h3] at c2
        have c2 := i_lt.mp c2
        rw [h1m] at c2
        rw [if_neg c1, if_neg (by rw [h2, i_lt, nI_toInt (by omega)]; omega)]
    · unfold fX9_turns
      rw [q_bw, Option.bind_some, if_pos hi]
  have hi' := hi
  obtain ⟨c1, c2⟩ := bw_0 hi
  have c2 := i_le.mp (Int32.not_lt.mp c2)
  rw [h3, h1m] at c2
  have c3 := i_le.mp (Int32.not_lt.mp c1)
  rw [c_0] at c3
  obtain ⟨v, hv, rfl⟩ : ∃ v : Nat, v < c ∧ i1 = nI v := ⟨i1.toInt.toNat, by omega, by rw [i_eq, nI_toInt (by omega)]; omega⟩
  obtain ⟨Q, q0, q1, q2, q3⟩ := turns_both hT v hv i2 im be bg tx ta fa cl (v + 1) 0 500 500 2 (by omega) (by omega) (by omega) (by omega) (by simp)
  have hQ : Q < 2 ^ 31 := by
    have : 99 ^ (v + 1) ≤ 99 ^ 4 := Nat.pow_le_pow_right (by decide) (by omega)
    have : (99 : Nat) ^ 4 = 96059601 := by decide
    omega
  obtain ⟨hn1, hn2, hn3⟩ := h.2.2.2.1.1.2.2.2.2.2.2
  obtain ⟨a, ha, ha9⟩ : ∃ a : Nat, a < 2 ^ 31 ∧ n 9 = nI a := ⟨(n 9).toInt.toNat, by omega, by rw [i_eq, nI_toInt (by omega)]; omega⟩
  obtain ⟨x, x1, x2⟩ := R_frac ha q0 hQ i2
  have hb9 : b 9 = nI a := (h.1.1 9 (by decide)).trans ha9
  have hcl : fX8_turns (nI v) i2 ik b se 1 kT fT = some (if bw i2 0 1 = 0 then (-9223372036854775808) else x) := by
    unfold fX8_turns
    rw [if_neg c1, if_pos (by rw [h2]; exact nI_lt hv (by omega)), show fX6_beatsOfOneTurn (nI v) kT fT = some (lN Q) from q2, Option.bind_some, hb9, nI_l ha, x1, Option.bind_some]
  refine ⟨_, hcl, ?_⟩
  unfold fX9_turns
  rw [q_bw, Option.bind_some, if_neg hi', q_bw, Option.bind_some]
  by_cases cp : bw i2 0 1 = 0
  · rw [if_pos cp, if_pos cp]
  · rw [if_neg cp, if_neg cp]
    refine (show _ = fX9_lowest ((n 9).toInt64) (lN Q) i2 from q3).trans ?_
    rw [ha9, nI_l ha]
    exact x2
theorem A_energy {L : List Pu} {b : Nat → Int32} {se : Int64} {A : Nat → Int64} {k : Int32} {t w s n : Nat → Int32} {A9 : Nat → Int64} (h : RN L b se A k t w s n A9) (i1 ik im be bg tx ta fa cl : Int32) :
    ∃ r, fX8_energy i1 ik b se 1 A = some r ∧ fX9_energy i1 im be bg tx ta fa cl A9 n = some r := by
  by_cases hi : bw i1 0 4 = 0
  · have n4 : ¬ i1 = 4 := fun e => by rw [e] at hi; exact absurd hi (by decide)
    refine ⟨-9223372036854775808, ?_, ?_⟩
    · unfold fX8_energy
      rw [if_neg n4]
      rcases bw_hi hi with c | ⟨c, c2⟩
      · rw [if_pos c]
      · rw [if_neg c, if_pos (Int32.le_of_lt c2)]
    · unfold fX9_energy
      rw [q_bw, Option.bind_some, if_pos hi]
  have hi' := hi
  obtain ⟨j, hj, rfl⟩ := bw_of (n := 4) rfl hi
  by_cases cj : j = 4
  · subst cj
    refine ⟨En b, ?_, ?_⟩
    · unfold fX8_energy
      rw [if_pos (show nI 4 = 4 from rfl)]; rfl
    · unfold fX9_energy
      rw [q_bw, Option.bind_some, if_neg hi', if_pos (show nI 4 = 4 from rfl), q_en, Option.bind_some, Ag_En (Nat.le_refl _) h.1.1]
  · have n4 : ¬ nI j = 4 := by rw [show (4 : Int32) = nI 4 from rfl, nI_eq (by omega) (by decide)]; exact cj
    refine ⟨A j, ?_, ?_⟩
    · unfold fX8_energy
      rw [if_neg n4, if_neg (nI_pos (by omega)), if_neg (show ¬ (4 : Int32) ≤ nI j from nI_ge (b := 4) (by omega) (by decide)), gd_t (inb_nI (by omega) (by decide)), nI_clamp (by omega)]
    · unfold fX9_energy
      rw [q_bw, Option.bind_some, if_neg hi', if_neg n4, gd_t (inb_nI (by omega) (by decide)), nI_clamp (by omega), h.2.2.1 j (by omega)]
/-- the text, in class and model alike -/
def Txt (c : Nat) (le tx : Int32) (fx gx : Nat → Int32) : Prop := c ≤ 100 ∧ le = nI c ∧ tx = nI c ∧ ∀ i, i < c → ∃ v : Nat, v ≤ 127 ∧ fx i = nI v ∧ gx i = nI v
theorem byte_127 : ∀ v : Nat, v < 128 → (nI v).toInt8.toInt32 = nI v := by decide +kernel
theorem A_feed {c : Nat} {le tx : Int32} {fx gx : Nat → Int32} (h : Txt c le tx fx gx) (i1 ik clx im be bg ta fa cl : Int32) :
    ∃ o m, fX8_feed i1 ik le clx fx = some o ∧ fX9_feed i1 im be bg tx ta fa cl gx = some m ∧ o.1 = m.1 ∧ ∃ c2, Txt c2 o.2.1 m.2.1 o.2.2 m.2.2 := by
  have h' := h
  obtain ⟨h1, h2, h3, h4⟩ := h
  by_cases hi : bw i1 0 127 = 0
  · apply mk2
    · unfold fX8_feed
      rw [p_bw, Option.bind_some, if_pos hi]
    · unfold fX9_feed
      rw [q_bw, Option.bind_some, if_pos hi]
    · exact ⟨rfl, c, h'⟩
  have hi' := hi
  obtain ⟨v, hv, rfl⟩ := bw_of (n := 127) rfl hi
  by_cases hc : c = 100
  · apply mk2
    · unfold fX8_feed
      rw [p_bw, Option.bind_some, if_neg hi', if_neg (show ¬ le < 100 by rw [h2, hc]; decide)]
    · unfold fX9_feed
      rw [q_bw, Option.bind_some, if_neg hi', if_pos (by rw [h3, hc]; rfl)]
    · exact ⟨rfl, c, h'⟩
  apply mk2
  · unfold fX8_feed fX5_add
    rw [p_bw, Option.bind_some, if_neg hi', h2, if_pos (show nI c < 100 from nI_lt (b := 100) (by omega) (by decide)), if_neg (nI_pos (by omega)), if_neg (show ¬ (100 : Int32) ≤ nI c from nI_ge (b := 100) (by omega) (by decide)), gd_t (inb_nI (by omega) (by decide)), lt_eq, lt_eq, Option.bind_some, nI_clamp (by omega), pk_vb, byte_127 v (by omega), nI_1]
  · unfold fX9_feed
    rw [q_bw, Option.bind_some, if_neg hi', h3, if_neg (show ¬ nI c = 100 by rw [show (100 : Int32) = nI 100 from rfl, nI_eq (by omega) (by decide)]; exact hc), lt_eq, gd_t (inb_nI (by omega) (by decide)), lt_eq, nI_clamp (by omega), nI_1]
  · refine ⟨rfl, c + 1, by omega, rfl, rfl, fun i hi => ?_⟩
    show ∃ u : Nat, u ≤ 127 ∧ upd fx c (nI v) i = nI u ∧ upd gx c (nI v) i = nI u
    rw [upd_at, upd_at]
    by_cases ci : i = c
    · rw [if_pos ci, if_pos ci]; exact ⟨v, hv, rfl, rfl⟩
    · rw [if_neg ci, if_neg ci]; exact h4 i (by omega)
theorem p_add3 (c : Nat) (hc : c < 8) (i1 i2 : Int32) (f s : Nat → Int32) : fX3_add i1 i2 (nI c) f s = some (nI (c + 1), upd f c i1, upd s c i2) := by
  unfold fX3_add
  rw [if_neg (nI_pos (by omega)), if_neg (show ¬ (8 : Int32) ≤ nI c from nI_ge (b := 8) (by omega) (by decide)), gd_t (inb_nI (by omega) (by decide)), lt_eq, gd_t (inb_nI (by omega) (by decide)), lt_eq, lt_eq, nI_clamp (by omega), nI_1]
def nrow (n : Nat → Int32) (o a c : Nat) (i1 i2 : Int32) : Nat → Int32 := upd (upd (upd n (a + 2 * c) i1) (a + 2 * c + 1) i2) o (nI (c + 1))
theorem nrow_e {n : Nat → Int32} {o a c : Nat} {i1 i2 : Int32} (j : Nat) (h1 : j ≠ o) (h2 : j ≠ a + 2 * c) (h3 : j ≠ a + 2 * c + 1) : nrow n o a c i1 i2 j = n j := by
  unfold nrow
  rw [upd_at, if_neg h1, upd_at, if_neg h3, upd_at, if_neg h2]
theorem A_see {c : Nat} {kS : Int32} {ff fs n : Nat → Int32} (h : SeenOk c kS ff fs n) (i1 i2 ik im be bg tx ta fa cl : Int32) :
    ∃ o m, fX8_see i1 i2 ik kS ff fs = some o ∧ fX9_see i1 i2 im be bg tx ta fa cl n = some m ∧ o.1 = m.1 ∧ (∃ c2, SeenOk c2 o.2.1 o.2.2.1 o.2.2.2 m.2) ∧ ∀ j, ¬ (j = 13 ∨ (43 ≤ j ∧ j < 53)) → m.2 j = n j := by
  have h' := h
  obtain ⟨h1, h2, ⟨h3, h4⟩, h5⟩ := h
  by_cases hm : i1 = -1
  · apply mk2
    · unfold fX8_see
      rw [if_pos hm]
    · unfold fX9_see
      rw [if_pos hm, lt_eq]
    · exact ⟨rfl, ⟨0, Nat.zero_le _, rfl, ⟨rfl, fun i hi => absurd hi (Nat.not_lt_zero i)⟩, fun i hi => absurd hi (Nat.not_lt_zero i)⟩, fun j hj => by show upd n 13 0 j = n j; rw [upd_at, if_neg (by omega)]⟩
  by_cases hi : bw i1 0 400 = 0
  · apply mk2
    · unfold fX8_see
      rw [if_neg hm, p_bw, Option.bind_some, if_pos hi]
    · unfold fX9_see
      rw [if_neg hm, q_bw, Option.bind_some, if_pos hi]
    · exact ⟨rfl, ⟨c, h'⟩, fun _ _ => rfl⟩
  by_cases ha : bw i2 (-300) 300 = 0
  · apply mk2
    · unfold fX8_see
      rw [if_neg hm, p_bw, Option.bind_some, if_neg hi, p_bw, Option.bind_some, if_pos ha]
    · unfold fX9_see
      rw [if_neg hm, q_bw, Option.bind_some, if_neg hi, q_bw, Option.bind_some, if_pos ha]
    · exact ⟨rfl, ⟨c, h'⟩, fun _ _ => rfl⟩
  by_cases hc : c = 5
  · apply mk2
    · unfold fX8_see
      rw [if_neg hm, p_bw, Option.bind_some, if_neg hi, p_bw, Option.bind_some, if_neg ha, if_neg (show ¬ kS < 5 by rw [h2, hc]; decide)]
    · unfold fX9_see
      rw [if_neg hm, q_bw, Option.bind_some, if_neg hi, q_bw, Option.bind_some, if_neg ha, if_pos (by rw [h3, hc]; rfl)]
    · exact ⟨rfl, ⟨c, h'⟩, fun _ _ => rfl⟩
  have q2 : (43 : Int32) + 2 * nI c = nI (43 + 2 * c) := by rw [show (2 : Int32) = nI 2 from rfl, pk_mul, show (43 : Int32) = nI 43 from rfl, nI_add]
  have e13 : ∀ x, upd n (43 + 2 * c) x 13 = nI c := fun x => by rw [upd_at, if_neg (by omega), h3]
  have e13' : ∀ x y, upd (upd n (43 + 2 * c) x) (43 + 2 * c + 1) y 13 = nI c := fun x y => by rw [upd_at, if_neg (by omega), e13]
  have hm9 : fX9_see i1 i2 im be bg tx ta fa cl n = some (nI (c + 1), nrow n 13 43 c i1 i2) := by
    unfold fX9_see
    simp only [lt_eq]
    rw [if_neg hm, q_bw, Option.bind_some, if_neg hi, q_bw, Option.bind_some, if_neg ha, h3, if_neg (show ¬ nI c = 5 by rw [show (5 : Int32) = nI 5 from rfl, nI_eq (by omega) (by decide)]; exact hc), q2, gd_t (inb_nI (by omega) (by decide)), nI_clamp (by omega), e13, q2, nI_1, gd_t (inb_nI (by omega) (by decide)), nI_clamp (by omega), e13', nI_1]
    rfl
  have hrg := bw_rg hi
  rw [c_0, show (400 : Int32).toInt = 400 by decide] at hrg
  apply mk2
  · unfold fX8_see
    rw [if_neg hm, p_bw, Option.bind_some, if_neg hi, p_bw, Option.bind_some, if_neg ha, h2, if_pos (show nI c < 5 from nI_lt (b := 5) (by omega) (by decide)), p_add3 c (by omega), Option.bind_some]
  · exact hm9
  · refine ⟨rfl, ⟨c + 1, by omega, rfl, ⟨rfl, fun i hi => ?_⟩, fun i hi => ?_⟩, fun j hj => nrow_e j (by omega) (by omega) (by omega)⟩
    · show nrow n 13 43 c i1 i2 (43 + 2 * i) = upd ff c i1 i ∧ nrow n 13 43 c i1 i2 (44 + 2 * i) = upd fs c i2 i
      by_cases ci : i = c
      · subst ci
        unfold nrow
        simp only [upd_at]
        rw [if_neg (by omega), if_neg (by omega), if_pos trivial, if_pos trivial, if_neg (by omega), if_pos (by omega), if_pos trivial]
        exact ⟨rfl, rfl⟩
      · rw [nrow_e _ (by omega) (by omega) (by omega), nrow_e _ (by omega) (by omega) (by omega), upd_at, upd_at, if_neg ci, if_neg ci]
        exact h4 i (by omega)
    · show 0 ≤ (upd ff c i1 i).toInt ∧ (upd ff c i1 i).toInt ≤ 400
      rw [upd_at]
      by_cases ci : i = c
      · rw [if_pos ci]; exact hrg
      · rw [if_neg ci]; exact h5 i (by omega)
theorem A_book {c : Nat} {kK : Int32} {gf gs n : Nat → Int32} (h : BkOk c kK gf gs n) (i1 i2 ik im be bg tx ta fa cl : Int32) :
    ∃ o m, fX8_book i1 i2 ik kK gf gs = some o ∧ fX9_book i1 i2 im be bg tx ta fa cl n = some m ∧ o.1 = m.1 ∧ (∃ c2, BkOk c2 o.2.1 o.2.2.1 o.2.2.2 m.2) ∧ ∀ j, ¬ (j = 14 ∨ (53 ≤ j ∧ j < 69)) → m.2 j = n j := by
  have h' := h
  obtain ⟨h1, h2, h3, h4⟩ := h
  by_cases hm : i1 = -1
  · apply mk2
    · unfold fX8_book
      rw [if_pos hm]
    · unfold fX9_book
      rw [if_pos hm, lt_eq]
    · exact ⟨rfl, ⟨0, Nat.zero_le _, rfl, rfl, fun i hi => absurd hi (Nat.not_lt_zero i)⟩, fun j hj => by show upd n 14 0 j = n j; rw [upd_at, if_neg (by omega)]⟩
  by_cases hi : bw i1 0 99 = 0
  · apply mk2
    · unfold fX8_book
      rw [if_neg hm, p_bw, Option.bind_some, if_pos hi]
    · unfold fX9_book
      rw [if_neg hm, q_bw, Option.bind_some, if_pos hi]
    · exact ⟨rfl, ⟨c, h'⟩, fun _ _ => rfl⟩
  by_cases ha : bw i2 0 400 = 0
  · apply mk2
    · unfold fX8_book
      rw [if_neg hm, p_bw, Option.bind_some, if_neg hi, p_bw, Option.bind_some, if_pos ha]
    · unfold fX9_book
      rw [if_neg hm, q_bw, Option.bind_some, if_neg hi, q_bw, Option.bind_some, if_pos ha]
    · exact ⟨rfl, ⟨c, h'⟩, fun _ _ => rfl⟩
  by_cases hc : c = 8
  · apply mk2
    · unfold fX8_book
      rw [if_neg hm, p_bw, Option.bind_some, if_neg hi, p_bw, Option.bind_some, if_neg ha, if_neg (show ¬ kK < 8 by rw [h2, hc]; decide)]
    · unfold fX9_book
      rw [if_neg hm, q_bw, Option.bind_some, if_neg hi, q_bw, Option.bind_some, if_neg ha, if_pos (by rw [h3, hc]; rfl)]
    · exact ⟨rfl, ⟨c, h'⟩, fun _ _ => rfl⟩
  have q2 : (53 : Int32) + 2 * nI c = nI (53 + 2 * c) := by rw [show (2 : Int32) = nI 2 from rfl, pk_mul, show (53 : Int32) = nI 53 from rfl, nI_add]
  have e13 : ∀ x, upd n (53 + 2 * c) x 14 = nI c := fun x => by rw [upd_at, if_neg (by omega), h3]
  have e13' : ∀ x y, upd (upd n (53 + 2 * c) x) (53 + 2 * c + 1) y 14 = nI c := fun x y => by rw [upd_at, if_neg (by omega), e13]
  have hm9 : fX9_book i1 i2 im be bg tx ta fa cl n = some (nI (c + 1), nrow n 14 53 c i1 i2) := by
    unfold fX9_book
    simp only [lt_eq]
    rw [if_neg hm, q_bw, Option.bind_some, if_neg hi, q_bw, Option.bind_some, if_neg ha, h3, if_neg (show ¬ nI c = 8 by rw [show (8 : Int32) = nI 8 from rfl, nI_eq (by omega) (by decide)]; exact hc), q2, gd_t (inb_nI (by omega) (by decide)), nI_clamp (by omega), e13, q2, nI_1, gd_t (inb_nI (by omega) (by decide)), nI_clamp (by omega), e13', nI_1]
    rfl
  have hrg := bw_rg hi
  rw [c_0, show (99 : Int32).toInt = 99 by decide] at hrg
  have hrg2 := bw_rg ha
  rw [c_0] at hrg2
  apply mk2
  · unfold fX8_book
    rw [if_neg hm, p_bw, Option.bind_some, if_neg hi, p_bw, Option.bind_some, if_neg ha, h2, if_pos (show nI c < 8 from nI_lt (b := 8) (by omega) (by decide)), p_add3 c (by omega), Option.bind_some]
  · exact hm9
  · refine ⟨rfl, ⟨c + 1, by omega, rfl, rfl, fun i hi => ?_⟩, fun j hj => nrow_e j (by omega) (by omega) (by omega)⟩
    show nrow n 14 53 c i1 i2 (53 + 2 * i) = upd gf c i1 i ∧ nrow n 14 53 c i1 i2 (54 + 2 * i) = upd gs c i2 i ∧ 0 ≤ (upd gf c i1 i).toInt ∧ (upd gf c i1 i).toInt ≤ 99 ∧ 0 ≤ (upd gs c i2 i).toInt
    by_cases ci : i = c
    · subst ci
      unfold nrow
      simp only [upd_at]
      rw [if_neg (by omega), if_neg (by omega), if_pos trivial, if_pos trivial, if_neg (by omega), if_pos (by omega), if_pos trivial]
      exact ⟨rfl, rfl, hrg.1, hrg.2, hrg2.1⟩
    · rw [nrow_e _ (by omega) (by omega) (by omega), nrow_e _ (by omega) (by omega) (by omega), upd_at, upd_at, if_neg ci, if_neg ci]
      exact h4 i (by omega)
