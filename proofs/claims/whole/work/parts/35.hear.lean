/-! copies; what is heard -/
theorem p_pc10 (k_1 : Int32) (s1 t1 w1 : Nat → Int32) (K : Nat) (hK : K ≤ 8) : ∀ (r i fu : Nat) (s t w : Nat → Int32), i + r = K → r < fu → (∀ j, j < i → t j = t1 j ∧ w j = w1 j ∧ s j = s1 j) →
    ∃ s2 t2 w2, fX2_copy_10 k_1 s1 t1 w1 fu (nI i) (nI K) s t w = some (nI K, s2, t2, w2) ∧ ∀ j, j < K → t2 j = t1 j ∧ w2 j = w1 j ∧ s2 j = s1 j := by
  intro r
  induction r with
  | zero =>
    intro i fu s t w hi hf h
    obtain ⟨f, rfl⟩ : ∃ f, fu = f + 1 := ⟨fu - 1, by omega⟩
    refine ⟨s, t, w, ?_, fun j hj => h j (by omega)⟩
    rw [fX2_copy_10, if_pos (nI_le (by omega) (by omega))]
  | succ r ih =>
    intro i fu s t w hi hf h
    obtain ⟨f, rfl⟩ : ∃ f, fu = f + 1 := ⟨fu - 1, by omega⟩
    have hi8 : inb (nI i) 8 = true := inb_nI (by omega) (by decide)
    obtain ⟨s2, t2, w2, h1, h2⟩ := ih (i + 1) f (upd s i (s1 i)) (upd t i (t1 i)) (upd w i (w1 i)) (by omega) (by omega) (fun j hj => by
      simp only [upd_at]
      by_cases c : j = i
      · subst c; rw [if_pos rfl, if_pos rfl, if_pos rfl]; exact ⟨rfl, rfl, rfl⟩
      · rw [if_neg c, if_neg c, if_neg c]; exact h j (by omega))
    refine ⟨s2, t2, w2, ?_, h2⟩
    rw [fX2_copy_10, if_neg (nI_ge (by omega) (by omega)), if_neg (show ¬ (8 : Int32) ≤ nI i from nI_ge (b := 8) (by omega) (by decide)), gd_t hi8, gd_t hi8]
    simp only [lt_eq]
    rw [gd_t hi8, gd_t hi8, gd_t hi8, gd_t hi8, nI_clamp (by omega), nI_1]
    exact h1
theorem p_pcopy {P : List Pu} {k1 : Int32} {t1 w1 s1 : Nat → Int32} (h : RP P k1 t1 w1 s1) (k : Int32) (s t w : Nat → Int32) : ∃ o, fX2_copy k k1 s t w s1 t1 w1 = some o ∧ RP P o.1 o.2.2.1 o.2.2.2 o.2.1 := by
  obtain ⟨e, h8, hP⟩ := h
  obtain ⟨s2, t2, w2, h1, h2⟩ := p_pc10 k1 s1 t1 w1 P.length h8 P.length 0 500 s t w (by omega) (by omega) (fun j hj => by omega)
  refine ⟨(nI P.length, s2, t2, w2), ?_, rfl, h8, fun i q hq => ?_⟩
  · unfold fX2_copy
    rw [e] at h1 ⊢
    exact h1
  · have hl := (List.getElem?_eq_some_iff.mp hq).1
    obtain ⟨a1, a2, a3⟩ := h2 i hl
    obtain ⟨b1, b2, b3⟩ := hP i q hq
    exact ⟨a1.trans b1, a2.trans b2, a3.trans b3⟩
theorem p_ac (z : Int32) (b1 : Nat → Int32) (se1 : Int64) (z1 : Int32) (A1 : Nat → Int64) (k1 : Int32) (s1 t1 w1 b : Nat → Int32) (se : Int64) (k : Int32) (s t w : Nat → Int32) : ∀ (r i fu : Nat) (A : Nat → Int64), i + r = 4 → r < fu → (∀ j, j < i → A j = A1 j) →
    ∃ A2, fX0_copy_109 z b1 se1 z1 A1 k1 s1 t1 w1 fu (nI i) b se A k s t w = some (b, se, A2, k, s, t, w) ∧ ∀ j, j < 4 → A2 j = A1 j := by
  intro r
  induction r with
  | zero =>
    intro i fu A hi hf h
    obtain ⟨f, rfl⟩ : ∃ f, fu = f + 1 := ⟨fu - 1, by omega⟩
    refine ⟨A, ?_, fun j hj => h j (by omega)⟩
    rw [fX0_copy_109, if_pos (show (4 : Int32) ≤ nI i from nI_le (a := 4) (by omega) (by omega))]
  | succ r ih =>
    intro i fu A hi hf h
    obtain ⟨f, rfl⟩ : ∃ f, fu = f + 1 := ⟨fu - 1, by omega⟩
    have hi8 : inb (nI i) 4 = true := inb_nI (by omega) (by decide)
    obtain ⟨A2, h1, h2⟩ := ih (i + 1) f (vp_updL A i (A1 i)) (by omega) (by omega) (fun j hj => by
      rw [updL_at]
      by_cases c : j = i
      · subst c; rw [if_pos rfl]
      · rw [if_neg c]; exact h j (by omega))
    refine ⟨A2, ?_, h2⟩
    have hn : ¬ (4 : Int32) ≤ nI i := nI_ge (b := 4) (by omega) (by decide)
    rw [fX0_copy_109, if_neg hn, if_neg hn, gd_t hi8, gd_t hi8]
    simp only [lt_eq]
    rw [nI_clamp (by omega), nI_1]
    exact h1
theorem p_bcopy {P : List Pu} {k1 : Int32} {t1 w1 s1 : Nat → Int32} (h : RP P k1 t1 w1 s1) (b : Nat → Int32) (se : Int64) (z : Int32) (b1 : Nat → Int32) (se1 : Int64) (z1 : Int32) (A : Nat → Int64) (k : Int32) (A1 : Nat → Int64) (s t w : Nat → Int32) :
    ∃ b2 A2 o, fX0_copy b se z b1 se1 z1 A k A1 k1 s t w s1 t1 w1 = some (b2, se1, A2, o) ∧ Ag 11 b2 b1 ∧ (∀ j, j < 4 → A2 j = A1 j) ∧ RP P o.1 o.2.2.1 o.2.2.2 o.2.1 := by
  obtain ⟨o, h1, h2⟩ := p_pcopy h k s t w
  obtain ⟨b2, hb2⟩ : ∃ b2, b2 = upd (upd (upd (upd (upd (upd (upd (upd (upd (upd (upd b 0 (b1 0)) 1 (b1 1)) 2 (b1 2)) 3 (b1 3)) 4 (b1 4)) 5 (b1 5)) 6 (b1 6)) 7 (b1 7)) 8 (b1 8)) 9 (b1 9)) 10 (b1 10) := ⟨_, rfl⟩
  obtain ⟨A2, h3, h4⟩ := p_ac z b1 se1 z1 A1 k1 s1 t1 w1 b2 se1 o.1 o.2.1 o.2.2.1 o.2.2.2 4 0 500 A (by omega) (by omega) (fun j hj => by omega)
  refine ⟨b2, A2, o, ?_, ?_, h4, h2⟩
  · unfold fX0_copy
    simp only [lt_eq]
    rw [h1, Option.bind_some, ← hb2]
    exact h3
  · intro j hj
    rw [hb2]
    simp only [upd_at]
    have : j = 0 ∨ j = 1 ∨ j = 2 ∨ j = 3 ∨ j = 4 ∨ j = 5 ∨ j = 6 ∨ j = 7 ∨ j = 8 ∨ j = 9 ∨ j = 10 := by omega
    rcases this with rfl | rfl | rfl | rfl | rfl | rfl | rfl | rfl | rfl | rfl | rfl <;> rfl
theorem q_po2 (f : Nat → Int32) : ∀ (r i fu : Nat) (g : Nat → Int32), i + r = 69 → r < fu → (∀ j, j < i → g j = f j) → ∃ g2, fX9_pours_2 f fu (nI i) g = some g2 ∧ Ag 69 g2 f := by
  intro r
  induction r with
  | zero =>
    intro i fu g hi hf h
    obtain ⟨fu', rfl⟩ : ∃ f, fu = f + 1 := ⟨fu - 1, by omega⟩
    refine ⟨g, ?_, fun j hj => h j (by omega)⟩
    rw [fX9_pours_2, if_pos (show (69 : Int32) ≤ nI i from nI_le (a := 69) (by omega) (by omega))]
  | succ r ih =>
    intro i fu g hi hf h
    obtain ⟨fu', rfl⟩ : ∃ f, fu = f + 1 := ⟨fu - 1, by omega⟩
    have hi8 : inb (nI i) 69 = true := inb_nI (by omega) (by decide)
    obtain ⟨g2, h1, h2⟩ := ih (i + 1) fu' (upd g i (f i)) (by omega) (by omega) (fun j hj => by
      rw [upd_at]
      by_cases c : j = i
      · subst c; rw [if_pos rfl]
      · rw [if_neg c]; exact h j (by omega))
    refine ⟨g2, ?_, h2⟩
    rw [fX9_pours_2, if_neg (show ¬ (69 : Int32) ≤ nI i from nI_ge (b := 69) (by omega) (by decide)), gd_t hi8, gd_t hi8]
    simp only [lt_eq]
    rw [nI_clamp (by omega), nI_1]
    exact h1
theorem q_pours (f g : Nat → Int32) : ∃ g2, fX9_pours f g = some g2 ∧ Ag 69 g2 f := q_po2 f 69 0 500 g (by omega) (by omega) (fun j hj => by omega)
def AgL (v u : Nat → Int64) : Prop := ∀ j, j < 4 → v j = u j
theorem q_pl2 (f : Nat → Int64) : ∀ (r i fu : Nat) (g : Nat → Int64), i + r = 4 → r < fu → (∀ j, j < i → g j = f j) → ∃ g2, fX9_poursLongs_2 f fu (nI i) g = some g2 ∧ AgL g2 f := by
  intro r
  induction r with
  | zero =>
    intro i fu g hi hf h
    obtain ⟨fu', rfl⟩ : ∃ f, fu = f + 1 := ⟨fu - 1, by omega⟩
    refine ⟨g, ?_, fun j hj => h j (by omega)⟩
    rw [fX9_poursLongs_2, if_pos (show (4 : Int32) ≤ nI i from nI_le (a := 4) (by omega) (by omega))]
  | succ r ih =>
    intro i fu g hi hf h
    obtain ⟨fu', rfl⟩ : ∃ f, fu = f + 1 := ⟨fu - 1, by omega⟩
    have hi8 : inb (nI i) 4 = true := inb_nI (by omega) (by decide)
    obtain ⟨g2, h1, h2⟩ := ih (i + 1) fu' (vp_updL g i (f i)) (by omega) (by omega) (fun j hj => by
      rw [updL_at]
      by_cases c : j = i
      · subst c; rw [if_pos rfl]
      · rw [if_neg c]; exact h j (by omega))
    refine ⟨g2, ?_, h2⟩
    rw [fX9_poursLongs_2, if_neg (show ¬ (4 : Int32) ≤ nI i from nI_ge (b := 4) (by omega) (by decide)), gd_t hi8, gd_t hi8]
    simp only [lt_eq]
    rw [nI_clamp (by omega), nI_1]
    exact h1
theorem q_poursL (f g : Nat → Int64) : ∃ g2, fX9_poursLongs f g = some g2 ∧ AgL g2 f := q_pl2 f 4 0 500 g (by omega) (by omega) (fun j hj => by omega)
theorem q_lays (im be bg tx ta fa cl : Int32) (A H : Nat → Int64) (h n : Nat → Int32) : ∃ H2 h2, fX9_lays im be bg tx ta fa cl A H h n = some (H2, h2) ∧ AgL H2 A ∧ Ag 69 h2 n := by
  obtain ⟨h2, a1, a2⟩ := q_pours n h
  obtain ⟨H2, a3, a4⟩ := q_poursL A H
  refine ⟨H2, h2, ?_, a4, a2⟩
  unfold fX9_lays
  rw [a1, Option.bind_some, a3, Option.bind_some]
theorem q_back (im be bg tx ta fa cl : Int32) (A H : Nat → Int64) (h n : Nat → Int32) : ∃ A2 n2, fX9_back im be bg tx ta fa cl A H h n = some (A2, n2) ∧ AgL A2 H ∧ Ag 69 n2 h := by
  obtain ⟨h2, a1, a2⟩ := q_pours h n
  obtain ⟨H2, a3, a4⟩ := q_poursL H A
  refine ⟨H2, h2, ?_, a4, a2⟩
  unfold fX9_back
  rw [a1, Option.bind_some, a3, Option.bind_some]
theorem RBal.ag {L : List Pu} {b : Nat → Int32} {k : Int32} {t w s n m : Nat → Int32} (h : RBal L b k t w s n) (ha : Ag 69 m n) : RBal L b k t w s m := by
  obtain ⟨h1, ⟨h2, h3, h4⟩, h5, h6, h7, h8⟩ := h
  refine ⟨fun j hj => (h1 j hj).trans (ha j (by omega)).symm, ⟨(ha 11 (by decide)).trans h2, h3, fun j q hq => ?_⟩, h5, fun q hq => ⟨(h6 q hq).1, by rw [ha 8 (by decide)]; exact (h6 q hq).2⟩, by rw [ha 7 (by decide)]; exact h7, by rw [ha 6 (by decide)]; exact h8⟩
  have hl := (List.getElem?_eq_some_iff.mp hq).1
  have h9 := h4 j q hq
  unfold P3 at h9 ⊢
  rw [ha _ (by omega), ha _ (by omega), ha _ (by omega)]
  exact h9
theorem RBal.cp {L : List Pu} {b b2 : Nat → Int32} {k k2 : Int32} {t w s t2 w2 s2 n : Nat → Int32} (h : RBal L b k t w s n) (ha : Ag 11 b2 b) (hp : RP (srt L) k2 t2 w2 s2) : RBal L b2 k2 t2 w2 s2 n :=
  ⟨fun j hj => (ha j hj).trans (h.1 j hj), h.2.1, hp, h.2.2.2⟩
/-- one of ANGLE, SPEED, OFFSET another one -/
theorem RBal.put {L : List Pu} {b : Nat → Int32} {k : Int32} {t w s n : Nat → Int32} (h : RBal L b k t w s n) (j : Nat) (hj : j < 6) (v : Int32) : RBal L (upd b j v) k t w s (upd n j v) := by
  obtain ⟨h1, ⟨h2, h3, h4⟩, h5, h6, h7, h8⟩ := h
  have e : ∀ i, 6 ≤ i → upd n j v i = n i := fun i hi => by rw [upd_at, if_neg (by omega)]
  refine ⟨h1.upd j rfl, ⟨by rw [e _ (by decide)]; exact h2, h3, fun i q hq => ?_⟩, h5, fun q hq => ⟨(h6 q hq).1, by rw [e _ (by decide)]; exact (h6 q hq).2⟩, by rw [e _ (by decide)]; exact h7, by rw [e _ (by decide)]; exact h8⟩
  have h9 := h4 i q hq
  unfold P3 at h9 ⊢
  rw [e _ (by omega), e _ (by omega), e _ (by omega)]
  exact h9
/-- beats heard within i TICKS, as they stand in a row -/
def Hrd (hs : List Nat) (i : Nat) (f : Nat → Int32) : Prop := hs.Pairwise (fun a b => a < b) ∧ (∀ q ∈ hs, q < i) ∧ hs.length ≤ i ∧ ∀ (j q : Nat), hs[j]? = some q → f j = nI q
theorem Hrd.mono {hs : List Nat} {i i2 : Nat} {f : Nat → Int32} (h : Hrd hs i f) (hi : i ≤ i2) : Hrd hs i2 f := ⟨h.1, fun q hq => Nat.lt_of_lt_of_le (h.2.1 q hq) hi, Nat.le_trans h.2.2.1 hi, h.2.2.2⟩
theorem Hrd.snoc {hs : List Nat} {i : Nat} {f : Nat → Int32} (h : Hrd hs i f) : Hrd (hs ++ [i]) (i + 1) (upd f hs.length (nI i)) := by
  refine ⟨?_, ?_, by simp; exact h.2.2.1, ?_⟩
  · rw [List.pairwise_append]
    refine ⟨h.1, by simp, fun a ha b hb => ?_⟩
    rw [List.mem_singleton.mp hb]
    exact h.2.1 a ha
  · intro q hq
    rcases List.mem_append.mp hq with hq | hq
    · have := h.2.1 q hq; omega
    · rw [List.mem_singleton.mp hq]; omega
  · intro j q hq
    rw [upd_at]
    by_cases c : j < hs.length
    · rw [if_neg (by omega)]
      rw [List.getElem?_append_left c] at hq
      exact h.2.2.2 j q hq
    · rw [List.getElem?_append_right (by omega)] at hq
      have hz : j - hs.length < 1 := (List.getElem?_eq_some_iff.mp hq).1
      have hj : j = hs.length := by omega
      subst hj
      rw [if_pos rfl]
      rw [Nat.sub_self] at hq
      cases hq
      rfl
theorem R_listen (z : Int32) (im tx ta fa cl bg : Int32) : ∀ (r i fu fu9 : Nat) (hs : List Nat) (L : List Pu) (b : Nat → Int32) (se : Int64) (f_a : Nat → Int32) (A : Nat → Int64) (k : Int32) (s t w : Nat → Int32) (A9 : Nat → Int64) (fb n : Nat → Int32),
    i + r = 400 → r < fu → r < fu9 → RBal L b k t w s n → n 8 = bg + nI i → Hrd hs i f_a → Hrd hs i fb →
    ∃ hs2 L2 b2 se2 f_a2 A2 o A92 fb2 n2, fX1_listen_7 z fu (nI i) (nI hs.length) b se f_a A k s t w = some (nI hs2.length, b2, se2, f_a2, A2, o) ∧
      fX9_goes_18 400 im tx ta fa cl fu9 (nI i) (nI hs.length) bg A9 fb n = some (nI hs2.length, bg, A92, fb2, n2) ∧ Hrd hs2 400 f_a2 ∧ Hrd hs2 400 fb2 ∧ RBal L2 b2 o.1 o.2.2.1 o.2.2.2 o.2.1 n2 := by
  intro r
  induction r with
  | zero =>
    intro i fu fu9 hs L b se f_a A k s t w A9 fb n hi hf hf9 hR hcl h1 h2
    obtain ⟨f, rfl⟩ : ∃ f, fu = f + 1 := ⟨fu - 1, by omega⟩
    obtain ⟨f9, rfl⟩ : ∃ f, fu9 = f + 1 := ⟨fu9 - 1, by omega⟩
    have hi4 : i = 400 := by omega
    subst hi4
    refine ⟨hs, L, b, se, f_a, A, (k, s, t, w), A9, fb, n, ?_, ?_, h1, h2, hR⟩
    · rw [fX1_listen_7, if_pos (by decide)]
    · rw [fX9_goes_18, if_pos (by decide)]
  | succ r ih =>
    intro i fu fu9 hs L b se f_a A k s t w A9 fb n hi hf hf9 hR hcl h1 h2
    obtain ⟨f, rfl⟩ : ∃ f, fu = f + 1 := ⟨fu - 1, by omega⟩
    obtain ⟨f9, rfl⟩ : ∃ f, fu9 = f + 1 := ⟨fu9 - 1, by omega⟩
    have hn4 : ¬ (400 : Int32) ≤ nI i := nI_ge (b := 400) (by omega) (by decide)
    have hlen := h1.2.2.1
    obtain ⟨b2, o, n2, ht, ht9, hR2, hag, -⟩ := R_tick hR im (nI hs.length) bg tx ta fa cl (nI_pos (by omega)) se z A A9 fb
    generalize hv : dps n (L.filter (fun q => decide (q.1 = n 8))) = v at ht ht9 hag
    have hcl2 : n2 8 = bg + nI (i + 1) := by
      rw [hag 8 (by decide)]
      unfold s5
      rw [upd_at, if_pos rfl, tv_at _ _ (by decide) (by decide) (by decide) (by decide) (by decide) (by decide), ← hv, dps_at _ _ _ (by decide) (by decide) (by decide) (by decide), hcl, ← nI_1, Int32.add_assoc]
    by_cases hb0 : tb v = 0
    · obtain ⟨hs2, L2, b3, se2, f_a2, A2, o2, A92, fb2, n3, e1, e2, e3⟩ := ih (i + 1) f f9 hs _ b2 (tq z v (se, A)).1 f_a (tq z v (se, A)).2 o.1 o.2.1 o.2.2.1 o.2.2.2 (tq 1 v (En n, A9)).2 fb n2 (by omega) (by omega) (by omega) hR2 hcl2 (h1.mono (by omega)) (h2.mono (by omega))
      refine ⟨hs2, L2, b3, se2, f_a2, A2, o2, A92, fb2, n3, ?_, ?_, e3⟩
      · rw [fX1_listen_7, if_neg hn4, ht, Option.bind_some, if_pos hb0, lt_eq, nI_1]
        exact e1
      · rw [fX9_goes_18, if_neg hn4, ht9, Option.bind_some, lt_eq, nI_1, if_pos hb0, if_pos hb0]
        exact e2
    · have hl4 : ¬ (400 : Int32) ≤ nI hs.length := nI_ge (b := 400) (by omega) (by decide)
      have hhb : hb (nI hs.length) bg (n 8) fb = upd fb hs.length (nI i) := by
        unfold hb
        rw [if_neg hl4, nI_clamp (by omega), hcl, Int32.add_comm, Int32.add_sub_cancel]
      obtain ⟨hs2, L2, b3, se2, f_a2, A2, o2, A92, fb2, n3, e1, e2, e3⟩ := ih (i + 1) f f9 (hs ++ [i]) _ b2 (tq z v (se, A)).1 (upd f_a hs.length (nI i)) (tq z v (se, A)).2 o.1 o.2.1 o.2.2.1 o.2.2.2 (tq 1 v (En n, A9)).2 (upd fb hs.length (nI i)) n2 (by omega) (by omega) (by omega) hR2 hcl2 h1.snoc h2.snoc
      rw [List.length_append] at e1 e2
      refine ⟨hs2, L2, b3, se2, f_a2, A2, o2, A92, fb2, n3, ?_, ?_, e3⟩
      · rw [fX1_listen_7, if_neg hn4, ht, Option.bind_some, if_neg hb0, if_neg hl4, gd_t (inb_nI (by omega) (by decide)), lt_eq, lt_eq, lt_eq, nI_clamp (by omega), nI_1, nI_1]
        exact e1
      · rw [fX9_goes_18, if_neg hn4, ht9, Option.bind_some, lt_eq, nI_1, if_neg hb0, if_neg hb0, hhb, nI_1]
        exact e2
