/-! SET, TOLD, PUSH, PUSHOF -/
theorem RN.of {L : List Pu} {b : Nat → Int32} {se : Int64} {A : Nat → Int64} {k : Int32} {t w s n m : Nat → Int32} {A9 B9 : Nat → Int64} (h : RN L b se A k t w s n A9) (hm : ∀ j, j < 12 ∨ (15 ≤ j ∧ j < 39) → m j = n j) (hA : AgL B9 A9) : RN L b se A k t w s m B9 := by
  obtain ⟨⟨h1, ⟨h2, h3, h4⟩, h5, h6, h7, h8⟩, hse, hA0, hB, hp⟩ := h
  have hag : Ag 11 m n := fun j hj => hm j (by omega)
  refine ⟨⟨fun j hj => (h1 j hj).trans (hag j hj).symm, ⟨(hm 11 (by decide)).trans h2, h3, fun j q hq => ?_⟩, h5, fun q hq => ⟨(h6 q hq).1, by rw [hm 8 (by decide)]; exact (h6 q hq).2⟩, by rw [hm 7 (by decide)]; exact h7, by rw [hm 6 (by decide)]; exact h8⟩, by rw [hse]; exact (Ag_En (Nat.le_refl _) hag).symm, fun j hj => (hA0 j hj).trans (hA j hj).symm, hB.e hag, hp⟩
  have hl := (List.getElem?_eq_some_iff.mp hq).1
  have h9 := h4 j q hq
  unfold P3 at h9 ⊢
  rw [hm _ (by omega), hm _ (by omega), hm _ (by omega)]
  exact h9
theorem RN.ag {L : List Pu} {b : Nat → Int32} {se : Int64} {A : Nat → Int64} {k : Int32} {t w s n m : Nat → Int32} {A9 B9 : Nat → Int64} (h : RN L b se A k t w s n A9) (hm : Ag 69 m n) (hA : AgL B9 A9) : RN L b se A k t w s m B9 := h.of (fun j hj => hm j (by omega)) hA
theorem bw_lt {v lo hi : Int32} (h : v < lo) : bw v lo hi = 0 := if_pos h
theorem bw_1 {v lo hi : Int32} (h1 : ¬ v < lo) (h2 : ¬ hi < v) : bw v lo hi = 1 := by unfold bw; rw [if_neg h1, if_neg h2]
theorem bw_zb (v lo hi : Int32) : zb (bw v lo hi) = true := by
  unfold bw
  split
  · rfl
  · split <;> rfl
theorem bw_rg {v lo hi : Int32} (h : ¬ bw v lo hi = 0) : lo.toInt ≤ v.toInt ∧ v.toInt ≤ hi.toInt := by
  obtain ⟨h1, h2⟩ := bw_0 h
  exact ⟨i_le.mp (Int32.not_lt.mp h1), i_le.mp (Int32.not_lt.mp h2)⟩
def sbl (j : Nat) (v : Int32) : Int32 := bw v (tbLeast j) (tbMost j)
theorem p_isSet (j : Nat) (hj : j < 7) (v : Int32) : fX8_isSettable (nI j) v = some (if sbl j v = 0 then 0 else 1) := by
  unfold fX8_isSettable sbl
  rw [if_neg (nI_pos (by omega)), if_neg (show ¬ (7 : Int32) ≤ nI j from nI_ge (b := 7) (by omega) (by decide)), if_neg (show ¬ (7 : Int32) ≤ nI j from nI_ge (b := 7) (by omega) (by decide)), gd_t (inb_nI (by omega) (by decide)), gd_t (inb_nI (by omega) (by decide)), nI_clamp (by omega), p_bw, Option.bind_some]
  split <;> rfl
theorem q_isSo (j : Nat) (hj : j < 7) (v : Int32) : fX9_isSo (nI j) v = some (sbl j v) := by
  have : j = 0 ∨ j = 1 ∨ j = 2 ∨ j = 3 ∨ j = 4 ∨ j = 5 ∨ j = 6 := by omega
  unfold fX9_isSo
  simp only [q_bw, Option.bind_some, gd_t (bw_zb _ _ _)]
  rcases this with rfl | rfl | rfl | rfl | rfl | rfl | rfl <;> rfl
theorem p_valueOf (j : Nat) (hj : j < 11) (b : Nat → Int32) (se : Int64) (z k : Int32) : fX0_valueOf (nI j) b se z k = some (b j) := by
  have : j = 0 ∨ j = 1 ∨ j = 2 ∨ j = 3 ∨ j = 4 ∨ j = 5 ∨ j = 6 ∨ j = 7 ∨ j = 8 ∨ j = 9 ∨ j = 10 := by omega
  rcases this with rfl | rfl | rfl | rfl | rfl | rfl | rfl | rfl | rfl | rfl | rfl <;> rfl
theorem RN.put {L : List Pu} {b : Nat → Int32} {se : Int64} {A : Nat → Int64} {k : Int32} {t w s n : Nat → Int32} {A9 : Nat → Int64} (h : RN L b se A k t w s n A9) (j : Nat) (hj : j < 7) (v : Int32) (hv : ¬ sbl j v = 0) :
    RN L (upd b j v) (stl 1 0 (upd b j v) (se, A)).1 (stl 1 0 (upd b j v) (se, A)).2 k t w s (upd n j v) (stl 1 0 (upd n j v) (En n, A9)).2 := by
  obtain ⟨⟨h1, ⟨h2, h3, h4⟩, h5, h6, h7, h8⟩, hse, hA, hB, hp⟩ := h
  have hag : Ag 11 (upd b j v) (upd n j v) := h1.upd j rfl
  have e : ∀ i, 7 ≤ i → upd n j v i = n i := fun i hi => by rw [upd_at, if_neg (by omega)]
  have hrg := bw_rg hv
  refine ⟨⟨hag, ⟨by rw [e _ (by decide)]; exact h2, h3, fun i q hq => ?_⟩, h5, fun q hq => ⟨(h6 q hq).1, by rw [e _ (by decide)]; exact (h6 q hq).2⟩, by rw [e _ (by decide)]; exact h7, ?_⟩, ?_, ?_, ?_, hp⟩
  · have h9 := h4 i q hq
    unfold P3 at h9 ⊢
    rw [e _ (by omega), e _ (by omega), e _ (by omega)]
    exact h9
  · rw [upd_at]
    split
    · next c =>
      subst c
      rw [i_lt, c_0]
      have : (tbLeast 6).toInt = 1 := by decide
      omega
    · exact h8
  · rw [Ag_stl (Nat.le_refl _) hag]; rfl
  · rw [Ag_stl (Nat.le_refl _) hag]
    exact (AgL_stl hse hA).2
  · obtain ⟨⟨b0, b2, b3, b4, b5, b6, b9⟩, b1⟩ := hB
    have : j = 0 ∨ j = 1 ∨ j = 2 ∨ j = 3 ∨ j = 4 ∨ j = 5 ∨ j = 6 := by omega
    rcases this with rfl | rfl | rfl | rfl | rfl | rfl | rfl
    · exact ⟨⟨hrg, b2, b3, b4, b5, b6, b9⟩, b1⟩
    · refine ⟨⟨b0, b2, b3, b4, b5, b6, b9⟩, ?_⟩
      have e1 : (tbLeast 1).toInt = -400 := by decide
      have e2 : (tbMost 1).toInt = 400 := by decide
      show Rg v (-700) 700
      unfold Rg
      omega
    · exact ⟨⟨b0, hrg, b3, b4, b5, b6, b9⟩, b1⟩
    · exact ⟨⟨b0, b2, hrg, b4, b5, b6, b9⟩, b1⟩
    · exact ⟨⟨b0, b2, b3, hrg, b5, b6, b9⟩, b1⟩
    · exact ⟨⟨b0, b2, b3, b4, hrg, b6, b9⟩, b1⟩
    · exact ⟨⟨b0, b2, b3, b4, b5, hrg, b9⟩, b1⟩
theorem p_pbh (j : Nat) (hj : j < 7) (v : Int32) (b : Nat → Int32) (se : Int64) (A : Nat → Int64) : fX0_putByHand (nI j) v b se 1 A = some (upd b j v, stl 1 0 (upd b j v) (se, A)) := by
  unfold fX0_putByHand
  rw [p_put j hj, Option.bind_some, p_settle0, Option.bind_some]
theorem bw_hi {v hi : Int32} (h : bw v 0 hi = 0) : v < 0 ∨ (¬ v < 0 ∧ hi < v) := by
  unfold bw at h
  by_cases c : v < 0
  · exact Or.inl c
  · rw [if_neg c] at h
    by_cases c2 : hi < v
    · exact Or.inr ⟨c, c2⟩
    · rw [if_neg c2] at h; exact absurd h (by decide)
theorem bw_of {v M : Int32} {n : Nat} (hM : M.toInt = n) (h : ¬ bw v 0 M = 0) : ∃ j : Nat, j ≤ n ∧ v = nI j := nI_of2 hM (bw_0 h).1 (Int32.not_lt.mp (bw_0 h).2)
def RNo (o : (Nat → Int32) × Int64 × (Nat → Int64)) (k : Int32) (t w s n : Nat → Int32) (A9 : Nat → Int64) : Prop := ∃ L, RN L o.1 o.2.1 o.2.2 k t w s n A9
theorem q_setY (j : Nat) (hj : j < 7) (v : Int32) (hv : ¬ sbl j v = 0) (im be bg tx ta fa cl : Int32) (A9 : Nat → Int64) (n : Nat → Int32) : fX9_set (nI j) v im be bg tx ta fa cl A9 n = some (n j, (stl 1 0 (upd n j v) (En n, A9)).2, upd n j v) := by
  unfold fX9_set
  rw [q_bw, Option.bind_some, if_neg (by rw [bw_1 (nI_pos (by omega)) (show ¬ (6 : Int32) < nI j from nI_nlt (a := 6) (by omega) (by decide))]; decide), q_isSo j hj, Option.bind_some, if_neg hv, gd_t (inb_nI (by omega) (by decide)), lt_eq, q_en, Option.bind_some, gd_t (inb_nI (by omega) (by decide)), lt_eq, q_en, Option.bind_some, lt_eq, nI_clamp (by omega)]
  rfl
theorem q_setN (j : Nat) (hj : j < 7) (v : Int32) (hv : sbl j v = 0) (im be bg tx ta fa cl : Int32) (A9 : Nat → Int64) (n : Nat → Int32) : fX9_set (nI j) v im be bg tx ta fa cl A9 n = some (-1001, A9, n) := by
  unfold fX9_set
  rw [q_bw, Option.bind_some, if_neg (by rw [bw_1 (nI_pos (by omega)) (show ¬ (6 : Int32) < nI j from nI_nlt (a := 6) (by omega) (by decide))]; decide), q_isSo j hj, Option.bind_some, if_pos hv]
theorem A_set {L : List Pu} {b : Nat → Int32} {se : Int64} {A : Nat → Int64} {k : Int32} {t w s n : Nat → Int32} {A9 : Nat → Int64} (h : RN L b se A k t w s n A9) (i1 i2 ik im be bg tx ta fa cl : Int32) :
    ∃ o m, fX8_set i1 i2 ik b se 1 A k = some o ∧ fX9_set i1 i2 im be bg tx ta fa cl A9 n = some m ∧ o.1 = m.1 ∧ RNo o.2 k t w s m.2.2 m.2.1 ∧ Fr m.2.2 n := by
  by_cases hi : bw i1 0 6 = 0
  · apply mk2
    · unfold fX8_set
      rcases bw_hi hi with c | ⟨c, c2⟩
      · rw [if_pos c]
      · rw [if_neg c, if_neg (Int32.not_le.mpr c2)]
    · unfold fX9_set
      rw [q_bw, Option.bind_some, if_pos hi]
    · exact ⟨rfl, ⟨L, h⟩, Fr.rf⟩
  obtain ⟨j, hj, rfl⟩ := bw_of (n := 6) rfl hi
  have hc6 : nI j ≤ 6 := nI_le (b := 6) (by omega) (by decide)
  by_cases hv : sbl j i2 = 0
  · apply mk2
    · unfold fX8_set
      rw [if_neg (nI_pos (by omega)), if_pos hc6, p_isSet j (by omega), Option.bind_some, if_pos hv, if_pos rfl]
    · exact q_setN j (by omega) i2 hv im be bg tx ta fa cl A9 n
    · exact ⟨rfl, ⟨L, h⟩, Fr.rf⟩
  · apply mk2
    · unfold fX8_set
      rw [if_neg (nI_pos (by omega)), if_pos hc6, p_isSet j (by omega), Option.bind_some, if_neg hv, if_neg (by decide), p_valueOf j (by omega), Option.bind_some, p_pbh j (by omega), Option.bind_some]
    · exact q_setY j (by omega) i2 hv im be bg tx ta fa cl A9 n
    · exact ⟨h.1.1 j (by omega), ⟨L, h.put j (by omega) i2 hv⟩, fun i hi => by show upd n j i2 i = n i; rw [upd_at, if_neg (by omega)]⟩
theorem A_told {L : List Pu} {b : Nat → Int32} {k : Int32} {t w s n : Nat → Int32} (h : RBal L b k t w s n) (i1 ik im be bg tx ta fa cl : Int32) (se : Int64) (kT : Int32) (hT : n 12 = kT) :
    ∃ r, fX8_told i1 ik b se 1 kT k = some r ∧ fX9_told i1 im be bg tx ta fa cl n = some r := by
  by_cases hi : bw i1 0 12 = 0
  · refine ⟨-1000, ?_, ?_⟩
    · unfold fX8_told
      rcases bw_hi hi with c | ⟨c, c2⟩
      · rw [if_pos c]
      · rw [if_neg c, if_neg (Int32.not_le.mpr c2)]
    · unfold fX9_told
      rw [q_bw, Option.bind_some, if_pos hi]
  have hi' := hi
  obtain ⟨j, hj, rfl⟩ := bw_of (n := 12) rfl hi
  refine ⟨n j, ?_, ?_⟩
  · unfold fX8_told
    rw [if_neg (nI_pos (by omega)), if_pos (show nI j ≤ 12 from nI_le (b := 12) (by omega) (by decide))]
    by_cases c : j = 12
    · subst c
      rw [if_pos (show nI 12 = 12 from rfl), hT]
    · have cn : ¬ nI j = 12 := by
        rw [show (12 : Int32) = nI 12 from rfl, nI_eq (by omega) (by decide)]; exact c
      rw [if_neg cn]
      by_cases c11 : j = 11
      · subst c11
        rw [show fX0_valueOf (nI 11) b se 1 k = some k from rfl, Option.bind_some, h.2.2.1.1, srt_len, h.2.1.1]
      · rw [p_valueOf j (by omega), Option.bind_some, h.1 j (by omega)]
  · unfold fX9_told
    rw [q_bw, Option.bind_some, if_neg hi', gd_t (inb_nI (by omega) (by decide)), nI_clamp (by omega)]
/-! one push more -/
theorem insP_split (p : Pu) : ∀ (l1 : List Pu) {l2 : List Pu}, (∀ q ∈ l1, ¬ p.1 < q.1) → (∀ q ∈ l2, p.1 < q.1) → insP p (l1 ++ l2) = l1 ++ p :: l2 := by
  intro l1
  induction l1 with
  | nil =>
    intro l2 _ h2
    cases l2 with
    | nil => rfl
    | cons a l => show insP p (a :: l) = _; unfold insP; rw [if_pos (h2 a List.mem_cons_self)]; rfl
  | cons a l ih =>
    intro l2 h1 h2
    show insP p (a :: (l ++ l2)) = _
    unfold insP
    rw [if_neg (h1 a List.mem_cons_self), ih (fun q hq => h1 q (List.mem_cons_of_mem _ hq)) h2]; rfl
def At3 (i : Nat) (q : Pu) (t w s : Nat → Int32) : Prop := t i = q.1 ∧ w i = q.2.1 ∧ s i = q.2.2
theorem p_add95 (p : Pu) {P : List Pu} (h8 : P.length < 8) (j : Nat) (s t w : Nat → Int32) (hj : j ≤ P.length) (h1 : ∀ i q, P[i]? = some q → i < j → At3 i q t w s) (h2 : ∀ i q, P[i]? = some q → j ≤ i → At3 (i + 1) q t w s) (h3 : ∀ q ∈ P.drop j, p.1 < q.1) (h4 : ∀ q ∈ P.take j, ¬ p.1 < q.1) :
    ∃ o, fX2_add_95 p.1 p.2.1 p.2.2 (nI j) (nI P.length) s t w = some o ∧ RP (insP p P) o.1 o.2.2.1 o.2.2.2 o.2.1 := by
  have hin : inb (nI j) 8 = true := inb_nI (by omega) (by decide)
  have hsp : insP p P = P.take j ++ p :: P.drop j := by
    have e := insP_split p (P.take j) h4 h3
    rw [List.take_append_drop] at e
    exact e
  refine ⟨(nI (P.length + 1), upd s j p.2.2, upd t j p.1, upd w j p.2.1), ?_, ?_, ?_, ?_⟩
  · unfold fX2_add_95
    simp only [gd_t hin, lt_eq]
    rw [nI_clamp (by omega), nI_1]
  · rw [insP_len]
  · rw [insP_len]; omega
  · intro i q hq
    rw [hsp] at hq
    have hlt : (P.take j).length = j := by rw [List.length_take]; omega
    show upd t j p.1 i = q.1 ∧ upd w j p.2.1 i = q.2.1 ∧ upd s j p.2.2 i = q.2.2
    simp only [upd_at]
    by_cases c : i < j
    · rw [List.getElem?_append_left (by omega), List.getElem?_take, if_pos c] at hq
      rw [if_neg (by omega), if_neg (by omega), if_neg (by omega)]
      exact h1 i q hq c
    · rw [List.getElem?_append_right (by omega), hlt] at hq
      by_cases c2 : i = j
      · subst c2
        rw [Nat.sub_self] at hq
        cases hq
        rw [if_pos rfl, if_pos rfl, if_pos rfl]; exact ⟨rfl, rfl, rfl⟩
      · obtain ⟨d, hd⟩ : ∃ d, i = j + 1 + d := ⟨i - j - 1, by omega⟩
        subst hd
        rw [show j + 1 + d - j = d + 1 by omega, List.getElem?_cons_succ, List.getElem?_drop] at hq
        rw [if_neg (by omega), if_neg (by omega), if_neg (by omega)]
        have := h2 (j + d) q hq (by omega)
        rw [show j + d + 1 = j + 1 + d by omega] at this
        exact this
theorem p_add23 (p : Pu) {P : List Pu} (hs : Srd P) (h8 : P.length < 8) : ∀ (j fu : Nat) (s t w : Nat → Int32), j ≤ P.length → j < fu → (∀ i q, P[i]? = some q → i < j → At3 i q t w s) → (∀ i q, P[i]? = some q → j ≤ i → At3 (i + 1) q t w s) → (∀ q ∈ P.drop j, p.1 < q.1) →
    ∃ o, fX2_add_23 p.1 p.2.1 p.2.2 fu (nI j) (nI P.length) s t w = some o ∧ RP (insP p P) o.1 o.2.2.1 o.2.2.2 o.2.1 := by
  intro j
  induction j with
  | zero =>
    intro fu s t w hj hf h1 h2 h3
    obtain ⟨f, rfl⟩ : ∃ f, fu = f + 1 := ⟨fu - 1, by omega⟩
    rw [fX2_add_23, if_pos (by decide)]
    exact p_add95 p h8 0 s t w hj h1 h2 h3 (fun q hq => by simp at hq)
  | succ j ih =>
    intro fu s t w hj hf h1 h2 h3
    obtain ⟨f, rfl⟩ : ∃ f, fu = f + 1 := ⟨fu - 1, by omega⟩
    have hj0 : ¬ nI (j + 1) ≤ 0 := nI_nle (by omega) (by omega)
    have hin : inb (nI j) 8 = true := inb_nI (by omega) (by decide)
    have hin1 : inb (nI (j + 1)) 8 = true := inb_nI (by omega) (by decide)
    have hq : P[j]? = some P[j] := List.getElem?_eq_getElem (by omega)
    obtain ⟨a1, a2, a3⟩ := h1 j _ hq (by omega)
    rw [fX2_add_23, if_neg hj0, nI_pred, gd_t hin, nI_clamp (by omega)]
    by_cases c : t j ≤ p.1
    · rw [if_pos c]
      refine p_add95 p h8 (j + 1) s t w hj h1 h2 h3 (fun q hm hlt => ?_)
      obtain ⟨i, hi⟩ := List.getElem?_of_mem hm
      rw [List.getElem?_take] at hi
      split at hi
      · next ci =>
        rw [a1] at c
        have c := i_le.mp c
        have hlt := i_lt.mp hlt
        by_cases cij : i = j
        · subst cij
          rw [hq] at hi
          cases hi
          omega
        · have hl := (List.getElem?_eq_some_iff.mp hi)
          have := List.pairwise_iff_getElem.mp hs i j hl.1 (by omega) (by omega)
          rw [hl.2] at this
          have := i_le.mp this
          omega
      · cases hi
    · rw [if_neg c, gd_t hin, gd_t hin1]
      simp only [lt_eq]
      rw [gd_t hin, gd_t hin1, gd_t hin, gd_t hin1, nI_clamp (by omega), pk_m1]
      refine ih f _ _ _ (by omega) (by omega) (fun i q hi hij => ?_) (fun i q hi hij => ?_) (fun q hm => ?_)
      · have := h1 i q hi (by omega)
        unfold At3 at this ⊢
        simp only [upd_at]
        rw [if_neg (by omega), if_neg (by omega), if_neg (by omega)]
        exact this
      · unfold At3
        simp only [upd_at]
        by_cases cij : i = j
        · subst cij
          rw [hq] at hi
          cases hi
          rw [if_pos rfl, if_pos rfl, if_pos rfl]
          exact ⟨a1, a2, a3⟩
        · rw [if_neg (by omega), if_neg (by omega), if_neg (by omega)]
          exact h2 i q hi (by omega)
      · rw [List.drop_eq_getElem_cons (by omega)] at hm
        rcases List.mem_cons.mp hm with e | hm
        · rw [e, ← a1]; exact Int32.not_le.mp c
        · exact h3 q hm
theorem p_add (p : Pu) {P : List Pu} (hs : Srd P) (h8 : P.length < 8) {k : Int32} {t w s : Nat → Int32} (h : RP P k t w s) : ∃ o, fX2_add p.1 p.2.1 p.2.2 k s t w = some o ∧ RP (insP p P) o.1 o.2.2.1 o.2.2.2 o.2.1 := by
  obtain ⟨e, h8', hP⟩ := h
  unfold fX2_add
  rw [e, if_neg (nI_pos (by omega)), if_pos (show nI P.length < 8 from nI_lt (b := 8) (by omega) (by decide))]
  refine p_add23 p hs h8 P.length 500 s t w (Nat.le_refl _) (by omega) (fun i q hq _ => hP i q hq) (fun i q hq hi => ?_) (fun q hq => by simp at hq)
  have := (List.getElem?_eq_some_iff.mp hq).1
  omega
