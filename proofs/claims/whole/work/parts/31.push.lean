/-! PUSHES: as lists -/
abbrev Pu : Type := Int32 × Int32 × Int32
/-- what one PUSH does to the numbers -/
def dp (v : Nat → Int32) (q : Pu) : Nat → Int32 :=
  if q.2.1 = 0 then upd v 1 (v 1 + q.2.2)
  else if q.2.1 = 1 then upd v 5 (if 0 < (if v 5 + q.2.2 < 60 then v 5 + q.2.2 else 60) then (if v 5 + q.2.2 < 60 then v 5 + q.2.2 else 60) else 0)
  else if q.2.1 = 2 then upd v 4 q.2.2
  else if q.2.1 = 3 then upd v 3 q.2.2 else v
theorem dp_at (v : Nat → Int32) (q : Pu) (j : Nat) (h1 : j ≠ 1) (h3 : j ≠ 3) (h4 : j ≠ 4) (h5 : j ≠ 5) : dp v q j = v j := by
  unfold dp
  split
  · simp [upd_at, h1]
  · split
    · simp [upd_at, h5]
    · split
      · simp [upd_at, h4]
      · split
        · simp [upd_at, h3]
        · rfl
def dps (v : Nat → Int32) (l : List Pu) : Nat → Int32 := l.foldl dp v
theorem dps_at (l : List Pu) : ∀ (v : Nat → Int32) (j : Nat) (h1 : j ≠ 1) (h3 : j ≠ 3) (h4 : j ≠ 4) (h5 : j ≠ 5), dps v l j = v j := by
  induction l with
  | nil => intros; rfl
  | cons q l ih =>
    intro v j h1 h3 h4 h5
    show dps (dp v q) l j = v j
    rw [ih _ _ h1 h3 h4 h5, dp_at _ _ _ h1 h3 h4 h5]
/-- the class's row of pushes is P -/
def RP (P : List Pu) (k : Int32) (t w s : Nat → Int32) : Prop := k = nI P.length ∧ P.length ≤ 8 ∧ ∀ (i : Nat) (q : Pu), P[i]? = some q → t i = q.1 ∧ w i = q.2.1 ∧ s i = q.2.2
theorem inb_nI {i N : Nat} (h : i < N) (hN : N < 2 ^ 31) : inb (nI i) N = true := in_inb (nI_pos (by omega)) (by rw [nI_clamp (by omega)]; exact h)
theorem p_doPush (q : Pu) (b : Nat → Int32) (se : Int64) (z : Int32) : fX0_doPush q.2.1 q.2.2 b se z = some (dp b q) := by
  unfold fX0_doPush dp
  simp only [lt_eq]
  split
  · rfl
  · split
    · rfl
    · split
      · rfl
      · split <;> rfl
/-- the first m are taken out: the loop -/
theorem p_rf16 (m : Nat) (hm : 1 ≤ m) (K : Nat) (hK : K ≤ 8) : ∀ (r j fu : Nat) (s t w : Nat → Int32), j + r = K → m ≤ j → r < fu →
    ∃ s2 t2 w2, fX2_removeFirst_16 (nI m) fu (nI j) (nI K) s t w = some (nI K - nI m, s2, t2, w2) ∧
      (∀ i, t2 i = if j - m ≤ i ∧ i < K - m then t (i + m) else t i) ∧ (∀ i, w2 i = if j - m ≤ i ∧ i < K - m then w (i + m) else w i) ∧ (∀ i, s2 i = if j - m ≤ i ∧ i < K - m then s (i + m) else s i) := by
  intro r
  induction r with
  | zero =>
    intro j fu s t w hj hmj hf
    obtain ⟨f, rfl⟩ : ∃ f, fu = f + 1 := ⟨fu - 1, by omega⟩
    have hj0 : j = K := by omega
    subst hj0
    refine ⟨s, t, w, ?_, ?_, ?_, ?_⟩
    · rw [fX2_removeFirst_16, if_pos (nI_le (Nat.le_refl j) (by omega))]; rfl
    all_goals (intro i; rw [if_neg (by omega)])
  | succ r ih =>
    intro j fu s t w hj hmj hf
    obtain ⟨f, rfl⟩ : ∃ f, fu = f + 1 := ⟨fu - 1, by omega⟩
    obtain ⟨s2, t2, w2, h1, ht, hw, hs⟩ := ih (j + 1) f (upd s (j - m) (s j)) (upd t (j - m) (t j)) (upd w (j - m) (w j)) (by omega) (by omega) (by omega)
    refine ⟨s2, t2, w2, ?_, ?_, ?_, ?_⟩
    · have hi1 : inb (nI j) 8 = true := inb_nI (by omega) (by decide)
      have hi2 : inb (nI j - nI m) 8 = true := by rw [pk_sub hmj]; exact inb_nI (by omega) (by decide)
      rw [fX2_removeFirst_16, if_neg (nI_ge (by omega) (by omega)), if_neg (show ¬ (8 : Int32) ≤ nI j from nI_ge (b := 8) (by omega) (by decide)), gd_t hi1, gd_t hi2]
      simp only [lt_eq]
      rw [gd_t hi1, gd_t hi2, gd_t hi1, gd_t hi2, pk_sub hmj, nI_clamp (by omega), nI_clamp (by omega), nI_1]
      exact h1
    · intro i
      rw [ht i]
      by_cases c : i = j - m
      · subst c
        rw [if_neg (by omega), if_pos (by omega), upd_at, if_pos rfl, Nat.sub_add_cancel hmj]
      · by_cases c2 : j + 1 - m ≤ i ∧ i < K - m
        · rw [if_pos c2, if_pos (by omega), upd_at, if_neg (by omega)]
        · rw [if_neg c2, if_neg (by omega), upd_at, if_neg c]
    · intro i
      rw [hw i]
      by_cases c : i = j - m
      · subst c
        rw [if_neg (by omega), if_pos (by omega), upd_at, if_pos rfl, Nat.sub_add_cancel hmj]
      · by_cases c2 : j + 1 - m ≤ i ∧ i < K - m
        · rw [if_pos c2, if_pos (by omega), upd_at, if_neg (by omega)]
        · rw [if_neg c2, if_neg (by omega), upd_at, if_neg c]
    · intro i
      rw [hs i]
      by_cases c : i = j - m
      · subst c
        rw [if_neg (by omega), if_pos (by omega), upd_at, if_pos rfl, Nat.sub_add_cancel hmj]
      · by_cases c2 : j + 1 - m ≤ i ∧ i < K - m
        · rw [if_pos c2, if_pos (by omega), upd_at, if_neg (by omega)]
        · rw [if_neg c2, if_neg (by omega), upd_at, if_neg c]
theorem p_rf {P : List Pu} {k : Int32} {t w s : Nat → Int32} (h : RP P k t w s) (m : Nat) (hm : m ≤ P.length) : ∃ o, fX2_removeFirst (nI m) k s t w = some o ∧ RP (P.drop m) o.1 o.2.2.1 o.2.2.2 o.2.1 := by
  obtain ⟨hk, h8, hP⟩ := h
  subst hk
  by_cases h0 : m = 0
  · subst h0
    refine ⟨(nI P.length, s, t, w), ?_, ?_⟩
    · unfold fX2_removeFirst
      rw [if_pos (by decide)]
    · exact ⟨by simp, by simpa using h8, by simpa using hP⟩
  · obtain ⟨s2, t2, w2, h1, ht, hw, hs⟩ := p_rf16 m (by omega) P.length h8 (P.length - m) m 500 s t w (by omega) (Nat.le_refl m) (by omega)
    refine ⟨(nI P.length - nI m, s2, t2, w2), ?_, ?_, ?_, ?_⟩
    · unfold fX2_removeFirst
      rw [if_neg (show ¬ nI m < 1 from nI_nlt (a := m) (b := 1) (by omega) (by omega)), if_pos (nI_le hm (by omega))]
      exact h1
    · show nI P.length - nI m = _
      rw [pk_sub hm, List.length_drop]
    · rw [List.length_drop]; omega
    · intro i q hq
      rw [List.getElem?_drop] at hq
      have hlt : m + i < P.length := (List.getElem?_eq_some_iff.mp hq).1
      have hq2 := hP (m + i) q hq
      show t2 i = _ ∧ w2 i = _ ∧ s2 i = _
      rw [ht, hw, hs, if_pos (by omega), if_pos (by omega), if_pos (by omega), Nat.add_comm i m]
      exact hq2
/-- PUSHES that are due are done, the others stay -/
theorem p_bp2 (se : Int64) (z : Int32) {P : List Pu} {k : Int32} {t w s : Nat → Int32} (h : RP P k t w s) : ∀ (Qs : List Pu) (i fu : Nat) (b : Nat → Int32), P.drop i = Qs → i ≤ P.length → Qs.length < fu →
    ∃ o, fX0_bePushed_2 se z fu (nI i) b k s t w = some (dps b (Qs.takeWhile (fun q => decide (q.1 = b 8))), o) ∧ RP (Qs.dropWhile (fun q => decide (q.1 = b 8))) o.1 o.2.2.1 o.2.2.2 o.2.1 := by
  intro Qs
  induction Qs with
  | nil =>
    intro i fu b hd hi hf
    obtain ⟨f, rfl⟩ : ∃ f, fu = f + 1 := ⟨fu - 1, by simp at hf; omega⟩
    have hil : i = P.length := by
      have := congrArg List.length hd
      simp at this
      omega
    obtain ⟨o, h1, h2⟩ := p_rf h i hi
    refine ⟨o, ?_, ?_⟩
    · rw [fX0_bePushed_2, if_pos (by rw [h.1, hil]; exact nI_le (Nat.le_refl _) (by have := h.2.1; omega)), h1]
      rfl
    · rw [hd] at h2
      exact h2
  | cons q Qs ih =>
    intro i fu b hd hi hf
    obtain ⟨f, rfl⟩ : ∃ f, fu = f + 1 := ⟨fu - 1, by simp at hf; omega⟩
    have h8 := h.2.1
    have hlt : i < P.length := by
      have := congrArg List.length hd
      simp at this
      omega
    have hPi : P[i]? = some q := by
      have := congrArg (fun l => l[0]?) hd
      simpa [List.getElem?_drop] using this
    obtain ⟨et, ew, es⟩ := h.2.2 i q hPi
    have hi8 : inb (nI i) 8 = true := inb_nI (by omega) (by decide)
    have hcl : (nI i).toNatClampNeg = i := nI_clamp (by omega)
    by_cases hc : q.1 = b 8
    · have hd' : P.drop (i + 1) = Qs := by
        rw [← List.drop_drop, hd]; rfl
      obtain ⟨o, h1, h2⟩ := ih (i + 1) f (dp b q) hd' (by omega) (by simp at hf; omega)
      have h8b : dp b q 8 = b 8 := dp_at _ _ _ (by decide) (by decide) (by decide) (by decide)
      rw [h8b] at h1 h2
      refine ⟨o, ?_, ?_⟩
      · rw [fX0_bePushed_2, if_neg (by rw [h.1]; exact nI_ge hlt (by omega)), if_neg (show ¬ (8 : Int32) ≤ nI i from nI_ge (b := 8) (by omega) (by decide)), gd_t hi8, hcl, et, if_pos hc, gd_t hi8, gd_t hi8, ew, es, p_doPush]
        rw [Option.bind_some, lt_eq, nI_1, h1, List.takeWhile_cons, if_pos (by simpa using hc)]
        rfl
      · rw [List.dropWhile_cons, if_pos (by simpa using hc)]
        exact h2
    · obtain ⟨o, h1, h2⟩ := p_rf h i hi
      refine ⟨o, ?_, ?_⟩
      · rw [fX0_bePushed_2, if_neg (by rw [h.1]; exact nI_ge hlt (by omega)), if_neg (show ¬ (8 : Int32) ≤ nI i from nI_ge (b := 8) (by omega) (by decide)), gd_t hi8, hcl, et, if_neg hc, h1]
        rw [Option.bind_some, List.takeWhile_cons, if_neg (by simpa using hc)]
        rfl
      · rw [List.dropWhile_cons, if_neg (by simpa using hc), ← hd]
        exact h2
theorem p_bp (b : Nat → Int32) (se : Int64) (z : Int32) {P : List Pu} {k : Int32} {t w s : Nat → Int32} (h : RP P k t w s) :
    ∃ o, fX0_bePushed b se z k s t w = some (dps b (P.takeWhile (fun q => decide (q.1 = b 8))), o) ∧ RP (P.dropWhile (fun q => decide (q.1 = b 8))) o.1 o.2.2.1 o.2.2.2 o.2.1 :=
  p_bp2 se z h P 0 500 b rfl (Nat.zero_le _) (by have := h.2.1; omega)
