/-! PUSH, PUSHOF -/
theorem q_push71 (i1 i2 i3 im be bg tx ta fa cl y0 y1 : Int32) {L : List Pu} {n : Nat → Int32} (h : RM L n) : 
    (bw i3 y1 y0 = 0 → fX9_push_71 i1 i2 i3 im be bg tx ta fa cl y0 y1 i3 n = some (-2, n)) ∧
    (¬ bw i3 y1 y0 = 0 → L.length = 8 → fX9_push_71 i1 i2 i3 im be bg tx ta fa cl y0 y1 i3 n = some (-4, n)) ∧
    (¬ bw i3 y1 y0 = 0 → L.length < 8 → fX9_push_71 i1 i2 i3 im be bg tx ta fa cl y0 y1 i3 n = some (nI (L.length + 1), upd (upd (upd (upd n (15 + 3 * L.length) i1) (16 + 3 * L.length) i2) (17 + 3 * L.length) i3) 11 (nI (L.length + 1)))) := by
  have h8 := h.2.1
  have m3 : (15 : Int32) + 3 * nI L.length = nI (15 + 3 * L.length) := by
    rw [show (3 : Int32) = nI 3 from rfl, pk_mul, show (15 : Int32) = nI 15 from rfl, nI_add]
  refine ⟨fun hb => ?_, fun hb hl => ?_, fun hb hl => ?_⟩
  · unfold fX9_push_71
    rw [q_bw, Option.bind_some, if_pos hb]
  · unfold fX9_push_71
    rw [q_bw, Option.bind_some, if_neg hb, h.1, if_pos (by rw [hl]; rfl)]
  · have e1 : nI (15 + 3 * L.length) + 1 = nI (16 + 3 * L.length) := by rw [nI_1]; congr 1; omega
    have e2 : nI (15 + 3 * L.length) + 2 = nI (17 + 3 * L.length) := by rw [show (2 : Int32) = nI 2 from rfl, nI_add]; congr 1; omega
    unfold fX9_push_71
    simp only [lt_eq]
    rw [q_bw, Option.bind_some, if_neg hb, h.1, if_neg (show ¬ nI L.length = 8 by rw [show (8 : Int32) = nI 8 from rfl, nI_eq (by omega) (by decide)]; omega), m3, gd_t (inb_nI (by omega) (by decide)), e1, gd_t (inb_nI (by omega) (by decide)), e2, gd_t (inb_nI (by omega) (by decide)), nI_clamp (by omega), nI_clamp (by omega), nI_clamp (by omega)]
    have e11 : upd (upd (upd n (15 + 3 * L.length) i1) (16 + 3 * L.length) i2) (17 + 3 * L.length) i3 11 = nI L.length := by
      simp only [upd_at]
      rw [if_neg (by omega), if_neg (by omega), if_neg (by omega), h.1]
    rw [e11, nI_1]
def pbl (j : Nat) (v : Int32) : Int32 := bw v (tbPLeast j) (tbPMost j)
theorem p_isPush (j : Nat) (hj : j < 4) (v : Int32) : fX8_isPushable (nI j) v = some (if pbl j v = 0 then 0 else 1) := by
  unfold fX8_isPushable pbl
  rw [if_neg (nI_pos (by omega)), if_neg (show ¬ (4 : Int32) ≤ nI j from nI_ge (b := 4) (by omega) (by decide)), if_neg (show ¬ (4 : Int32) ≤ nI j from nI_ge (b := 4) (by omega) (by decide)), gd_t (inb_nI (by omega) (by decide)), gd_t (inb_nI (by omega) (by decide)), nI_clamp (by omega), p_bw, Option.bind_some]
  split <;> rfl
theorem RN.push {L : List Pu} {b : Nat → Int32} {se : Int64} {A : Nat → Int64} {k : Int32} {t w s n : Nat → Int32} {A9 : Nat → Int64} (h : RN L b se A k t w s n A9) (i1 : Int32) (j : Nat) (hj : j < 4) (i3 : Int32) (hc : n 8 ≤ i1) (hv : ¬ pbl j i3 = 0) (h8 : L.length < 8) {k2 : Int32} {t2 w2 s2 : Nat → Int32} (hP : RP (insP (i1, nI j, i3) (srt L)) k2 t2 w2 s2) :
    RN (L ++ [(i1, nI j, i3)]) b se A k2 t2 w2 s2 (upd (upd (upd (upd n (15 + 3 * L.length) i1) (16 + 3 * L.length) (nI j)) (17 + 3 * L.length) i3) 11 (nI (L.length + 1))) A9 := by
  obtain ⟨⟨h1, ⟨h2, h3, h4⟩, h5, h6, h7, h9⟩, hse, hA, hB, hp⟩ := h
  generalize hm : upd (upd (upd (upd n (15 + 3 * L.length) i1) (16 + 3 * L.length) (nI j)) (17 + 3 * L.length) i3) 11 (nI (L.length + 1)) = m
  have e : ∀ i, i < 11 ∨ (11 < i ∧ i < 15 + 3 * L.length) → m i = n i := fun i hi => by
    rw [← hm]
    simp only [upd_at]
    rw [if_neg (by omega), if_neg (by omega), if_neg (by omega), if_neg (by omega)]
  have hag : Ag 11 m n := fun i hi => e i (by omega)
  refine ⟨⟨fun i hi => (h1 i hi).trans (hag i hi).symm, ⟨?_, ?_, fun i q hq => ?_⟩, by rw [srt_snoc]; exact hP, fun q hq => ?_, by rw [e 7 (by omega)]; exact h7, by rw [e 6 (by omega)]; exact h9⟩, by rw [hse]; exact (Ag_En (Nat.le_refl _) hag).symm, hA, hB.e hag, fun q hq => ?_⟩
  · rw [← hm, upd_at, if_pos rfl, List.length_append]; rfl
  · rw [List.length_append]; show L.length + 1 ≤ 8; omega
  · by_cases c : i < L.length
    · rw [List.getElem?_append_left c] at hq
      have := h4 i q hq
      unfold P3 at this ⊢
      rw [e _ (by omega), e _ (by omega), e _ (by omega)]
      exact this
    · rw [List.getElem?_append_right (by omega)] at hq
      have hz : i - L.length < 1 := (List.getElem?_eq_some_iff.mp hq).1
      have hi : i = L.length := by omega
      subst hi
      rw [Nat.sub_self] at hq
      cases hq
      rw [← hm]
      unfold P3
      simp only [upd_at]
      refine ⟨?_, ?_, ?_⟩
      · rw [if_neg (by omega), if_neg (by omega), if_neg (by omega), if_pos trivial]
      · rw [if_neg (by omega), if_neg (by omega), if_pos trivial]
      · rw [if_neg (by omega), if_pos trivial]
  · rw [e 8 (by omega)]
    rcases List.mem_append.mp hq with hq | hq
    · exact h6 q hq
    · rw [List.mem_singleton.mp hq]
      refine ⟨?_, hc⟩
      have : j = 0 ∨ j = 1 ∨ j = 2 ∨ j = 3 := by omega
      unfold whok
      rcases this with rfl | rfl | rfl | rfl
      · exact Or.inl rfl
      · exact Or.inr (Or.inl rfl)
      · exact Or.inr (Or.inr (Or.inl rfl))
      · exact Or.inr (Or.inr (Or.inr rfl))
  · rcases List.mem_append.mp hq with hq | hq
    · exact hp q hq
    · rw [List.mem_singleton.mp hq]
      have hrg := bw_rg hv
      refine ⟨fun c => ?_, fun c => ?_⟩
      · have cj : j = 2 := by
          have c : nI j = nI 2 := c
          exact (nI_eq (by omega) (by decide)).mp c
        subst cj
        exact hrg
      · have cj : j = 3 := by
          have c : nI j = nI 3 := c
          exact (nI_eq (by omega) (by decide)).mp c
        subst cj
        exact hrg
theorem A_push {L : List Pu} {b : Nat → Int32} {se : Int64} {A : Nat → Int64} {k : Int32} {t w s n : Nat → Int32} {A9 : Nat → Int64} (h : RN L b se A k t w s n A9) (i1 i2 i3 ik im be bg tx ta fa cl : Int32) :
    ∃ o m, fX8_push i1 i2 i3 ik b se 1 k s t w = some o ∧ fX9_push i1 i2 i3 im be bg tx ta fa cl n = some m ∧ o.1 = m.1 ∧ (∃ L2, RN L2 b se A o.2.1 o.2.2.2.1 o.2.2.2.2 o.2.2.1 m.2 A9) ∧ Fr m.2 n := by
  have hb8 : b 8 = n 8 := h.1.1 8 (by decide)
  by_cases hi : bw i2 0 3 = 0
  · apply mk2
    · unfold fX8_push
      rcases bw_hi hi with c | ⟨c, c2⟩
      · rw [if_pos c]
      · rw [if_neg c, if_neg (Int32.not_le.mpr c2)]
    · unfold fX9_push
      rw [q_bw, Option.bind_some, if_pos hi]
    · exact ⟨rfl, ⟨L, h⟩, Fr.rf⟩
  have hi' := hi
  obtain ⟨j, hj, rfl⟩ := bw_of (n := 3) rfl hi
  have hc3 : nI j ≤ 3 := nI_le (b := 3) (by omega) (by decide)
  by_cases ht : bw i1 (n 8) 99999 = 0
  · apply mk2
    · unfold fX8_push
      rw [if_neg (nI_pos (by omega)), if_pos hc3, p_bw, Option.bind_some, hb8, if_pos ht]
    · unfold fX9_push
      rw [q_bw, Option.bind_some, if_neg hi', q_bw, Option.bind_some, if_pos ht]
    · exact ⟨rfl, ⟨L, h⟩, Fr.rf⟩
  have hm9 : fX9_push i1 (nI j) i3 im be bg tx ta fa cl n = fX9_push_71 i1 (nI j) i3 im be bg tx ta fa cl (tbPMost j) (tbPLeast j) i3 n := by
    unfold fX9_push
    rw [q_bw, Option.bind_some, if_neg hi', q_bw, Option.bind_some, if_neg ht]
    have : j = 0 ∨ j = 1 ∨ j = 2 ∨ j = 3 := by omega
    rcases this with rfl | rfl | rfl | rfl
    · rfl
    · rfl
    · rfl
    · rfl
  obtain ⟨g1, g2, g3⟩ := q_push71 i1 (nI j) i3 im be bg tx ta fa cl (tbPMost j) (tbPLeast j) h.1.2.1
  by_cases hv : pbl j i3 = 0
  · apply mk2
    · unfold fX8_push
      rw [if_neg (nI_pos (by omega)), if_pos hc3, p_bw, Option.bind_some, hb8, if_neg ht, p_isPush j (by omega), Option.bind_some, if_pos hv, if_pos rfl]
    · rw [hm9]; exact g1 hv
    · exact ⟨rfl, ⟨L, h⟩, Fr.rf⟩
  have hk : k = nI L.length := by rw [h.1.2.2.1.1, srt_len]
  have hL8 := h.1.2.1.2.1
  by_cases hl : L.length = 8
  · apply mk2
    · unfold fX8_push
      rw [if_neg (nI_pos (by omega)), if_pos hc3, p_bw, Option.bind_some, hb8, if_neg ht, p_isPush j (by omega), Option.bind_some, if_neg hv, if_neg (by decide), if_neg (show ¬ k < 8 by rw [hk, hl]; decide)]
    · rw [hm9]; exact g2 hv hl
    · exact ⟨rfl, ⟨L, h⟩, Fr.rf⟩
  · obtain ⟨o, ho, hP⟩ := p_add (i1, nI j, i3) (srt_srd L) (by rw [srt_len]; omega) h.1.2.2.1
    apply mk2
    · unfold fX8_push
      rw [if_neg (nI_pos (by omega)), if_pos hc3, p_bw, Option.bind_some, hb8, if_neg ht, p_isPush j (by omega), Option.bind_some, if_neg hv, if_neg (by decide), if_pos (show k < 8 by rw [hk]; exact nI_lt (b := 8) (by omega) (by decide)), ho, Option.bind_some]
    · rw [hm9]; exact g3 hv (by omega)
    · refine ⟨?_, ⟨_, h.push i1 j (by omega) i3 (Int32.not_lt.mp (bw_0 ht).1) hv (by omega) hP⟩, fun i hi => ?_⟩
      · show o.1 = _
        rw [hP.1, insP_len, srt_len]
      · simp only [upd_at]
        rw [if_neg (by omega), if_neg (by omega), if_neg (by omega), if_neg (by omega)]
/-! which push is the k-th by TIME -/
def cle (x : Int32) (l : List Pu) : Nat := l.countP (fun q => !decide (x < q.1))
theorem insP_cle (x : Int32) (p : Pu) : ∀ l, cle x (insP p l) = cle x (p :: l)
  | [] => rfl
  | a :: l => by
    unfold insP
    split
    · rfl
    · have ih := insP_cle x p l
      unfold cle at ih ⊢
      rw [List.countP_cons, ih, List.countP_cons, List.countP_cons, List.countP_cons]
      omega
theorem srt_cle (x : Int32) : ∀ (M : List Pu), cle x (srtR M) = cle x M
  | [] => rfl
  | p :: M => by
    show cle x (insP p (srtR M)) = _
    rw [insP_cle]
    have ih := srt_cle x M
    unfold cle at ih ⊢
    rw [List.countP_cons, List.countP_cons, ih]
theorem i_lt_le {a b c : Int32} (h : a < b) (h2 : b ≤ c) : a < c := by
  have h := i_lt.mp h
  have h2 := i_le.mp h2
  rw [i_lt]
  omega
theorem cle_0 {x : Int32} {l : List Pu} (h : ∀ q ∈ l, x < q.1) : cle x l = 0 := by
  unfold cle
  rw [List.countP_eq_zero]
  intro q hq
  simp [h q hq]
theorem insP_at (p : Pu) : ∀ (l : List Pu), Srd l → (insP p l)[cle p.1 l]? = some p ∧ ∀ (r : Nat) (q : Pu), l[r]? = some q → (insP p l)[r + (if p.1 < q.1 then 1 else 0)]? = some q ∧ (r < cle p.1 l ↔ ¬ p.1 < q.1)
  | [], _ => ⟨rfl, fun r q h => by simp at h⟩
  | a :: l, hs => by
    obtain ⟨hs1, hs2⟩ := List.pairwise_cons.mp hs
    by_cases c : p.1 < a.1
    · have hall : ∀ q ∈ a :: l, p.1 < q.1 := fun q hq => by
        rcases List.mem_cons.mp hq with e | hq
        · rw [e]; exact c
        · exact i_lt_le c (hs1 q hq)
      have h0 := cle_0 hall
      have e : insP p (a :: l) = p :: a :: l := by unfold insP; rw [if_pos c]
      rw [h0, e]
      refine ⟨rfl, fun r q hq => ?_⟩
      have hl := hall q (List.mem_of_getElem? hq)
      rw [if_pos hl]
      exact ⟨hq, by simp [hl]⟩
    · have e : insP p (a :: l) = a :: insP p l := by
        show (if p.1 < a.1 then _ else _) = _
        rw [if_neg c]
      obtain ⟨i1, i2⟩ := insP_at p l hs2
      have hc : cle p.1 (a :: l) = cle p.1 l + 1 := by
        unfold cle
        rw [List.countP_cons]
        simp [c]
      rw [hc, e]
      refine ⟨i1, fun r q hq => ?_⟩
      cases r with
      | zero =>
        cases hq
        rw [if_neg c]
        exact ⟨rfl, by simp [c]⟩
      | succ r =>
        obtain ⟨j1, j2⟩ := i2 r q hq
        refine ⟨?_, ?_⟩
        · rw [show r + 1 + (if p.1 < q.1 then 1 else 0) = (r + (if p.1 < q.1 then 1 else 0)) + 1 by omega]
          exact j1
        · rw [← j2]; omega
/-- how many of the first ones go ahead of the i-th -/
def cnt (f : Nat → Int32) (i : Nat) : Nat → Nat
  | 0 => 0
  | j + 1 => cnt f i j + (if f j < f i ∨ (f j = f i ∧ j < i) then 1 else 0)
def tms (f : Nat → Int32) (L : List Pu) : Prop := ∀ i q, L[i]? = some q → f i = q.1
theorem cnt_last (f : Nat → Int32) (m : Nat) : ∀ (L : List Pu), tms f L → L.length ≤ m → cnt f m L.length = cle (f m) L := by
  intro L
  induction h : L.length generalizing L with
  | zero =>
    intro _ _
    rw [List.length_eq_zero_iff.mp h]; rfl
  | succ d ih =>
    intro hf hm
    have hL : L = L.take d ++ [L[d]] := by
      have e := List.take_append_drop d L
      rw [List.drop_eq_getElem_cons (by omega), List.drop_eq_nil_of_le (by omega)] at e
      exact e.symm
    have hlt : (L.take d).length = d := by rw [List.length_take]; omega
    have i1 := ih (L.take d) hlt (fun i q hq => by
      rw [List.getElem?_take] at hq
      split at hq
      · exact hf i q hq
      · cases hq) (by omega)
    have hd := hf d L[d] (List.getElem?_eq_getElem (by omega))
    rw [cnt, i1, hL]
    unfold cle
    rw [List.countP_append, List.take_append_of_le_length (by omega), List.take_of_length_le (by omega)]
    congr 1
    rw [List.countP_singleton]
    have : (f d < f m ∨ (f d = f m ∧ d < m)) ↔ ¬ f m < L[d].1 := by
      rw [← hd, i_lt, i_lt, i_eq]
      omega
    by_cases c : f m < L[d].1
    · rw [if_neg (fun q => this.mp q c)]
      simp [c]
    · rw [if_pos (this.mpr c)]
      simp [c]
theorem cnt_srt (f : Nat → Int32) : ∀ (M : List Pu), tms f M.reverse → (∀ i q, M.reverse[i]? = some q → (srtR M)[cnt f i M.length]? = some q) ∧ ∀ k, k < M.length → ∃ i, i < M.length ∧ cnt f i M.length = k := by
  intro M
  induction M with
  | nil => intro _; exact ⟨fun i q h => by simp at h, fun k hk => by simp at hk⟩
  | cons p M ih =>
    intro hf
    rw [List.reverse_cons] at hf
    have hf0 : tms f M.reverse := fun i q hq => hf i q (by rw [List.getElem?_append_left (List.getElem?_eq_some_iff.mp hq).1]; exact hq)
    have hlr : M.reverse.length = M.length := List.length_reverse
    have hfp : f M.length = p.1 := hf M.length p (by rw [List.getElem?_append_right (by omega), hlr, Nat.sub_self]; rfl)
    obtain ⟨a1, a2⟩ := ih hf0
    have hcl : cle p.1 (srtR M) = cnt f M.length M.length := by
      rw [srt_cle]
      have := cnt_last f M.length M.reverse hf0 (by omega)
      rw [hlr, hfp] at this
      rw [this]
      unfold cle
      rw [List.countP_reverse]
    obtain ⟨b1, b2⟩ := insP_at p (srtR M) (srtR_srd M)
    have hlast : cnt f M.length (M.length + 1) = cle p.1 (srtR M) := by
      rw [cnt, hcl, if_neg (by rw [i_lt]; omega)]; rfl
    have hoth : ∀ i q, M.reverse[i]? = some q → cnt f i (M.length + 1) = cnt f i M.length + (if p.1 < q.1 then 1 else 0) := fun i q hq => by
      have hl := (List.getElem?_eq_some_iff.mp hq).1
      have e := hf0 i q hq
      rw [cnt, hfp, e]
      congr 1
      by_cases c : p.1 < q.1
      · rw [if_pos (Or.inl c), if_pos c]
      · rw [if_neg (fun g => g.elim c (fun g => by omega)), if_neg c]
    refine ⟨fun i q hq => ?_, fun k hk => ?_⟩
    · rw [List.reverse_cons] at hq
      show (insP p (srtR M))[cnt f i (M.length + 1)]? = some q
      by_cases c : i < M.length
      · rw [List.getElem?_append_left (by omega)] at hq
        rw [hoth i q hq]
        exact (b2 _ q (a1 i q hq)).1
      · rw [List.getElem?_append_right (by omega)] at hq
        have hz : i - M.reverse.length < 1 := (List.getElem?_eq_some_iff.mp hq).1
        have hi : i = M.length := by omega
        subst hi
        rw [hlr, Nat.sub_self] at hq
        cases hq
        rw [hlast]
        exact b1
    · rw [List.length_cons] at hk ⊢
      have hget : ∀ i, i < M.length → ∃ q, M.reverse[i]? = some q := fun i hi => ⟨_, List.getElem?_eq_getElem (by omega)⟩
      have hcle : cle p.1 (srtR M) ≤ M.length := by
        rw [srt_cle]; unfold cle; exact List.countP_le_length
      by_cases c1 : k = cle p.1 (srtR M)
      · exact ⟨M.length, by omega, by rw [hlast, c1]⟩
      · by_cases c2 : k < cle p.1 (srtR M)
        · obtain ⟨i, hi, hk2⟩ := a2 k (by omega)
          obtain ⟨q, hq⟩ := hget i hi
          have hp := a1 i q hq
          rw [hk2] at hp
          have := (b2 k q hp).2.mp c2
          refine ⟨i, by omega, ?_⟩
          rw [hoth i q hq, if_neg this, hk2]; rfl
        · obtain ⟨i, hi, hk2⟩ := a2 (k - 1) (by omega)
          obtain ⟨q, hq⟩ := hget i hi
          have hp := a1 i q hq
          rw [hk2] at hp
          have : p.1 < q.1 := by
            by_cases c3 : p.1 < q.1
            · exact c3
            · have := (b2 (k - 1) q hp).2.mpr c3
              omega
          refine ⟨i, by omega, ?_⟩
          rw [hoth i q hq, if_pos this, hk2]; omega
def sel (w : Nat) (q : Pu) : Int32 := if w = 0 then q.1 else if w = 1 then q.2.1 else q.2.2
theorem q_po49 (i1 i2 im be bg tx ta fa cl : Int32) {L : List Pu} {n : Nat → Int32} (h : RM L n) (h0 : ∀ q ∈ L, 0 ≤ q.1.toInt) (K : Int32 → Option Int32) (i : Nat) (hi : i < L.length) : ∀ (r j fu : Nat), j + r = L.length → r < fu → cnt (fun x => n (15 + 3 * x)) i j ≤ j →
    fX9_pushOf_49 i1 i2 im be bg tx ta fa cl n K fu (nI i) (nI (cnt (fun x => n (15 + 3 * x)) i j)) (nI j) = if nI (cnt (fun x => n (15 + 3 * x)) i L.length) = i1 then gd (inb (nI (15 + 3 * i) + i2) 69) (some (n (nI (15 + 3 * i) + i2).toNatClampNeg)) else K (nI (i + 1)) := by
  have h8 := h.2.1
  have m3 : ∀ x : Nat, (15 : Int32) + 3 * nI x = nI (15 + 3 * x) := fun x => by
    rw [show (3 : Int32) = nI 3 from rfl, pk_mul, show (15 : Int32) = nI 15 from rfl, nI_add]
  have ht : ∀ x, x < L.length → 0 ≤ (n (15 + 3 * x)).toInt := fun x hx => by
    have hq : L[x]? = some L[x] := List.getElem?_eq_getElem hx
    rw [(h.2.2 x _ hq).1]
    exact h0 _ (List.mem_of_getElem? hq)
  intro r
  induction r with
  | zero =>
    intro j fu hj hf hc
    obtain ⟨f, rfl⟩ : ∃ f, fu = f + 1 := ⟨fu - 1, by omega⟩
    have hj2 : j = L.length := by omega
    subst hj2
    rw [fX9_pushOf_49, h.1, if_pos (nI_le (Nat.le_refl _) (by omega)), lt_eq, nI_1, m3]
  | succ r ih =>
    intro j fu hj hf hc
    obtain ⟨f, rfl⟩ : ∃ f, fu = f + 1 := ⟨fu - 1, by omega⟩
    have ih := ih (j + 1) f (by omega) (by omega)
    rw [fX9_pushOf_49, h.1, if_neg (nI_ge (by omega) (by omega)), m3, gd_t (inb_nI (by omega) (by decide)), m3, gd_t (inb_nI (by omega) (by decide)), nI_clamp (by omega), nI_clamp (by omega)]
    simp only [lt_eq, nI_1]
    have hj0 := ht j (by omega)
    have hi0 := ht i hi
    have r1 := i_rng (n (15 + 3 * j))
    have r2 := i_rng (n (15 + 3 * i))
    have hd : (n (15 + 3 * j) - n (15 + 3 * i)).toInt = (n (15 + 3 * j)).toInt - (n (15 + 3 * i)).toInt := i_sub (by omega) (by omega)
    have hcs : cnt (fun x => n (15 + 3 * x)) i (j + 1) = cnt (fun x => n (15 + 3 * x)) i j + (if n (15 + 3 * j) < n (15 + 3 * i) ∨ (n (15 + 3 * j) = n (15 + 3 * i) ∧ j < i) then 1 else 0) := rfl
    by_cases c1 : n (15 + 3 * j) < n (15 + 3 * i)
    · rw [if_pos (Or.inl c1)] at hcs
      have c1' := i_lt.mp c1
      rw [if_pos (by rw [i_lt, hd, c_0]; omega), ← hcs]
      exact ih (by omega)
    · have c1' := i_le.mp (Int32.not_lt.mp c1)
      rw [if_neg (by rw [i_lt, hd, c_0]; omega)]
      by_cases c2 : n (15 + 3 * j) = n (15 + 3 * i)
      · rw [if_pos (by rw [c2, Int32.sub_self])]
        by_cases c3 : i ≤ j
        · rw [if_neg (fun g => g.elim c1 (fun g => by omega))] at hcs
          rw [if_pos (nI_le c3 (by omega)), ← ih (by omega), hcs]; rfl
        · rw [if_pos (Or.inr ⟨c2, by omega⟩)] at hcs
          rw [if_neg (nI_ge (by omega) (by omega)), ← hcs]
          exact ih (by omega)
      · have c2' : ¬ (n (15 + 3 * j)).toInt = (n (15 + 3 * i)).toInt := fun e => c2 (i_eq.mpr e)
        rw [if_neg (fun g => g.elim c1 (fun g => c2 g.1))] at hcs
        rw [if_neg (by rw [i_eq, hd, c_0]; omega), ← ih (by omega), hcs]; rfl
theorem cnt_le (f : Nat → Int32) (i : Nat) : ∀ j, cnt f i j ≤ j := by
  intro j
  induction j with
  | zero => exact Nat.le_refl _
  | succ j ih =>
    rw [cnt]
    split <;> omega
theorem q_po32 (im be bg tx ta fa cl : Int32) {L : List Pu} {n : Nat → Int32} (h : RM L n) (h0 : ∀ q ∈ L, 0 ≤ q.1.toInt) (k w : Nat) (hk : k < L.length) (hw : w ≤ 2) {qk : Pu} (hq : (srt L)[k]? = some qk) : ∀ (r i fu : Nat), i + r = L.length → r < fu → (∃ i', i ≤ i' ∧ i' < L.length ∧ cnt (fun x => n (15 + 3 * x)) i' L.length = k) →
    fX9_pushOf_32 (nI k) (nI w) im be bg tx ta fa cl n fu (nI i) = some (sel w qk) := by
  have h8 := h.2.1
  have hlr : L.reverse.length = L.length := List.length_reverse
  have ht : tms (fun x => n (15 + 3 * x)) L := fun i q hq => (h.2.2 i q hq).1
  have hsrt := (cnt_srt (fun x => n (15 + 3 * x)) L.reverse (by rw [List.reverse_reverse]; exact ht)).1
  rw [List.reverse_reverse, hlr] at hsrt
  intro r
  induction r with
  | zero => intro i fu hi hf hex; obtain ⟨i', a, b, -⟩ := hex; omega
  | succ r ih =>
    intro i fu hi hf hex
    obtain ⟨f, rfl⟩ : ∃ f, fu = f + 1 := ⟨fu - 1, by omega⟩
    rw [fX9_pushOf_32, h.1, if_neg (nI_ge (by omega) (by omega))]
    have h49 := q_po49 (nI k) (nI w) im be bg tx ta fa cl h h0 (fX9_pushOf_32 (nI k) (nI w) im be bg tx ta fa cl n f) i (by omega) L.length 0 500 (by omega) (by omega) (Nat.le_refl _)
    have hcl := cnt_le (fun x => n (15 + 3 * x)) i L.length
    refine h49.trans ?_
    by_cases c : cnt (fun x => n (15 + 3 * x)) i L.length = k
    · rw [if_pos (by rw [c]), nI_add, gd_t (inb_nI (by omega) (by decide)), nI_clamp (by omega)]
      have hgi : L[i]? = some L[i] := List.getElem?_eq_getElem (by omega)
      have e := hsrt i _ hgi
      rw [c] at e
      have e2 : (srt L)[k]? = some L[i] := e
      rw [hq] at e2
      cases e2
      obtain ⟨p1, p2, p3⟩ := h.2.2 i _ hgi
      have : w = 0 ∨ w = 1 ∨ w = 2 := by omega
      rcases this with rfl | rfl | rfl
      · rw [show 15 + 3 * i + 0 = 15 + 3 * i from rfl, p1]; rfl
      · rw [show 15 + 3 * i + 1 = 16 + 3 * i by omega, p2]; rfl
      · rw [show 15 + 3 * i + 2 = 17 + 3 * i by omega, p3]; rfl
    · rw [if_neg (by rw [nI_eq (by omega) (by omega)]; exact c)]
      obtain ⟨i', a, b, d⟩ := hex
      refine ih (i + 1) f (by omega) (by omega) ⟨i', ?_, b, d⟩
      by_cases cc : i = i'
      · subst cc; exact absurd d c
      · omega
theorem A_pushOf {L : List Pu} {b : Nat → Int32} {se : Int64} {A : Nat → Int64} {k : Int32} {t w s n : Nat → Int32} {A9 : Nat → Int64} (h : RN L b se A k t w s n A9) (i1 i2 ik im be bg tx ta fa cl : Int32) :
    ∃ r, fX8_pushOf i1 i2 ik b se 1 k s t w = some r ∧ fX9_pushOf i1 i2 im be bg tx ta fa cl n = some r := by
  have hk : k = nI L.length := by rw [h.1.2.2.1.1, srt_len]
  have h8 := h.1.2.1.2.1
  have h11 := h.1.2.1.1
  have hn8 := h.2.2.2.1.1.2.2.2.2.2.2
  have hpr : n 11 - 1 = nI L.length - 1 := by rw [h11]
  have h1m : (nI L.length - 1).toInt = (L.length : Int) - 1 := by
    rw [i_sub (by rw [nI_toInt (by omega), c_1]; omega) (by rw [nI_toInt (by omega), c_1]; omega), nI_toInt (by omega), c_1]
  by_cases hi : bw i1 0 (n 11 - 1) = 0
  · refine ⟨-1000, ?_, ?_⟩
    · unfold fX8_pushOf
      rcases bw_hi hi with c | ⟨c, c2⟩
      · rw [if_pos c]
      · rw [hpr] at c2
        have c2 := i_lt.mp c2
        rw [h1m] at c2
        rw [if_neg c, if_pos (by rw [hk, i_le, nI_toInt (by omega)]; omega)]
    · unfold fX9_pushOf
      rw [q_bw, Option.bind_some, if_pos hi]
  have hi' := hi
  obtain ⟨c, c2⟩ := bw_0 hi
  have c2 := i_le.mp (Int32.not_lt.mp c2)
  rw [hpr, h1m] at c2
  have c3 := i_le.mp (Int32.not_lt.mp c)
  rw [c_0] at c3
  obtain ⟨j, hj, rfl⟩ : ∃ j : Nat, j < L.length ∧ i1 = nI j := ⟨i1.toInt.toNat, by omega, by rw [i_eq, nI_toInt (by omega)]; omega⟩
  have hlt : j < (srt L).length := by rw [srt_len]; exact hj
  have hq : (srt L)[j]? = some (srt L)[j] := List.getElem?_eq_getElem hlt
  obtain ⟨a1, a2, a3⟩ := h.1.2.2.1.2.2 j _ hq
  have hkj : ¬ k ≤ nI j := by rw [hk]; exact nI_ge hj (by omega)
  have hj8 : nI j < 8 := nI_lt (b := 8) (by omega) (by decide)
  have hcl : ∀ (x : Int32), (if i2 = 0 then some (srt L)[j].1 else if i2 = 1 then some (srt L)[j].2.1 else if i2 = 2 then some (srt L)[j].2.2 else some (-1000 : Int32)) = some x → fX8_pushOf (nI j) i2 ik b se 1 k s t w = some x := by
    intro x hx
    unfold fX8_pushOf
    rw [if_neg c, if_neg hkj, if_pos hj8, gd_t (inb_nI (by omega) (by decide)), gd_t (inb_nI (by omega) (by decide)), gd_t (inb_nI (by omega) (by decide)), nI_clamp (by omega), a1, a2, a3]
    exact hx
  by_cases hw : bw i2 0 2 = 0
  · refine ⟨-1000, hcl _ ?_, ?_⟩
    · have n0 : ¬ i2 = 0 := fun e => by rw [e] at hw; exact absurd hw (by decide)
      have n1 : ¬ i2 = 1 := fun e => by rw [e] at hw; exact absurd hw (by decide)
      have n2 : ¬ i2 = 2 := fun e => by rw [e] at hw; exact absurd hw (by decide)
      rw [if_neg n0, if_neg n1, if_neg n2]
    · unfold fX9_pushOf
      rw [q_bw, Option.bind_some, if_neg hi', q_bw, Option.bind_some, if_pos hw]
  · have hw' := hw
    obtain ⟨v, hv, rfl⟩ := bw_of (n := 2) rfl hw
    have ht : tms (fun x => n (15 + 3 * x)) L := fun i q hq => (h.1.2.1.2.2 i q hq).1
    obtain ⟨i', b1, b2⟩ := (cnt_srt (fun x => n (15 + 3 * x)) L.reverse (by rw [List.reverse_reverse]; exact ht)).2 j (by rw [List.length_reverse]; exact hj)
    rw [List.length_reverse] at b1 b2
    refine ⟨sel v (srt L)[j], hcl _ ?_, ?_⟩
    · have : v = 0 ∨ v = 1 ∨ v = 2 := by omega
      rcases this with rfl | rfl | rfl
      · exact if_pos rfl
      · rw [if_neg (by decide), if_pos (by decide)]; rfl
      · rw [if_neg (by decide), if_neg (by decide), if_pos (by decide)]; rfl
    · unfold fX9_pushOf
      rw [q_bw, Option.bind_some, if_neg hi', q_bw, Option.bind_some, if_neg hw']
      exact q_po32 im be bg tx ta fa cl h.1.2.1 (fun q hm => by have := i_le.mp (h.1.2.2.2.1 q hm).2; omega) j v hj hv hq L.length 0 500 (by omega) (by omega) ⟨i', Nat.zero_le _, b1, b2⟩
