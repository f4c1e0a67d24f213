/-! the model's pushes -/
def P3 (n : Nat → Int32) (j : Nat) (q : Pu) : Prop := n (15 + 3 * j) = q.1 ∧ n (16 + 3 * j) = q.2.1 ∧ n (17 + 3 * j) = q.2.2
def RM (L : List Pu) (n : Nat → Int32) : Prop := n 11 = nI L.length ∧ L.length ≤ 8 ∧ ∀ (j : Nat) (q : Pu), L[j]? = some q → P3 n j q
/-- the numbers are alike below N -/
def Ag (N : Nat) (v u : Nat → Int32) : Prop := ∀ j, j < N → v j = u j
theorem Ag.upd {N : Nat} {v u : Nat → Int32} (h : Ag N v u) (k : Nat) {x y : Int32} (hx : x = y) : Ag N (upd v k x) (upd u k y) := fun j hj => by
  rw [upd_at, upd_at, hx, h j hj]
theorem Ag_dp {N : Nat} (hN : 11 ≤ N) {v u : Nat → Int32} (h : Ag N v u) (q : Pu) : Ag N (dp v q) (dp u q) := by
  have h1 := h 1 (by omega); have h5 := h 5 (by omega)
  unfold dp
  split
  · exact h.upd 1 (by rw [h1])
  · split
    · exact h.upd 5 (by rw [h5])
    · split
      · exact h.upd 4 rfl
      · split
        · exact h.upd 3 rfl
        · exact h
theorem Ag_dps {N : Nat} (hN : 11 ≤ N) (l : List Pu) : ∀ {v u : Nat → Int32}, Ag N v u → Ag N (dps v l) (dps u l) := by
  induction l with
  | nil => intro v u h; exact h
  | cons q l ih => intro v u h; exact ih (Ag_dp hN h q)
theorem q_ix (a k : Nat) : (15 : Int32) + 3 * nI a + nI k = nI (15 + 3 * a + k) := by
  rw [show (15 : Int32) = nI 15 from rfl, show (3 : Int32) = nI 3 from rfl, pk_mul, nI_add, nI_add]
theorem q_56 (im be bg tx ta fa cl : Int32) (K : Int32 → Int32 → Int32 → (Nat → Int32) → Option (Nat → Int32)) (a i : Nat) (x2 : Int32) (n : Nat → Int32) (ha : a ≤ i) (hi : i < 8) :
    fX9_pushes_56 im be bg tx ta fa cl K 500 (nI a) x2 (nI i) (nI (15 + 3 * i)) 0 n = K (nI (a + 1)) x2 (nI (i + 1)) (upd (upd (upd n (15 + 3 * a) (n (15 + 3 * i))) (16 + 3 * a) (n (16 + 3 * i))) (17 + 3 * a) (n (17 + 3 * i))) := by
  have st : ∀ (fu k : Nat) (m : Nat → Int32), k < 3 → fX9_pushes_56 im be bg tx ta fa cl K (fu + 1) (nI a) x2 (nI i) (nI (15 + 3 * i)) (nI k) m = fX9_pushes_56 im be bg tx ta fa cl K fu (nI a) x2 (nI i) (nI (15 + 3 * i)) (nI (k + 1)) (upd m (15 + 3 * a + k) (m (15 + 3 * i + k))) := by
    intro fu k m hk
    rw [fX9_pushes_56, if_neg (show ¬ (3 : Int32) ≤ nI k from nI_ge (b := 3) hk (by decide)), nI_add, q_ix, gd_t (inb_nI (by omega) (by decide)), gd_t (inb_nI (by omega) (by decide)), lt_eq, lt_eq, nI_1, nI_clamp (by omega), nI_clamp (by omega)]
  rw [show (0 : Int32) = nI 0 from rfl, st 499 0 n (by decide), st 498 1 _ (by decide), st 497 2 _ (by decide), fX9_pushes_56, if_pos (show (3 : Int32) ≤ nI (2 + 1) from by decide), lt_eq, lt_eq, nI_1, nI_1]
  congr 1
  funext j
  simp only [upd_at]
  by_cases c2 : j = 17 + 3 * a
  · subst c2
    rw [if_pos (by omega), if_pos rfl]
    by_cases hai : a = i
    · subst hai; rw [if_neg (by omega), if_neg (by omega), show 15 + 3 * a + 2 = 17 + 3 * a by omega]
    · rw [if_neg (by omega), if_neg (by omega), show 15 + 3 * i + 2 = 17 + 3 * i by omega]
  · rw [if_neg (by omega), if_neg c2]
    by_cases c1 : j = 16 + 3 * a
    · subst c1
      rw [if_pos (by omega), if_pos rfl, if_neg (by omega), show 15 + 3 * i + 1 = 16 + 3 * i by omega]
    · rw [if_neg (by omega), if_neg c1]
      by_cases c0 : j = 15 + 3 * a
      · subst c0
        rw [if_pos (by omega), if_pos rfl]; rfl
      · rw [if_neg (by omega), if_neg c0]
def whok (q : Pu) : Prop := q.2.1 = 0 ∨ q.2.1 = 1 ∨ q.2.1 = 2 ∨ q.2.1 = 3
theorem q_push12 (im be bg tx ta fa cl : Int32) (K : Nat) (hK : K ≤ 8) : ∀ (Qs : List Pu) (R : List Pu) (i fu : Nat) (n : Nat → Int32), R.length ≤ i → i + Qs.length = K → Qs.length < fu →
    (∀ q ∈ Qs, whok q) → (∀ (j : Nat) (q : Pu), R[j]? = some q → P3 n j q) → (∀ (j : Nat) (q : Pu), Qs[j]? = some q → P3 n (i + j) q) →
    ∃ n2, fX9_pushes_12 im be bg tx ta fa cl fu (nI R.length) (nI K) (nI i) n = some n2 ∧ RM (R ++ Qs.filter (fun q => !decide (q.1 = n 8))) n2 ∧
      (∀ j, j < 15 → j ≠ 11 → n2 j = dps n (Qs.filter (fun q => decide (q.1 = n 8))) j) ∧ ∀ j, 39 ≤ j → n2 j = n j := by
  intro Qs
  induction Qs with
  | nil =>
    intro R i fu n hR hi hf hw h1 h2
    obtain ⟨f, rfl⟩ : ∃ f, fu = f + 1 := ⟨fu - 1, by simp at hf; omega⟩
    have hiK : i = K := by simpa using hi
    subst hiK
    refine ⟨upd n 11 (nI R.length), ?_, ⟨?_, ?_, ?_⟩, ?_, ?_⟩
    · rw [fX9_pushes_12, if_pos (nI_le (Nat.le_refl _) (by omega)), lt_eq]
    · simp [upd_at]
    · simp; omega
    · intro j q hq
      rw [List.filter_nil, List.append_nil] at hq
      have h3 := h1 j q hq
      unfold P3 at h3 ⊢
      rw [upd_at, upd_at, upd_at, if_neg (by omega), if_neg (by omega), if_neg (by omega)]
      exact h3
    · intro j hj hj2
      rw [upd_at, if_neg hj2]; rfl
    · intro j hj
      rw [upd_at, if_neg (by omega)]
  | cons q Qs ih =>
    intro R i fu n hR hi hf hw h1 h2
    obtain ⟨f, rfl⟩ : ∃ f, fu = f + 1 := ⟨fu - 1, by simp at hf; omega⟩
    have hiK : i < K := by simp at hi; omega
    have hq := h2 0 q rfl
    rw [Nat.add_zero] at hq
    obtain ⟨e1, e2, e3⟩ := hq
    have hwq := hw q List.mem_cons_self
    have hd : fX9_pushes_12 im be bg tx ta fa cl (f + 1) (nI R.length) (nI K) (nI i) n =
        if q.1 = n 8 then fX9_pushes_12 im be bg tx ta fa cl f (nI R.length) (nI K) (nI (i + 1)) (dp n q) else fX9_pushes_56 im be bg tx ta fa cl (fX9_pushes_12 im be bg tx ta fa cl f) 500 (nI R.length) (nI K) (nI i) (nI (15 + 3 * i)) 0 n := by
      rw [fX9_pushes_12, if_neg (nI_ge hiK (by omega)), lt_eq]
      rw [show (15 : Int32) + 3 * nI i = nI (15 + 3 * i) from by rw [show (15 : Int32) = nI 15 from rfl, show (3 : Int32) = nI 3 from rfl, pk_mul, nI_add]]
      rw [show nI (15 + 3 * i) + 2 = nI (17 + 3 * i) from by rw [show (2 : Int32) = nI 2 from rfl, nI_add]; congr 1; omega]
      rw [nI_1, gd_t (inb_nI (by omega) (by decide)), lt_eq, gd_t (inb_nI (by omega) (by decide)), nI_clamp (by omega), e1]
      rw [show 15 + 3 * i + 1 = 16 + 3 * i by omega, gd_t (inb_nI (by omega) (by decide)), lt_eq, nI_clamp (by omega), nI_clamp (by omega), e2, e3]
      simp only [lt_eq, nI_1]
      by_cases c : q.1 = n 8
      · rw [if_pos c, if_pos c]
        unfold dp
        rcases hwq with h | h | h | h
        · rw [if_pos h, if_pos h]
        · have h0 : ¬ q.2.1 = 0 := by rw [h]; decide
          rw [if_neg h0, if_pos h, if_neg h0, if_pos h]
        · have h0 : ¬ q.2.1 = 0 := by rw [h]; decide
          have h1 : ¬ q.2.1 = 1 := by rw [h]; decide
          rw [if_neg h0, if_neg h1, if_pos h, if_neg h0, if_neg h1, if_pos h]
        · have h0 : ¬ q.2.1 = 0 := by rw [h]; decide
          have h1 : ¬ q.2.1 = 1 := by rw [h]; decide
          have h2 : ¬ q.2.1 = 2 := by rw [h]; decide
          rw [if_neg h0, if_neg h1, if_neg h2, if_neg h0, if_neg h1, if_neg h2, if_pos h]
      · rw [if_neg c, if_neg c]
    by_cases c : q.1 = n 8
    · have hge : ∀ j, 11 ≤ j → dp n q j = n j := fun j hj => dp_at _ _ _ (by omega) (by omega) (by omega) (by omega)
      have hP : ∀ j p, P3 n j p → P3 (dp n q) j p := fun j p hp => by
        unfold P3 at hp ⊢
        rw [hge _ (by omega), hge _ (by omega), hge _ (by omega)]
        exact hp
      have h8b : dp n q 8 = n 8 := dp_at _ _ _ (by decide) (by decide) (by decide) (by decide)
      obtain ⟨n2, a1, a2, a3, a4⟩ := ih R (i + 1) f (dp n q) (by omega) (by simp at hi; omega) (by simp at hf; omega) (fun p hp => hw p (List.mem_cons_of_mem _ hp)) (fun j p hp => hP j p (h1 j p hp)) (fun j p hp => by
        have h3 := h2 (j + 1) p hp
        rw [show i + 1 + j = i + (j + 1) by omega]
        exact hP _ _ h3)
      rw [h8b] at a2 a3
      refine ⟨n2, ?_, ?_, ?_, ?_⟩
      · rw [hd, if_pos c]; exact a1
      · rw [List.filter_cons, if_neg (by simp [c])]; exact a2
      · intro j hj hj2
        rw [a3 j hj hj2, List.filter_cons, if_pos (by simp [c])]; rfl
      · intro j hj
        rw [a4 j hj, hge j (by omega)]
    · obtain ⟨m, hm⟩ : ∃ m, m = upd (upd (upd n (15 + 3 * R.length) (n (15 + 3 * i))) (16 + 3 * R.length) (n (16 + 3 * i))) (17 + 3 * R.length) (n (17 + 3 * i)) := ⟨_, rfl⟩
      have hlo : ∀ j, j < 15 + 3 * R.length → m j = n j := fun j hj => by
        rw [hm]; simp only [upd_at]; rw [if_neg (by omega), if_neg (by omega), if_neg (by omega)]
      have hhi : ∀ j, 17 + 3 * R.length < j → m j = n j := fun j hj => by
        rw [hm]; simp only [upd_at]; rw [if_neg (by omega), if_neg (by omega), if_neg (by omega)]
      have hat : P3 m R.length q := by
        unfold P3
        rw [hm]; simp only [upd_at]
        rw [if_neg (by omega), if_neg (by omega), if_pos trivial, if_neg (by omega), if_pos trivial, if_pos trivial]
        exact ⟨e1, e2, e3⟩
      have h8b : m 8 = n 8 := hlo 8 (by omega)
      obtain ⟨n2, a1, a2, a3, a4⟩ := ih (R ++ [q]) (i + 1) f m (by simp; omega) (by simp at hi; omega) (by simp at hf; omega) (fun p hp => hw p (List.mem_cons_of_mem _ hp)) (fun j p hp => by
        by_cases hj : j < R.length
        · rw [List.getElem?_append_left hj] at hp
          have h3 := h1 j p hp
          unfold P3 at h3 ⊢
          rw [hlo _ (by omega), hlo _ (by omega), hlo _ (by omega)]
          exact h3
        · rw [List.getElem?_append_right (by omega)] at hp
          have hz : j - R.length < 1 := (List.getElem?_eq_some_iff.mp hp).1
          have hj2 : j = R.length := by omega
          subst hj2
          rw [Nat.sub_self] at hp
          cases hp
          exact hat) (fun j p hp => by
        have h3 := h2 (j + 1) p hp
        unfold P3 at h3 ⊢
        rw [hhi _ (by omega), hhi _ (by omega), hhi _ (by omega), show i + 1 + j = i + (j + 1) by omega]
        exact h3)
      rw [h8b] at a2 a3
      refine ⟨n2, ?_, ?_, ?_, ?_⟩
      · rw [hd, if_neg c, q_56 _ _ _ _ _ _ _ _ _ _ _ _ hR (by omega), ← hm]
        rw [List.length_append] at a1
        exact a1
      · rw [List.filter_cons, if_pos (by simp [c])]
        rw [List.append_assoc] at a2
        exact a2
      · intro j hj hj2
        rw [a3 j hj hj2, List.filter_cons, if_neg (by simp [c])]
        exact Ag_dps (N := 15) (by decide) _ (fun j2 hj3 => hlo j2 (by omega)) j hj
      · intro j hj
        rw [a4 j hj]
        by_cases hj3 : 17 + 3 * R.length < j
        · exact hhi j hj3
        · omega
theorem q_pushes (im be bg tx ta fa cl : Int32) {L : List Pu} {n : Nat → Int32} (h : RM L n) (hw : ∀ q ∈ L, whok q) :
    ∃ n2, fX9_pushes im be bg tx ta fa cl n = some n2 ∧ RM (L.filter (fun q => !decide (q.1 = n 8))) n2 ∧
      (∀ j, j < 15 → j ≠ 11 → n2 j = dps n (L.filter (fun q => decide (q.1 = n 8))) j) ∧ ∀ j, 39 ≤ j → n2 j = n j := by
  obtain ⟨h1, h2, h3⟩ := h
  obtain ⟨n2, a1, a2⟩ := q_push12 im be bg tx ta fa cl L.length h2 L [] 0 500 n (Nat.le_refl _) (by omega) (by omega) hw (fun j q hq => by simp at hq) (fun j q hq => by rw [Nat.zero_add]; exact h3 j q hq)
  refine ⟨n2, ?_, a2⟩
  unfold fX9_pushes
  rw [lt_eq, h1]
  exact a1
