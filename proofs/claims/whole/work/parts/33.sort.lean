/-! the row by TIME, then as they came -/
def insP (p : Pu) : List Pu → List Pu
  | [] => [p]
  | a :: l => if p.1 < a.1 then p :: a :: l else a :: insP p l
def srtR : List Pu → List Pu
  | [] => []
  | p :: M => insP p (srtR M)
def srt (L : List Pu) : List Pu := srtR L.reverse
theorem srt_snoc (L : List Pu) (p : Pu) : srt (L ++ [p]) = insP p (srt L) := by
  unfold srt
  rw [List.reverse_append]; rfl
theorem insP_len (p : Pu) : ∀ l, (insP p l).length = l.length + 1
  | [] => rfl
  | a :: l => by
    unfold insP
    split
    · rfl
    · simp [insP_len p l]
theorem srtR_len : ∀ M : List Pu, (srtR M).length = M.length
  | [] => rfl
  | p :: M => by show (insP p (srtR M)).length = _; rw [insP_len, srtR_len M]; rfl
theorem srt_len (L : List Pu) : (srt L).length = L.length := by unfold srt; rw [srtR_len, List.length_reverse]
theorem insP_mem (p : Pu) : ∀ (l : List Pu) (q : Pu), q ∈ insP p l ↔ q = p ∨ q ∈ l
  | [], q => by simp [insP]
  | a :: l, q => by
    unfold insP
    split
    · simp
    · rw [List.mem_cons, insP_mem p l q, List.mem_cons]
      constructor
      · rintro (h | h | h)
        · exact Or.inr (Or.inl h)
        · exact Or.inl h
        · exact Or.inr (Or.inr h)
      · rintro (h | h | h)
        · exact Or.inr (Or.inl h)
        · exact Or.inl h
        · exact Or.inr (Or.inr h)
theorem srtR_mem : ∀ (M : List Pu) (q : Pu), q ∈ srtR M ↔ q ∈ M
  | [], q => by simp [srtR]
  | p :: M, q => by show q ∈ insP p (srtR M) ↔ _; rw [insP_mem, srtR_mem M q, List.mem_cons]
theorem srt_mem (L : List Pu) (q : Pu) : q ∈ srt L ↔ q ∈ L := by unfold srt; rw [srtR_mem, List.mem_reverse]
def Srd (l : List Pu) : Prop := l.Pairwise (fun a b => a.1 ≤ b.1)
theorem insP_srd (p : Pu) : ∀ l, Srd l → Srd (insP p l)
  | [], _ => by simp [insP, Srd]
  | a :: l, h => by
    obtain ⟨h1, h2⟩ := List.pairwise_cons.mp h
    unfold insP
    split
    · next c =>
      refine List.pairwise_cons.mpr ⟨fun b hb => ?_, h⟩
      rcases List.mem_cons.mp hb with rfl | hb
      · exact Int32.le_of_lt c
      · exact Int32.le_trans (Int32.le_of_lt c) (h1 b hb)
    · next c =>
      refine List.pairwise_cons.mpr ⟨fun b hb => ?_, insP_srd p l h2⟩
      rcases (insP_mem p l b).mp hb with rfl | hb
      · exact Int32.not_lt.mp c
      · exact h1 b hb
theorem srtR_srd : ∀ M, Srd (srtR M)
  | [] => List.Pairwise.nil
  | p :: M => insP_srd p _ (srtR_srd M)
theorem srt_srd (L : List Pu) : Srd (srt L) := srtR_srd _
theorem insP_ne (c : Int32) (p : Pu) : ∀ l, Srd l → (insP p l).filter (fun q => !decide (q.1 = c)) = if p.1 = c then l.filter (fun q => !decide (q.1 = c)) else insP p (l.filter (fun q => !decide (q.1 = c)))
  | [], _ => by
    by_cases h : p.1 = c <;> simp [insP, h]
  | a :: l, hs => by
    obtain ⟨h1, h2⟩ := List.pairwise_cons.mp hs
    have ih := insP_ne c p l h2
    by_cases hp : p.1 = c
    · rw [if_pos hp] at ih ⊢
      unfold insP
      split
      · rw [List.filter_cons, if_neg (by simp [hp])]
      · rw [List.filter_cons, ih, List.filter_cons]
    · rw [if_neg hp] at ih ⊢
      by_cases hlt : p.1 < a.1
      · rw [show insP p (a :: l) = p :: a :: l from if_pos hlt, List.filter_cons, if_pos (by simp [hp])]
        by_cases ha : a.1 = c
        · rw [List.filter_cons, if_neg (by simp [ha])]
          have hf : l.filter (fun q => !decide (q.1 = c)) = [] ∨ ∃ x y, l.filter (fun q => !decide (q.1 = c)) = x :: y := by
            cases l.filter (fun q => !decide (q.1 = c)) with
            | nil => exact Or.inl rfl
            | cons x y => exact Or.inr ⟨x, y, rfl⟩
          rcases hf with hf | ⟨x, y, hf⟩
          · rw [hf]; rfl
          · rw [hf]
            have hx : x ∈ l := (List.mem_filter.mp (by rw [hf]; exact List.mem_cons_self)).1
            rw [show insP p (x :: y) = p :: x :: y from if_pos (Int32.lt_of_lt_of_le hlt (h1 x hx))]
        · rw [List.filter_cons, if_pos (by simp [ha])]
          rw [show insP p (a :: l.filter (fun q => !decide (q.1 = c))) = p :: a :: l.filter (fun q => !decide (q.1 = c)) from if_pos hlt]
      · rw [show insP p (a :: l) = a :: insP p l from if_neg hlt, List.filter_cons, List.filter_cons]
        by_cases ha : a.1 = c
        · rw [if_neg (by simp [ha]), if_neg (by simp [ha])]; exact ih
        · rw [if_pos (by simp [ha]), if_pos (by simp [ha]), ih]
          rw [show insP p (a :: l.filter (fun q => !decide (q.1 = c))) = a :: insP p (l.filter (fun q => !decide (q.1 = c))) from if_neg hlt]
theorem insP_eq (c : Int32) (p : Pu) : ∀ l, Srd l → (insP p l).filter (fun q => decide (q.1 = c)) = if p.1 = c then l.filter (fun q => decide (q.1 = c)) ++ [p] else l.filter (fun q => decide (q.1 = c))
  | [], _ => by
    by_cases h : p.1 = c <;> simp [insP, h]
  | a :: l, hs => by
    obtain ⟨h1, h2⟩ := List.pairwise_cons.mp hs
    have ih := insP_eq c p l h2
    by_cases hlt : p.1 < a.1
    · rw [show insP p (a :: l) = p :: a :: l from if_pos hlt]
      by_cases hp : p.1 = c
      · rw [if_pos hp, List.filter_cons, if_pos (by simp [hp])]
        have : (a :: l).filter (fun q => decide (q.1 = c)) = [] := by
          rw [List.filter_eq_nil_iff]
          intro b hb
          have hba : a.1 ≤ b.1 := by
            rcases List.mem_cons.mp hb with rfl | hb
            · exact Int32.le_refl _
            · exact h1 b hb
          have hcb := Int32.lt_of_lt_of_le hlt hba
          rw [hp] at hcb
          simp only [decide_eq_true_eq]
          intro e
          rw [e] at hcb
          exact Int32.lt_irrefl hcb
        rw [this]; rfl
      · rw [if_neg hp, List.filter_cons, if_neg (by simp [hp])]
    · rw [show insP p (a :: l) = a :: insP p l from if_neg hlt, List.filter_cons, ih, List.filter_cons]
      by_cases hp : p.1 = c
      · rw [if_pos hp, if_pos hp]
        split <;> rfl
      · rw [if_neg hp, if_neg hp]
theorem srtR_ne (c : Int32) : ∀ M, (srtR M).filter (fun q => !decide (q.1 = c)) = srtR (M.filter (fun q => !decide (q.1 = c)))
  | [] => rfl
  | p :: M => by
    show (insP p (srtR M)).filter _ = _
    rw [insP_ne c p _ (srtR_srd M), srtR_ne c M, List.filter_cons]
    by_cases hp : p.1 = c
    · rw [if_pos hp, if_neg (by simp [hp])]
    · rw [if_neg hp, if_pos (by simp [hp])]; rfl
theorem srtR_eq (c : Int32) : ∀ M, (srtR M).filter (fun q => decide (q.1 = c)) = (M.filter (fun q => decide (q.1 = c))).reverse
  | [] => rfl
  | p :: M => by
    show (insP p (srtR M)).filter _ = _
    rw [insP_eq c p _ (srtR_srd M), srtR_eq c M, List.filter_cons]
    by_cases hp : p.1 = c
    · rw [if_pos hp, if_pos (by simp [hp]), List.reverse_cons]
    · rw [if_neg hp, if_neg (by simp [hp])]
theorem srt_ne (c : Int32) (L : List Pu) : (srt L).filter (fun q => !decide (q.1 = c)) = srt (L.filter (fun q => !decide (q.1 = c))) := by
  unfold srt; rw [srtR_ne, List.filter_reverse]
theorem srt_eq (c : Int32) (L : List Pu) : (srt L).filter (fun q => decide (q.1 = c)) = L.filter (fun q => decide (q.1 = c)) := by
  unfold srt; rw [srtR_eq, List.filter_reverse, List.reverse_reverse]
theorem srd_take (c : Int32) : ∀ l, Srd l → (∀ q ∈ l, c ≤ q.1) → l.takeWhile (fun q => decide (q.1 = c)) = l.filter (fun q => decide (q.1 = c)) ∧ l.dropWhile (fun q => decide (q.1 = c)) = l.filter (fun q => !decide (q.1 = c))
  | [], _, _ => ⟨rfl, rfl⟩
  | a :: l, hs, hc => by
    obtain ⟨h1, h2⟩ := List.pairwise_cons.mp hs
    obtain ⟨i1, i2⟩ := srd_take c l h2 (fun q hq => hc q (List.mem_cons_of_mem _ hq))
    by_cases ha : a.1 = c
    · rw [List.takeWhile_cons, if_pos (by simp [ha]), List.dropWhile_cons, if_pos (by simp [ha]), List.filter_cons, if_pos (by simp [ha]), List.filter_cons, if_neg (by simp [ha]), i1, i2]
      exact ⟨rfl, rfl⟩
    · have hall : ∀ q ∈ a :: l, ¬ q.1 = c := by
        intro q hq e
        have h3 : c ≤ a.1 := hc a List.mem_cons_self
        have h4 : a.1 ≤ q.1 := by
          rcases List.mem_cons.mp hq with rfl | hq
          · exact Int32.le_refl _
          · exact h1 q hq
        rw [e] at h4
        exact ha (Int32.le_antisymm h4 h3)
      rw [List.takeWhile_cons, if_neg (by simp [ha]), List.dropWhile_cons, if_neg (by simp [ha])]
      refine ⟨?_, ?_⟩
      · symm
        rw [List.filter_eq_nil_iff]
        intro q hq
        simpa using hall q hq
      · symm
        rw [List.filter_eq_self]
        intro q hq
        simpa using hall q hq
/-! a tick asks and writes the first eleven numbers alone -/
theorem Ag_s1 {N : Nat} (hN : 11 ≤ N) {v u : Nat → Int32} (h : Ag N v u) : Ag N (s1 v) (s1 u) := by
  unfold s1; exact h.upd 1 (by rw [h 1 (by omega), h 0 (by omega), h 2 (by omega)])
theorem Ag_s2 {N : Nat} (hN : 11 ≤ N) {v u : Nat → Int32} (h : Ag N v u) : Ag N (s2 v) (s2 u) := by
  unfold s2
  rw [h 1 (by omega), h 3 (by omega)]
  split
  · exact h.upd 1 rfl
  · exact h.upd 1 rfl
theorem Ag_bang {N : Nat} (hN : 11 ≤ N) {v u : Nat → Int32} (h : Ag N v u) : Ag N (bang v) (bang u) := by
  unfold bang
  rw [h 0 (by omega), h 10 (by omega)]
  exact ((h.upd 0 rfl).upd 1 rfl).upd 10 rfl
theorem Ag_s3 {N : Nat} (hN : 11 ≤ N) {v u : Nat → Int32} (h : Ag N v u) : Ag N (s3 v) (s3 u) := by
  unfold s3
  rw [h 1 (by omega), h 0 (by omega)]
  split
  · exact Ag_bang hN (h.upd 0 rfl)
  · split
    · exact h.upd 0 rfl
    · exact Ag_bang hN (h.upd 0 rfl)
theorem Ag_tw {N : Nat} (hN : 11 ≤ N) {v u : Nat → Int32} (h : Ag N v u) : Ag N (tw v) (tw u) := Ag_s3 hN (Ag_s2 hN (Ag_s1 hN h))
theorem Ag_lg {N : Nat} (hN : 11 ≤ N) {v u : Nat → Int32} (h : Ag N v u) (w : Int32) : lg w v = lg w u := by
  unfold lg
  rw [h 5 (by omega), h 7 (by omega), h 4 (by omega), h 0 (by omega)]
theorem Ag_tb {N : Nat} (hN : 11 ≤ N) {v u : Nat → Int32} (h : Ag N v u) : tb v = tb u := by
  unfold tb
  rw [Ag_lg hN (Ag_tw hN h), Ag_s2 hN (Ag_s1 hN h) 0 (by omega)]
theorem Ag_s4 {N : Nat} (hN : 11 ≤ N) {v u : Nat → Int32} (h : Ag N v u) : Ag N (s4 v) (s4 u) := by
  have hk : Ag N (kk1 v) (kk1 u) := by
    unfold kk1
    rw [h 7 (by omega), h 1 (by omega), h 5 (by omega)]
    split
    · exact (h.upd 1 rfl).upd 7 rfl
    · exact (h.upd 1 rfl).upd 7 rfl
  have h9 : Ag N (upd (kk1 v) 9 (kk1 v 9 + 1)) (upd (kk1 u) 9 (kk1 u 9 + 1)) := hk.upd 9 (by rw [hk 9 (by omega)])
  unfold s4 kk2
  rw [h9 9 (by omega), h9 6 (by omega), h9 5 (by omega)]
  split
  · exact h9.upd 5 rfl
  · exact h9
theorem Ag_tv {N : Nat} (hN : 11 ≤ N) {v u : Nat → Int32} (h : Ag N v u) : Ag N (tv v) (tv u) := by
  unfold tv
  rw [Ag_tb hN h]
  split
  · exact Ag_tw hN h
  · exact Ag_s4 hN (Ag_tw hN h)
theorem Ag_s5 {N : Nat} (hN : 11 ≤ N) {v u : Nat → Int32} (h : Ag N v u) : Ag N (s5 v) (s5 u) := by
  unfold s5; exact h.upd 8 (by rw [h 8 (by omega)])
theorem Ag_En {N : Nat} (hN : 11 ≤ N) {v u : Nat → Int32} (h : Ag N v u) : En v = En u := by
  unfold En; rw [h 1 (by omega), h 2 (by omega), h 0 (by omega)]
theorem Ag_stl {N : Nat} (hN : 11 ≤ N) {v u : Nat → Int32} (h : Ag N v u) (z : Int32) (i : Nat) (q : Int64 × (Nat → Int64)) : stl z i v q = stl z i u q := by
  unfold stl; rw [Ag_En hN h]
theorem Ag_tq {N : Nat} (hN : 11 ≤ N) {v u : Nat → Int32} (h : Ag N v u) (z : Int32) (q : Int64 × (Nat → Int64)) : tq z v q = tq z u q := by
  unfold tq
  rw [Ag_stl hN h, Ag_stl hN (Ag_s1 hN h), Ag_stl hN (Ag_s2 hN (Ag_s1 hN h)), Ag_stl hN (Ag_tw hN h), Ag_stl hN (Ag_tv hN h)]
theorem tv_hi (v : Nat → Int32) (j : Nat) (h : 11 ≤ j) : tv v j = v j := by
  unfold tv
  split
  · exact tw_at _ _ (by omega) (by omega) (by omega)
  · rw [s4_at _ _ (by omega) (by omega) (by omega) (by omega)]
    exact tw_at _ _ (by omega) (by omega) (by omega)
theorem s5_at (v : Nat → Int32) (j : Nat) (h : j ≠ 8) : s5 v j = v j := by unfold s5; rw [upd_at, if_neg h]
theorem tv_at (v : Nat → Int32) (j : Nat) (h0 : j ≠ 0) (h1 : j ≠ 1) (h2 : j ≠ 10) (h3 : j ≠ 7) (h4 : j ≠ 5) (h5 : j ≠ 9) : tv v j = v j := by
  unfold tv
  split
  · exact tw_at _ _ h0 h1 h2
  · rw [s4_at _ _ h1 h3 h4 h5]
    exact tw_at _ _ h0 h1 h2
