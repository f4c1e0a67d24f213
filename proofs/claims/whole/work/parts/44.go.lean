/-! what bounds the numbers; true ticks; GO -/
def Rg (x : Int32) (lo hi : Int) : Prop := lo ≤ x.toInt ∧ x.toInt ≤ hi
def Bd0 (n : Nat → Int32) : Prop := Rg (n 0) (-300) 300 ∧ Rg (n 2) 1 32 ∧ Rg (n 3) 0 9 ∧ Rg (n 4) (-20) 20 ∧ Rg (n 5) 0 60 ∧ Rg (n 6) 1 99 ∧ 0 ≤ (n 9).toInt ∧ (n 9).toInt ≤ (n 8).toInt ∧ (n 8).toInt ≤ 99999
def Bd (n : Nat → Int32) : Prop := Bd0 n ∧ Rg (n 1) (-700) 700
def Bd6 (n : Nat → Int32) : Prop := Bd0 n ∧ Rg (n 1) (-600) 600
theorem Bd6.bd {n : Nat → Int32} (h : Bd6 n) : Bd n := ⟨h.1, by have := h.2.1; have := h.2.2; constructor <;> omega⟩
theorem c_60 : (60 : Int32).toInt = 60 := by decide
theorem c_0 : (0 : Int32).toInt = 0 := by decide
theorem c_1 : (1 : Int32).toInt = 1 := by decide
theorem c_300 : (300 : Int32).toInt = 300 := by decide
theorem c_m300 : (-300 : Int32).toInt = -300 := by decide
def pok (q : Pu) : Prop := (q.2.1 = 2 → Rg q.2.2 (-20) 20) ∧ (q.2.1 = 3 → Rg q.2.2 0 9)
theorem Bd0.e {v u : Nat → Int32} (h : Bd0 v) (e : ∀ j, j ≠ 1 → j < 11 → u j = v j) : Bd0 u := by
  unfold Bd0 at h ⊢
  rw [e 0 (by decide) (by decide), e 2 (by decide) (by decide), e 3 (by decide) (by decide), e 4 (by decide) (by decide), e 5 (by decide) (by decide), e 6 (by decide) (by decide), e 8 (by decide) (by decide), e 9 (by decide) (by decide)]
  exact h
theorem Bd.e {v u : Nat → Int32} (h : Bd v) (e : Ag 11 u v) : Bd u := ⟨h.1.e (fun j _ hj => e j hj), by rw [e 1 (by decide)]; exact h.2⟩
theorem Bd0_1 {v : Nat → Int32} (h : Bd0 v) (x : Int32) : Bd0 (upd v 1 x) := h.e (fun j hj _ => by rw [upd_at, if_neg hj])
theorem Bd0_dp {v : Nat → Int32} {q : Pu} (h : Bd0 v) (hq : pok q) : Bd0 (dp v q) := by
  unfold dp
  split
  · exact Bd0_1 h _
  · split
    · obtain ⟨h0, h2, h3, h4, h5, h6, h9⟩ := h
      refine ⟨h0, h2, h3, h4, ?_, h6, h9⟩
      rw [upd_at, if_pos rfl]
      generalize v 5 + q.2.2 = y
      have hy : (if y < 60 then y else 60).toInt ≤ 60 := by
        by_cases c : y < 60
        · rw [if_pos c]; have c := i_lt.mp c; rw [c_60] at c; omega
        · rw [if_neg c, c_60]; omega
      by_cases c : 0 < (if y < 60 then y else 60)
      · rw [if_pos c]
        have c := i_lt.mp c
        rw [c_0] at c
        exact ⟨by omega, hy⟩
      · rw [if_neg c]
        exact ⟨by decide, by decide⟩
    · split
      · next c =>
        obtain ⟨h0, h2, h3, h4, h5, h6, h9⟩ := h
        exact ⟨h0, h2, h3, hq.1 c, h5, h6, h9⟩
      · split
        · next c =>
          obtain ⟨h0, h2, h3, h4, h5, h6, h9⟩ := h
          exact ⟨h0, h2, hq.2 c, h4, h5, h6, h9⟩
        · exact h
theorem Bd0_dps : ∀ (l : List Pu) {v : Nat → Int32}, Bd0 v → (∀ q ∈ l, pok q) → Bd0 (dps v l) := by
  intro l
  induction l with
  | nil => intro v h _; exact h
  | cons q l ih =>
    intro v h hq
    exact ih (Bd0_dp h (hq q List.mem_cons_self)) (fun p hp => hq p (List.mem_cons_of_mem _ hp))
theorem Bd0_s1 {v : Nat → Int32} (h : Bd0 v) : Bd0 (s1 v) := Bd0_1 h _
theorem Bd0_s2 {v : Nat → Int32} (h : Bd0 v) : Bd0 (s2 v) := by
  unfold s2
  split <;> exact Bd0_1 h _
theorem Bd_s3 {v : Nat → Int32} (h : Bd0 v) : Bd6 (s3 v) := by
  obtain ⟨h0, h2, h3, h4, h5, h6, h9⟩ := h
  have hb : ∀ (u : Nat → Int32), (∀ j, j ≠ 0 → u j = v j) → Bd6 (bang u) := by
    intro u hu
    refine ⟨⟨?_, ?_, ?_, ?_, ?_, ?_, ?_⟩, ?_⟩
    · show Rg (if u 0 ≤ 0 then (-300) else 300) _ _
      split
      · exact ⟨by decide, by decide⟩
      · exact ⟨by decide, by decide⟩
    · show Rg (u 2) _ _; rw [hu 2 (by decide)]; exact h2
    · show Rg (u 3) _ _; rw [hu 3 (by decide)]; exact h3
    · show Rg (u 4) _ _; rw [hu 4 (by decide)]; exact h4
    · show Rg (u 5) _ _; rw [hu 5 (by decide)]; exact h5
    · show Rg (u 6) _ _; rw [hu 6 (by decide)]; exact h6
    · show 0 ≤ (u 9).toInt ∧ (u 9).toInt ≤ (u 8).toInt ∧ (u 8).toInt ≤ 99999
      rw [hu 9 (by decide), hu 8 (by decide)]; exact h9
    · exact ⟨by show -600 ≤ (0 : Int32).toInt; decide, by show (0 : Int32).toInt ≤ 600; decide⟩
  unfold s3
  split
  · exact hb _ (fun j hj => by rw [upd_at, if_neg hj])
  · next c1 =>
    split
    · next c2 =>
      have c1 := i_le.mp (Int32.not_lt.mp c1)
      have c2 := i_le.mp c2
      rw [c_300] at c1
      rw [c_m300] at c2
      refine ⟨⟨⟨c2, c1⟩, h2, h3, h4, h5, h6, h9⟩, ?_⟩
      show Rg (v 1) _ _
      have e : v 1 = (v 0 + v 1) - v 0 := by rw [Int32.add_comm, Int32.add_sub_cancel]
      obtain ⟨a1, a2⟩ := h0
      generalize v 0 + v 1 = y at c1 c2 e
      have e2 : (v 1).toInt = y.toInt - (v 0).toInt := by
        rw [← i_sub (by omega) (by omega), ← e]
      constructor <;> omega
    · exact hb _ (fun j hj => by rw [upd_at, if_neg hj])
theorem Bd_tw {v : Nat → Int32} (h : Bd0 v) : Bd6 (tw v) := Bd_s3 (Bd0_s2 (Bd0_s1 h))
theorem s5_8 (w : Nat → Int32) : s5 w 8 = w 8 + 1 := by unfold s5; rw [upd_at, if_pos rfl]
theorem Bd_s5 {w : Nat → Int32} (h : Bd w) (hc : (w 8).toInt < 99999) : Bd (s5 w) := by
  obtain ⟨⟨h0, h2, h3, h4, h5, h6, h91, h92, h93⟩, h1⟩ := h
  have e8 : (w 8 + 1).toInt = (w 8).toInt + 1 := by
    rw [i_add (by rw [c_1]; omega) (by rw [c_1]; omega), c_1]
  exact ⟨⟨h0, h2, h3, h4, h5, h6, h91, by show (w 9).toInt ≤ (w 8 + 1).toInt; omega, by show (w 8 + 1).toInt ≤ 99999; omega⟩, h1⟩
theorem kick_b {x : Int32} (h : Rg x 0 60) : Rg ((x + 3) / 4) 0 15 := by
  obtain ⟨h1, h2⟩ := h
  obtain ⟨j, hj, rfl⟩ : ∃ j : Nat, j ≤ 60 ∧ x = nI j := ⟨x.toInt.toNat, by omega, by rw [i_eq, nI_toInt (by omega)]; omega⟩
  rw [show (3 : Int32) = nI 3 from rfl, nI_add, show (4 : Int32) = nI 4 from rfl, pk_div (by omega) (by decide) (by decide)]
  constructor <;> rw [nI_toInt (by omega)] <;> omega
theorem Bd_s54 {w : Nat → Int32} (h : Bd6 w) (hc : (w 8).toInt < 99999) (hf : 0 < w 5) : Bd (s5 (s4 w)) := by
  obtain ⟨⟨h0, h2, h3, h4, h5, h6, h91, h92, h93⟩, h1⟩ := h
  have hf := i_lt.mp hf
  rw [c_0] at hf
  have e : ∀ j, j ≠ 1 → j ≠ 7 → j ≠ 5 → j ≠ 9 → j ≠ 8 → s5 (s4 w) j = w j := fun j a b c d f => by rw [s5_at _ _ f, s4_at _ _ a b c d]
  have e8 : s5 (s4 w) 8 = w 8 + 1 := by rw [s5_8, s4_at _ _ (by decide) (by decide) (by decide) (by decide)]
  have e8i : (w 8 + 1).toInt = (w 8).toInt + 1 := by
    rw [i_add (by rw [c_1]; omega) (by rw [c_1]; omega), c_1]
  have e9 : s5 (s4 w) 9 = w 9 + 1 := by
    rw [s5_at _ _ (by decide)]
    unfold s4
    rw [kk2_at _ _ (by decide), upd_at, if_pos rfl, kk1_at _ _ (by decide) (by decide)]
  have e9i : (w 9 + 1).toInt = (w 9).toInt + 1 := by
    rw [i_add (by rw [c_1]; omega) (by rw [c_1]; omega), c_1]
  have hk := kick_b h5
  obtain ⟨k1, k2⟩ := hk
  obtain ⟨a1, a2⟩ := h1
  have e1 : Rg (s5 (s4 w) 1) (-700) 700 := by
    rw [s5_at _ _ (by decide)]
    unfold s4
    rw [kk2_at _ _ (by decide), upd_at, if_neg (by decide)]
    unfold kk1
    split
    · show Rg (w 1 + (w 5 + 3) / 4) _ _
      constructor <;> rw [i_add (by omega) (by omega)] <;> omega
    · show Rg (w 1 - (w 5 + 3) / 4) _ _
      constructor <;> rw [i_sub (by omega) (by omega)] <;> omega
  have e5 : Rg (s5 (s4 w) 5) 0 60 := by
    rw [s5_at _ _ (by decide)]
    unfold s4 kk2
    have e : (upd (kk1 w) 9 ((kk1 w) 9 + 1)) 5 = w 5 := by rw [upd_at, if_neg (by decide), kk1_at _ _ (by decide) (by decide)]
    obtain ⟨b1, b2⟩ := h5
    split
    · rw [upd_at, if_pos rfl, e]
      constructor <;> rw [i_sub (by rw [c_1]; omega) (by rw [c_1]; omega), c_1] <;> omega
    · rw [e]; exact ⟨b1, b2⟩
  refine ⟨⟨?_, ?_, ?_, ?_, e5, ?_, ?_, ?_, ?_⟩, e1⟩
  · rw [e 0 (by decide) (by decide) (by decide) (by decide) (by decide)]; exact h0
  · rw [e 2 (by decide) (by decide) (by decide) (by decide) (by decide)]; exact h2
  · rw [e 3 (by decide) (by decide) (by decide) (by decide) (by decide)]; exact h3
  · rw [e 4 (by decide) (by decide) (by decide) (by decide) (by decide)]; exact h4
  · rw [e 6 (by decide) (by decide) (by decide) (by decide) (by decide)]; exact h6
  · rw [e9]; omega
  · rw [e9, e8]; omega
  · rw [e8]; omega
theorem lg_force {w : Int32} {b : Nat → Int32} (h : ¬ lg w b = 0) : 0 < b 5 := by
  unfold lg at h
  split at h
  · next c => exact c
  · exact absurd rfl h
theorem Bd_tick {v : Nat → Int32} (h : Bd0 v) (hc : (v 8).toInt < 99999) : Bd (s5 (tv v)) := by
  have h8 : tw v 8 = v 8 := tw_at _ _ (by decide) (by decide) (by decide)
  unfold tv
  split
  · exact Bd_s5 (Bd_tw h).bd (by rw [h8]; exact hc)
  · next c => exact Bd_s54 (Bd_tw h) (by rw [h8]; exact hc) (lg_force c)
theorem AgL_stl {z : Int32} {i : Nat} {v : Nat → Int32} {q u : Int64 × (Nat → Int64)} (h1 : q.1 = u.1) (h2 : AgL q.2 u.2) : (stl z i v q).1 = (stl z i v u).1 ∧ AgL (stl z i v q).2 (stl z i v u).2 := by
  unfold stl
  split
  · exact ⟨h1, h2⟩
  · next c =>
    refine ⟨rfl, fun j hj => ?_⟩
    simp only [updL_at]
    by_cases ci : j = i
    · rw [if_pos ci, if_pos ci, h1, h2 i (by omega)]
    · rw [if_neg ci, if_neg ci]; exact h2 j hj
theorem AgL_tq {z : Int32} {v : Nat → Int32} {q u : Int64 × (Nat → Int64)} (h1 : q.1 = u.1) (h2 : AgL q.2 u.2) : AgL (tq z v q).2 (tq z v u).2 := by
  unfold tq
  obtain ⟨a1, a2⟩ := AgL_stl (z := z) (i := 0) (v := v) h1 h2
  obtain ⟨b1, b2⟩ := AgL_stl (z := z) (i := 1) (v := s1 v) a1 a2
  obtain ⟨c1, c2⟩ := AgL_stl (z := z) (i := 2) (v := s2 (s1 v)) b1 b2
  obtain ⟨d1, d2⟩ := AgL_stl (z := z) (i := 1) (v := tw v) c1 c2
  exact (AgL_stl (z := z) (i := 3) (v := tv v) d1 d2).2
theorem tq_1 (v : Nat → Int32) (q : Int64 × (Nat → Int64)) : (tq 1 v q).1 = En (tv v) := rfl
/-- class and model at rest alike -/
def RN (L : List Pu) (b : Nat → Int32) (se : Int64) (A : Nat → Int64) (k : Int32) (t w s n : Nat → Int32) (A9 : Nat → Int64) : Prop := RBal L b k t w s n ∧ se = En n ∧ AgL A A9 ∧ Bd n ∧ ∀ q ∈ L, pok q
def Fr (m n : Nat → Int32) : Prop := ∀ j, (12 ≤ j ∧ j < 15) ∨ 39 ≤ j → m j = n j
theorem R_tickN {L : List Pu} {b : Nat → Int32} {se : Int64} {A : Nat → Int64} {k : Int32} {t w s n : Nat → Int32} {A9 : Nat → Int64} (h : RN L b se A k t w s n A9) (hc : (n 8).toInt < 99999) (im be bg tx ta fa cl : Int32) (hbe : ¬ be < 0) (fb : Nat → Int32) :
    ∃ (x : Int32) (b2 : Nat → Int32) (se2 : Int64) (A2 : Nat → Int64) (o : Int32 × (Nat → Int32) × (Nat → Int32) × (Nat → Int32)) (A92 : Nat → Int64) (fb2 n2 : Nat → Int32) (L2 : List Pu),
      fX0_tick b se 1 A k s t w = some (x, b2, se2, A2, o) ∧ fX9_tick im be bg tx ta fa cl A9 fb n = some (if x = 0 then be else be + 1, A92, fb2, n2) ∧
      RN L2 b2 se2 A2 o.1 o.2.2.1 o.2.2.2 o.2.1 n2 A92 ∧ n2 8 = n 8 + 1 ∧ Fr n2 n := by
  obtain ⟨hR, hse, hA, hB, hp⟩ := h
  obtain ⟨b2, o, n2, ht, ht9, hR2, hag, hfr⟩ := R_tick hR im be bg tx ta fa cl hbe se 1 A A9 fb
  generalize hv : dps n (L.filter (fun q => decide (q.1 = n 8))) = v at ht ht9 hag
  have h8 : v 8 = n 8 := by rw [← hv, dps_at _ _ _ (by decide) (by decide) (by decide) (by decide)]
  have hB0 : Bd0 v := by rw [← hv]; exact Bd0_dps _ hB.1 (fun q hq => hp q (List.mem_filter.mp hq).1)
  refine ⟨_, b2, _, _, o, _, _, n2, _, ht, ht9, ⟨hR2, ?_, AgL_tq hse hA, (Bd_tick hB0 (by rw [h8]; exact hc)).e hag, fun q hq => hp q (List.mem_filter.mp hq).1⟩, ?_, hfr⟩
  · rw [tq_1, Ag_En (Nat.le_refl _) hag]; rfl
  · rw [hag 8 (by decide), s5_8, tv_at _ _ (by decide) (by decide) (by decide) (by decide) (by decide) (by decide), h8]
theorem Fr.rf {n : Nat → Int32} : Fr n n := fun _ _ => rfl
theorem Fr.tr {m n u : Nat → Int32} (h : Fr m n) (g : Fr n u) : Fr m u := fun j hj => (h j hj).trans (g j hj)
theorem go_both (ik im tx ta fa cl bg : Int32) (N : Nat) (hN : N ≤ 400) : ∀ (r i fu fu9 : Nat) (L : List Pu) (b : Nat → Int32) (se : Int64) (A : Nat → Int64) (k : Int32) (t w s : Nat → Int32) (be : Int32) (A9 : Nat → Int64) (fb n : Nat → Int32),
    i + r = N → r < fu → r < fu9 → RN L b se A k t w s n A9 → (n 8).toInt + (r : Int) ≤ 99999 → 0 ≤ be.toInt → be.toInt ≤ i →
    ∃ o m, fX8_go_38 (nI N) ik 1 fu be (nI i) b se A k s t w = some o ∧ fX9_goes_18 (nI N) im tx ta fa cl fu9 (nI i) be bg A9 fb n = some m ∧
      o.1 = m.1 ∧ (∃ L2, RN L2 o.2.1 o.2.2.1 o.2.2.2.1 o.2.2.2.2.1 o.2.2.2.2.2.2.1 o.2.2.2.2.2.2.2 o.2.2.2.2.2.1 m.2.2.2.2 m.2.2.1) ∧ Fr m.2.2.2.2 n ∧ 0 ≤ m.1.toInt ∧ m.1.toInt ≤ 400 := by
  intro r
  induction r with
  | zero =>
    intro i fu fu9 L b se A k t w s be A9 fb n hi hf hf9 hR hc h1 h2
    obtain ⟨f, rfl⟩ : ∃ f, fu = f + 1 := ⟨fu - 1, by omega⟩
    obtain ⟨f9, rfl⟩ : ∃ f, fu9 = f + 1 := ⟨fu9 - 1, by omega⟩
    have hle : nI N ≤ nI i := nI_le (by omega) (by omega)
    apply mk2
    · rw [fX8_go_38, if_pos hle]
    · rw [fX9_goes_18, if_pos hle]
    · exact ⟨rfl, ⟨L, hR⟩, Fr.rf, h1, by show be.toInt ≤ 400; omega⟩
  | succ r ih =>
    intro i fu fu9 L b se A k t w s be A9 fb n hi hf hf9 hR hc h1 h2
    obtain ⟨f, rfl⟩ : ∃ f, fu = f + 1 := ⟨fu - 1, by omega⟩
    obtain ⟨f9, rfl⟩ : ∃ f, fu9 = f + 1 := ⟨fu9 - 1, by omega⟩
    have hle : ¬ nI N ≤ nI i := nI_ge (by omega) (by omega)
    have hn8 := hR.2.2.2.1.1.2.2.2.2.2.2
    obtain ⟨x, b2, se2, A2, o, A92, fb2, n2, L2, ht, ht9, hR2, h8, hfr⟩ := R_tickN hR (by omega) im be bg tx ta fa cl (by rw [i_lt, c_0]; omega) fb
    have h8i : (n2 8).toInt = (n 8).toInt + 1 := by
      rw [h8, i_add (by rw [c_1]; omega) (by rw [c_1]; omega), c_1]
    have hbt := be_tick be x h1 (by omega)
    obtain ⟨o3, m3, e1, e2, e3, e4, e5, e6⟩ := ih (i + 1) f f9 L2 b2 se2 A2 o.1 o.2.2.1 o.2.2.2 o.2.1 (if x = 0 then be else be + 1) A92 fb2 n2 (by omega) (by omega) (by omega) hR2 (by omega) hbt.1 (by have := hbt.2; omega)
    refine ⟨o3, m3, ?_, ?_, e3, e4, e5.tr hfr, e6⟩
    · rw [fX8_go_38, if_neg hle, ht, Option.bind_some, ← e1]
      by_cases cx : x = 0
      · rw [if_pos cx, if_pos cx, lt_eq, nI_1]
      · rw [if_neg cx, if_neg cx, lt_eq, lt_eq, nI_1]
    · rw [fX9_goes_18, if_neg hle, ht9, Option.bind_some, lt_eq, nI_1]
      exact e2
theorem A_go {L : List Pu} {b : Nat → Int32} {se : Int64} {A : Nat → Int64} {k : Int32} {t w s n : Nat → Int32} {A9 : Nat → Int64} (h : RN L b se A k t w s n A9) (i1 ik im be bg tx ta fa cl : Int32) (fb : Nat → Int32) :
    ∃ o m, fX8_go i1 ik b se 1 A k s t w = some o ∧ fX9_go i1 im be bg tx ta fa cl A9 fb n = some m ∧
      o.1 = m.1 ∧ (∃ L2, RN L2 o.2.1 o.2.2.1 o.2.2.2.1 o.2.2.2.2.1 o.2.2.2.2.2.2.1 o.2.2.2.2.2.2.2 o.2.2.2.2.2.1 m.2.2.2.2.2 m.2.2.2.1) ∧ Fr m.2.2.2.2.2 n ∧ Bq be m.2.1 := by
  have hb8 : b 8 = n 8 := h.1.1 8 (by decide)
  obtain ⟨hn1, hn2, hn3⟩ := h.2.2.2.1.1.2.2.2.2.2.2
  by_cases hi : bw i1 1 400 = 0
  · apply mk2
    · unfold fX8_go
      rw [p_bw, Option.bind_some, if_pos hi]
    · unfold fX9_go
      rw [q_bw, Option.bind_some, if_pos hi]
    · exact ⟨rfl, ⟨L, h⟩, Fr.rf, Or.inl rfl⟩
  obtain ⟨ha, hb⟩ := bw_0 hi
  obtain ⟨N, hN, rfl⟩ := nI_of2 (M := 400) (n := 400) (x := i1) rfl (by rw [i_lt, c_0]; have := i_le.mp (Int32.not_lt.mp ha); rw [c_1] at this; omega) (Int32.not_lt.mp hb)
  have hNt : (nI N).toInt = N := nI_toInt (by omega)
  have h99 : (99999 : Int32).toInt = 99999 := by decide
  have c1 : ((99999 : Int32) - nI N).toInt = 99999 - N := by rw [i_sub (by rw [h99]; omega) (by rw [h99]; omega), h99, hNt]
  have c2 : (n 8 + nI N).toInt = (n 8).toInt + N := by rw [i_add (by omega) (by omega), hNt]
  by_cases hc : (n 8).toInt + N ≤ 99999
  · obtain ⟨o, m, e1, e2, e3, e4, e5, e6, e7⟩ := go_both ik im tx ta fa cl (n 8) N hN N 0 500 500 L b se A k t w s 0 A9 fb n (by omega) (by omega) (by omega) h hc (by decide) (by decide)
    apply mk2
    · unfold fX8_go
      rw [p_bw, Option.bind_some, if_neg hi, hb8, if_pos (by rw [i_le, c1]; omega)]
      exact e1
    · unfold fX9_go fX9_goes
      rw [q_bw, Option.bind_some, if_neg hi, if_pos (by rw [i_le, c2, h99]; omega), lt_eq, show (0 : Int32) = nI 0 from rfl, show fX9_goes_18 (nI N) im tx ta fa cl 500 (nI 0) (nI 0) (n 8) A9 fb n = some m from e2, Option.bind_some]
    · refine ⟨e3, e4, e5, Or.inr ⟨m.1.toInt.toNat, by omega, ?_⟩⟩
      show m.1 = _
      rw [i_eq, nI_toInt (by omega)]
      omega
  · apply mk2
    · unfold fX8_go
      rw [p_bw, Option.bind_some, if_neg hi, hb8, if_neg (by rw [i_le, c1]; omega)]
    · unfold fX9_go
      rw [q_bw, Option.bind_some, if_neg hi, if_neg (by rw [i_le, c2, h99]; omega)]
    · exact ⟨rfl, ⟨L, h⟩, Fr.rf, Or.inl rfl⟩
