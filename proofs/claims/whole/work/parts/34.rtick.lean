/-! the two watches: a tick of both -/
def RBal (L : List Pu) (b : Nat → Int32) (k : Int32) (t w s : Nat → Int32) (n : Nat → Int32) : Prop :=
  Ag 11 b n ∧ RM L n ∧ RP (srt L) k t w s ∧ (∀ q ∈ L, whok q ∧ n 8 ≤ q.1) ∧ (n 7 = 0 ∨ n 7 = 1) ∧ 0 < n 6
theorem i_add {a b : Int32} (h1 : -2147483648 ≤ a.toInt + b.toInt) (h2 : a.toInt + b.toInt < 2147483648) : (a + b).toInt = a.toInt + b.toInt := by
  rw [Int32.toInt_add]
  exact Int.bmod_eq_of_le (by omega) (by omega)
theorem i_sub {a b : Int32} (h1 : -2147483648 ≤ a.toInt - b.toInt) (h2 : a.toInt - b.toInt < 2147483648) : (a - b).toInt = a.toInt - b.toInt := by
  rw [Int32.toInt_sub]
  exact Int.bmod_eq_of_le (by omega) (by omega)
theorem i_mul {a b : Int32} (h1 : -2147483648 ≤ a.toInt * b.toInt) (h2 : a.toInt * b.toInt < 2147483648) : (a * b).toInt = a.toInt * b.toInt := by
  rw [Int32.toInt_mul]
  exact Int.bmod_eq_of_le (by omega) (by omega)
theorem i_le {a b : Int32} : a ≤ b ↔ a.toInt ≤ b.toInt := Int32.le_iff_toInt_le
theorem i_lt {a b : Int32} : a < b ↔ a.toInt < b.toInt := Int32.lt_iff_toInt_lt
theorem i_eq {a b : Int32} : a = b ↔ a.toInt = b.toInt := Int32.toInt_inj.symm
theorem i_rng (a : Int32) : -2147483648 ≤ a.toInt ∧ a.toInt < 2147483648 := ⟨by have := Int32.le_toInt a; simpa using this, by have := Int32.toInt_lt a; simpa using this⟩
theorem tb_pal (v : Nat → Int32) (h : v 7 = 0 ∨ v 7 = 1) : (tv v) 7 = 0 ∨ (tv v) 7 = 1 := by
  have h7 : tw v 7 = v 7 := tw_at _ _ (by decide) (by decide) (by decide)
  unfold tv
  split
  · rw [h7]; exact h
  · unfold s4
    rw [kk2_at _ _ (by decide)]
    simp only [upd_at]
    rw [if_neg (by decide)]
    unfold kk1
    split
    · exact Or.inr (by simp [upd_at])
    · exact Or.inl (by simp [upd_at])
theorem R_tick {L : List Pu} {b : Nat → Int32} {k : Int32} {t w s n : Nat → Int32} (h : RBal L b k t w s n) (im be bg tx ta fa cl : Int32) (hbe : ¬ be < 0) (se : Int64) (z : Int32) (A A9 : Nat → Int64) (fb : Nat → Int32) :
    ∃ (b2 : Nat → Int32) (o : Int32 × (Nat → Int32) × (Nat → Int32) × (Nat → Int32)) (n2 : Nat → Int32),
      fX0_tick b se z A k s t w = some (tb (dps n (L.filter (fun q => decide (q.1 = n 8)))), b2, (tq z (dps n (L.filter (fun q => decide (q.1 = n 8)))) (se, A)).1, (tq z (dps n (L.filter (fun q => decide (q.1 = n 8)))) (se, A)).2, o) ∧
      fX9_tick im be bg tx ta fa cl A9 fb n = some (if tb (dps n (L.filter (fun q => decide (q.1 = n 8)))) = 0 then be else be + 1, (tq 1 (dps n (L.filter (fun q => decide (q.1 = n 8)))) (En n, A9)).2, if tb (dps n (L.filter (fun q => decide (q.1 = n 8)))) = 0 then fb else hb be bg (n 8) fb, n2) ∧
      RBal (L.filter (fun q => !decide (q.1 = n 8))) b2 o.1 o.2.2.1 o.2.2.2 o.2.1 n2 ∧
      Ag 11 n2 (s5 (tv (dps n (L.filter (fun q => decide (q.1 = n 8)))))) ∧ (∀ j, (12 ≤ j ∧ j < 15) ∨ 39 ≤ j → n2 j = n j) := by
  obtain ⟨hag, hrm, hrp, hq, hp, h6⟩ := h
  have hD : ∀ q ∈ srt L, n 8 ≤ q.1 := fun q hm => (hq q ((srt_mem L q).mp hm)).2
  obtain ⟨ht1, ht2⟩ := srd_take (n 8) (srt L) (srt_srd L) hD
  rw [srt_eq] at ht1
  rw [srt_ne] at ht2
  have hb8 : b 8 = n 8 := hag 8 (by decide)
  generalize hDe : L.filter (fun q => decide (q.1 = n 8)) = Dn at ht1 ⊢
  -- the class
  obtain ⟨o, ho, hro⟩ := p_bp b se z hrp
  rw [hb8, ht1] at ho
  rw [hb8, ht2] at hro
  have hagD : Ag 11 (dps b Dn) (dps n Dn) := Ag_dps (by decide) Dn hag
  have h6b : ¬ (dps b Dn) 6 ≤ 0 := by
    rw [dps_at _ _ _ (by decide) (by decide) (by decide) (by decide), hag 6 (by decide)]
    exact Int32.not_le.mpr h6
  have hcl := p_tick b se z A k s t w ho h6b
  -- the model
  obtain ⟨n0, hn0, hrm0, hlo, hhi⟩ : ∃ n0, (fX9_tick im be bg tx ta fa cl A9 fb n = fX9_tick_19 im bg tx ta fa cl (En n) be A9 fb n0) ∧ RM (L.filter (fun q => !decide (q.1 = n 8))) n0 ∧ (∀ j, j < 15 → j ≠ 11 → n0 j = dps n Dn j) ∧ ∀ j, 39 ≤ j → n0 j = n j := by
    by_cases h11 : n 11 ≤ 0
    · have hL : L = [] := by
        have hl : L.length = 0 := by
          have h1 := hrm.1
          rw [h1] at h11
          have h8 := hrm.2.1
          by_cases h0 : L.length = 0
          · exact h0
          · exact absurd h11 (nI_nle (by omega) (by omega))
        exact List.length_eq_zero_iff.mp hl
      subst hL
      refine ⟨n, ?_, hrm, fun j _ _ => by rw [← hDe]; rfl, fun _ _ => rfl⟩
      unfold fX9_tick
      rw [q_en, Option.bind_some, if_pos h11]
    · obtain ⟨n0, a1, a2, a3, a4⟩ := q_pushes im be bg tx ta fa cl hrm (fun q hm => (hq q hm).1)
      rw [hDe] at a3
      refine ⟨n0, ?_, a2, a3, a4⟩
      unfold fX9_tick
      rw [q_en, Option.bind_some, if_neg h11, a1, Option.bind_some]
  have hag0 : Ag 11 n0 (dps n Dn) := fun j hj => hlo j (by omega) (by omega)
  have hp0 : n0 7 = 0 ∨ n0 7 = 1 := by
    rw [hag0 7 (by decide), dps_at _ _ _ (by decide) (by decide) (by decide) (by decide)]; exact hp
  have h60 : n0 6 = n 6 := by rw [hag0 6 (by decide), dps_at _ _ _ (by decide) (by decide) (by decide) (by decide)]
  have h80 : n0 8 = n 8 := by rw [hag0 8 (by decide), dps_at _ _ _ (by decide) (by decide) (by decide) (by decide)]
  have h6n : ¬ n0 6 = 0 := by
    rw [h60]
    intro e
    rw [e] at h6
    exact absurd h6 (by decide)
  have hm := q_19 im bg tx ta fa cl (En n) be A9 fb n0 hbe hp0 h6n
  have h84 : (s4 (tw n0)) 8 = n 8 := by
    rw [s4_at _ _ (by decide) (by decide) (by decide) (by decide), tw_at _ _ (by decide) (by decide) (by decide), h80]
  rw [Ag_tb (by decide) hag0, Ag_tq (by decide) hag0, h84] at hm
  rw [Ag_tb (by decide) hagD, Ag_tq (by decide) hagD] at hcl
  refine ⟨s5 (tv (dps b Dn)), o, s5 (tv n0), hcl, by rw [hn0]; exact hm, ⟨?_, ?_, hro, ?_, ?_, ?_⟩, Ag_s5 (by decide) (Ag_tv (by decide) hag0), ?_⟩
  · exact Ag_s5 (by decide) (Ag_tv (by decide) (fun j hj => (hagD j hj).trans (hag0 j hj).symm))
  · refine ⟨?_, hrm0.2.1, fun j q hj => ?_⟩
    · rw [s5_at _ _ (by decide), tv_hi _ _ (by decide)]; exact hrm0.1
    · have h3 := hrm0.2.2 j q hj
      unfold P3 at h3 ⊢
      rw [s5_at _ _ (by omega), tv_hi _ _ (by omega), s5_at _ _ (by omega), tv_hi _ _ (by omega), s5_at _ _ (by omega), tv_hi _ _ (by omega)]
      exact h3
  · intro q hm2
    obtain ⟨hm3, hm4⟩ := List.mem_filter.mp hm2
    refine ⟨(hq q hm3).1, ?_⟩
    have h1 := (hq q hm3).2
    have h2 : ¬ q.1 = n 8 := by simpa using hm4
    have h5 : s5 (tv n0) 8 = n 8 + 1 := by
      unfold s5
      rw [upd_at, if_pos rfl, tv_at _ _ (by decide) (by decide) (by decide) (by decide) (by decide) (by decide), h80]
    rw [h5, i_le]
    have h1' := i_le.mp h1
    have h2' : ¬ q.1.toInt = (n 8).toInt := fun e => h2 (i_eq.mpr e)
    have r1 := i_rng q.1
    have r2 := i_rng (n 8)
    rw [i_add (by simp; omega) (by simp; omega)]
    simp
    omega
  · rw [s5_at _ _ (by decide)]
    exact tb_pal n0 hp0
  · rw [s5_at _ _ (by decide), tv_at _ _ (by decide) (by decide) (by decide) (by decide) (by decide) (by decide), h60]
    exact h6
  · intro j hj
    rw [s5_at _ _ (by omega), tv_hi _ _ (by omega)]
    rcases hj with hj | hj
    · rw [hlo j (by omega) (by omega), dps_at _ _ _ (by omega) (by omega) (by omega) (by omega)]
    · exact hhi j hj
