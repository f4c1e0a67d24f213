/-! FITS -/
def SeenOk (c : Nat) (kS : Int32) (ff fs n : Nat → Int32) : Prop := c ≤ 5 ∧ kS = nI c ∧ Sm c ff fs n ∧ ∀ i, i < c → 0 ≤ (ff i).toInt ∧ (ff i).toInt ≤ 400
theorem R_gs {L : List Pu} {b : Nat → Int32} {k : Int32} {t w s n : Nat → Int32} (h : RBal L b k t w s n) {c : Nat} {kS : Int32} {ff fs : Nat → Int32} (hS : SeenOk c kS ff fs n) (v : Int32) (ik z_h : Int32) (se : Int64) (z : Int32) (A : Nat → Int64) (b_h : Nat → Int32) (se_h : Int64) (f_hA : Nat → Int64) (k_hP : Int32) (s_h t_h w_h : Nat → Int32) (im be bg tx ta fa cl : Int32) (A9 H9 : Nat → Int64) (fb fh n1 : Nat → Int32) (hn1 : Ag 69 n1 n) (hb1 : 0 ≤ be.toInt) (hb2 : be.toInt < 890000000) :
    ∃ o H2 h2 o7 A4 n4, fX8_goesAsSeen v ik b_h se_h z_h f_hA k_hP b se z kS s_h t_h w_h A k ff fs s t w = some o ∧ fX9_lays im be bg tx ta fa cl A9 H9 fh n1 = some (H2, h2) ∧ fX9_isSeen im be bg tx ta fa cl A9 fb (upd n1 2 v) = some o7 ∧ fX9_back im o7.2.1 bg tx ta fa cl o7.2.2.1 H2 h2 o7.2.2.2.2 = some (A4, n4) ∧ o.1 = o7.1 ∧ (o.1 = 0 ∨ o.1 = 1) ∧ BeOk be o7.2.1 401 ∧ AgL A4 A9 ∧ Ag 69 n4 n := by
  obtain ⟨hc, hk, hSm, hff⟩ := hS
  obtain ⟨b2, A2, o, hcp, hag, -, hrp⟩ := p_bcopy h.2.2.1 b_h se_h z_h b se z f_hA k_hP A s_h t_h w_h
  have hR := ((h.ag hn1).cp hag hrp).put 2 (by decide) v
  obtain ⟨H2, h2, l1, l2, l3⟩ := q_lays im be bg tx ta fa cl A9 H9 fh n1
  obtain ⟨g, g1, g2, g3, g4⟩ := p_great c (by omega) ff hff c 0 500 (-1) (by omega) (by omega) (by decide) (by decide) (fun i hi => by omega)
  have hSu : Sm c ff fs (upd n1 2 v) := hSm.of (fun j hj => by rw [upd_at, if_neg (by omega)]; exact hn1 j (by omega)) hc
  obtain ⟨o8, m8, e1, e2, e3, e4, e5⟩ := R_seen2 v ik z_h b se z A k t w s im bg tx ta fa cl c hc ff fs g g2 g3 g4 401 0 500 500 L (upd b2 2 v) se A2 o.1 o.2.2.1 o.2.2.2 o.2.1 be A9 fb (upd n1 2 v) hR hSu (by omega) (by omega) (by omega) hb1 (by omega)
  obtain ⟨A4, n4, k1, k2, k3⟩ := q_back im m8.2.1 bg tx ta fa cl m8.2.2.1 H2 h2 m8.2.2.2.2
  refine ⟨o8, H2, h2, m8, A4, n4, ?_, l1, e2, k1, e3, e4, e5, fun j hj => (k2 j hj).trans (l2 j hj), fun j hj => ((k3 j hj).trans (l3 j hj)).trans (hn1 j hj)⟩
  subst hk
  unfold fX8_goesAsSeen
  rw [hcp, Option.bind_some, show (2 : Int32) = nI 2 from rfl, p_put 2 (by decide), Option.bind_some]
  rw [show fX3_greatestFirst (nI c) ff = some g from g1, Option.bind_some]
  exact e1
def hdF (F : List Nat) : Int32 := match F with
  | [] => -5
  | v :: _ => nI v
theorem rng_snoc (P : Nat → Bool) (i : Nat) (hi : 1 ≤ i) : (List.range' 1 (i + 1 - 1)).filter P = (List.range' 1 (i - 1)).filter P ++ (if P i = true then [i] else []) := by
  obtain ⟨d, rfl⟩ : ∃ d, i = d + 1 := ⟨i - 1, by omega⟩
  rw [show d + 1 + 1 - 1 = d + 1 by omega, show d + 1 - 1 = d by omega, List.range'_concat, List.filter_append]
  congr 1
  rw [show 1 + 1 * d = d + 1 by omega, List.filter_cons, List.filter_nil]
theorem rng_cons (P : Nat → Bool) (i : Nat) (hi : i + 1 ≤ 32) : (List.range' (i + 1) (32 - i)).filter P = (if P (i + 1) = true then [i + 1] else []) ++ (List.range' (i + 1 + 1) (32 - (i + 1))).filter P := by
  obtain ⟨d, hd⟩ : ∃ d, 32 - i = d + 1 := ⟨32 - i - 1, by omega⟩
  rw [hd, show 32 - (i + 1) = d by omega, List.range'_succ, List.filter_cons]
  split <;> rfl
theorem C_fits (i1 ik z_h : Int32) (b : Nat → Int32) (se : Int64) (z : Int32) (kS : Int32) (A : Nat → Int64) (k : Int32) (ff fs s t w : Nat → Int32) (P : Nat → Bool)
    (hC : ∀ (v : Nat) (b_h : Nat → Int32) (se_h : Int64) (f_hA : Nat → Int64) (k_hP : Int32) (s_h t_h w_h : Nat → Int32), ∃ o, fX8_goesAsSeen (nI v) ik b_h se_h z_h f_hA k_hP b se z kS s_h t_h w_h A k ff fs s t w = some o ∧ (o.1 = 0 ↔ P v = false)) : ∀ (r i fu : Nat) (F : List Nat) (b_h : Nat → Int32) (se_h : Int64) (f_hA : Nat → Int64) (k_hP : Int32) (s_h t_h w_h : Nat → Int32), i + r = 33 → 1 ≤ i → r < fu → F = (List.range' 1 (i - 1)).filter P →
    ∃ o, fX8_fits_19 i1 ik z_h b se z kS A k ff fs s t w fu (nI F.length) (hdF F) (nI i) b_h se_h f_hA k_hP s_h t_h w_h = some o ∧ o.1 = if i1 = 0 then nI ((List.range' 1 32).filter P).length else hdF ((List.range' 1 32).filter P) := by
  intro r
  induction r with
  | zero =>
    intro i fu F b_h se_h f_hA k_hP s_h t_h w_h hi h1 hf hF
    obtain ⟨f, rfl⟩ : ∃ f, fu = f + 1 := ⟨fu - 1, by omega⟩
    have hi2 : i = 33 := by omega
    subst hi2
    rw [show 33 - 1 = 32 from rfl] at hF
    rw [fX8_fits_19, if_pos (show (32 : Int32) < nI 33 by decide), ← hF]
    by_cases c : i1 = 0
    · rw [if_pos c, if_pos c]; exact ⟨_, rfl, rfl⟩
    · rw [if_neg c, if_neg c]; exact ⟨_, rfl, rfl⟩
  | succ r ih =>
    intro i fu F b_h se_h f_hA k_hP s_h t_h w_h hi h1 hf hF
    obtain ⟨f, rfl⟩ : ∃ f, fu = f + 1 := ⟨fu - 1, by omega⟩
    obtain ⟨o, ho, hP⟩ := hC i b_h se_h f_hA k_hP s_h t_h w_h
    have hlen : F.length ≤ i - 1 := by
      rw [hF]
      exact Nat.le_trans (List.length_filter_le _ _) (by rw [List.length_range']; omega)
    rw [fX8_fits_19, if_neg (show ¬ (32 : Int32) < nI i from nI_nlt (b := i) (a := 32) (by omega) (by decide)), ho, Option.bind_some]
    simp only [lt_eq, nI_1]
    have hs := rng_snoc P i h1
    by_cases c : o.1 = 0
    · rw [if_pos c]
      rw [hP.mp c] at hs
      simp only [Bool.false_eq_true, if_false, List.append_nil] at hs
      exact ih (i + 1) f F _ _ _ _ _ _ _ (by omega) (by omega) (by omega) (by rw [hs]; exact hF)
    · rw [if_neg c]
      have hPt : P i = true := by
        cases hb : P i with
        | true => rfl
        | false => exact absurd (hP.mpr hb) c
      rw [hPt, if_pos rfl, ← hF] at hs
      have hl2 : (F ++ [i]).length = F.length + 1 := by simp
      by_cases c2 : F = []
      · subst c2
        rw [if_pos (show nI (([] : List Nat).length + 1) = 1 from rfl)]
        exact ih (i + 1) f [i] _ _ _ _ _ _ _ (by omega) (by omega) (by omega) (by rw [hs]; rfl)
      · have hne : ¬ nI (F.length + 1) = 1 := by
          rw [show (1 : Int32) = nI 1 from rfl, nI_eq (by omega) (by decide)]
          have := List.length_pos_iff.mpr c2
          omega
        rw [if_neg hne]
        have hh : hdF F = hdF (F ++ [i]) := by
          cases F with
          | nil => exact absurd rfl c2
          | cons x y => rfl
        rw [hh, ← hl2]
        exact ih (i + 1) f (F ++ [i]) _ _ _ _ _ _ _ (by omega) (by omega) (by omega) hs.symm
theorem M_fits (i1 im bg tx ta fa cl : Int32) (n : Nat → Int32) (P : Nat → Bool)
    (hM : ∀ (v : Nat) (be : Int32) (A9 H9 : Nat → Int64) (fb fh n1 : Nat → Int32), Ag 69 n1 n → 0 ≤ be.toInt → be.toInt < 890000000 → ∃ H2 h2 o7 A4 n4, fX9_lays im be bg tx ta fa cl A9 H9 fh n1 = some (H2, h2) ∧ fX9_isSeen im be bg tx ta fa cl A9 fb (upd n1 2 (nI v)) = some o7 ∧ fX9_back im o7.2.1 bg tx ta fa cl o7.2.2.1 H2 h2 o7.2.2.2.2 = some (A4, n4) ∧ (o7.1 = 0 ↔ P v = false) ∧ BeOk be o7.2.1 401 ∧ AgL A4 A9 ∧ Ag 69 n4 n) :
    ∀ (i fu : Nat) (G : List Nat) (be : Int32) (A9 H9 : Nat → Int64) (fb fh n1 : Nat → Int32), i ≤ 32 → i < fu → G = (List.range' (i + 1) (32 - i)).filter P → Ag 69 n1 n → 0 ≤ be.toInt → be.toInt + 401 * (i : Int) < 880000000 →
    ∃ m, fX9_fits_20 i1 im bg tx ta fa cl fu (nI G.length) (hdF G) (nI i) be A9 H9 fb fh n1 = some m ∧ m.1 = (if i1 = 0 then nI ((List.range' 1 32).filter P).length else hdF ((List.range' 1 32).filter P)) ∧ AgL m.2.2.1 A9 ∧ Ag 69 m.2.2.2.2.2.2 n ∧ BeOk be m.2.1 (401 * i) := by
  intro i
  induction i with
  | zero =>
    intro fu G be A9 H9 fb fh n1 hi hf hG hn hb1 hb2
    obtain ⟨f, rfl⟩ : ∃ f, fu = f + 1 := ⟨fu - 1, by omega⟩
    rw [show (32 - 0) = 32 from rfl, show 0 + 1 = 1 from rfl] at hG
    rw [fX9_fits_20, if_pos (show nI 0 ≤ 0 by decide), ← hG]
    by_cases c : i1 = 0
    · rw [if_pos c, if_pos c]; exact ⟨_, rfl, rfl, AgL.rf, hn, show BeOk be be 0 from ⟨hb1, by omega⟩⟩
    · rw [if_neg c, if_neg c]; exact ⟨_, rfl, rfl, AgL.rf, hn, show BeOk be be 0 from ⟨hb1, by omega⟩⟩
  | succ i ih =>
    intro fu G be A9 H9 fb fh n1 hi hf hG hn hb1 hb2
    obtain ⟨f, rfl⟩ : ∃ f, fu = f + 1 := ⟨fu - 1, by omega⟩
    obtain ⟨H2, h2, o7, A4, n4, l1, e1, k1, hP, hbo, hA, hn4⟩ := hM (i + 1) be A9 H9 fb fh n1 hn hb1 (by omega)
    rw [fX9_fits_20, if_neg (nI_nle (by omega) (by omega)), l1, Option.bind_some, lt_eq, e1, Option.bind_some, k1, Option.bind_some]
    simp only [lt_eq, pk_m1, nI_1]
    have hs := rng_cons P i hi
    by_cases c : o7.1 = 0
    · rw [if_pos c]
      rw [hP.mp c] at hs
      simp only [Bool.false_eq_true, if_false, List.nil_append] at hs
      obtain ⟨m, e2, e3, e4, e5, e6⟩ := ih f G o7.2.1 A4 H2 o7.2.2.2.1 h2 n4 (by omega) (by omega) (by rw [hs]; exact hG) hn4 hbo.1 (by have := hbo.2; omega)
      exact ⟨m, e2, e3, fun j hj => (e4 j hj).trans (hA j hj), e5, ⟨e6.1, by have := hbo.2; have := e6.2; omega⟩⟩
    · rw [if_neg c]
      have hPt : P (i + 1) = true := by
        cases hb : P (i + 1) with
        | true => rfl
        | false => exact absurd (hP.mpr hb) c
      rw [hPt, if_pos rfl, ← hG] at hs
      obtain ⟨m, e2, e3, e4, e5, e6⟩ := ih f ((i + 1) :: G) o7.2.1 A4 H2 o7.2.2.2.1 h2 n4 (by omega) (by omega) hs.symm hn4 hbo.1 (by have := hbo.2; omega)
      exact ⟨m, e2, e3, fun j hj => (e4 j hj).trans (hA j hj), e5, ⟨e6.1, by have := hbo.2; have := e6.2; omega⟩⟩
theorem A_fits {L : List Pu} {b : Nat → Int32} {k : Int32} {t w s n : Nat → Int32} (h : RBal L b k t w s n) {c : Nat} {kS : Int32} {ff fs : Nat → Int32} (hS : SeenOk c kS ff fs n) (i1 ik : Int32) (b_h : Nat → Int32) (se_h : Int64) (z_h : Int32) (f_hA : Nat → Int64) (k_hP : Int32) (se : Int64) (z : Int32) (s_h t_h w_h : Nat → Int32) (A : Nat → Int64) (im be bg tx ta fa cl : Int32) (A9 H9 : Nat → Int64) (fb fh : Nat → Int32) (hb1 : 0 ≤ be.toInt) (hb2 : be.toInt < 800000000) :
    ∃ o m, fX8_fits i1 ik b_h se_h z_h f_hA k_hP b se z kS s_h t_h w_h A k ff fs s t w = some o ∧ fX9_fits i1 im be bg tx ta fa cl A9 H9 fb fh n = some m ∧ o.1 = m.1 ∧ AgL m.2.2.1 A9 ∧ Ag 69 m.2.2.2.2.2.2 n ∧ BeOk be m.2.1 13000 := by
  by_cases hp : bw i1 0 1 = 0
  · apply mk2
    · unfold fX8_fits
      rw [p_bw, Option.bind_some, if_pos hp]
    · unfold fX9_fits
      rw [q_bw, Option.bind_some, if_pos hp]
    · exact ⟨rfl, AgL.rf, Ag.rf, show BeOk be be 13000 from ⟨hb1, by omega⟩⟩
  · obtain ⟨P, hPd⟩ : ∃ P : Nat → Bool, P = fun v => match fX8_goesAsSeen (nI v) ik b_h se_h z_h f_hA k_hP b se z kS s_h t_h w_h A k ff fs s t w with
      | none => false
      | some o => !decide (o.1 = 0) := ⟨_, rfl⟩
    have hP0 : ∀ v o, fX8_goesAsSeen (nI v) ik b_h se_h z_h f_hA k_hP b se z kS s_h t_h w_h A k ff fs s t w = some o → (o.1 = 0 ↔ P v = false) := by
      intro v o ho
      rw [hPd]
      simp only [ho]
      simp
    obtain ⟨o, e1, e2⟩ := C_fits i1 ik z_h b se z kS A k ff fs s t w P (fun v b_h2 se_h2 f_hA2 k_hP2 s_h2 t_h2 w_h2 => by
      obtain ⟨o, H2, h2, o7, A4, n4, q1, q2, q3, q4, q5, -⟩ := R_gs h hS (nI v) ik z_h se z A b_h2 se_h2 f_hA2 k_hP2 s_h2 t_h2 w_h2 im be bg tx ta fa cl A9 H9 fb fh n Ag.rf hb1 (by omega)
      obtain ⟨o', H2', h2', o7', A4', n4', r1, r2, r3, r4, r5, -⟩ := R_gs h hS (nI v) ik z_h se z A b_h se_h f_hA k_hP s_h t_h w_h im be bg tx ta fa cl A9 H9 fb fh n Ag.rf hb1 (by omega)
      rw [q3] at r3
      have r3 := Option.some.inj r3
      refine ⟨o, q1, ?_⟩
      rw [q5, r3, ← r5]
      exact hP0 v o' r1) 32 1 500 [] b_h se_h f_hA k_hP s_h t_h w_h (by omega) (by omega) (by omega) rfl
    obtain ⟨m, e3, e4, e5, e6, e7⟩ := M_fits i1 im bg tx ta fa cl n P (fun v be2 A92 H92 fb2 fh2 n1 hn1 hc1 hc2 => by
      obtain ⟨o, H2, h2, o7, A4, n4, q1, q2, q3, q4, q5, q6, q7, q8, q9⟩ := R_gs h hS (nI v) ik z_h se z A b_h se_h f_hA k_hP s_h t_h w_h im be2 bg tx ta fa cl A92 H92 fb2 fh2 n1 hn1 hc1 hc2
      exact ⟨H2, h2, o7, A4, n4, q2, q3, q4, by rw [← q5]; exact hP0 v o q1, q7, q8, q9⟩) 32 500 [] be A9 H9 fb fh n (by omega) (by omega) rfl Ag.rf hb1 (by omega)
    apply mk2
    · unfold fX8_fits
      rw [p_bw, Option.bind_some, if_neg hp]
      exact e1
    · unfold fX9_fits
      rw [q_bw, Option.bind_some, if_neg hp]
      exact e3
    · exact ⟨e2.trans e4.symm, e5, e6, ⟨e7.1, by have := e7.2; omega⟩⟩
