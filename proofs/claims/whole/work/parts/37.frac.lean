/-! fractions in lowest terms -/
theorem lg_eq0 (x : Int64) : lg_cmp x 0 = 0 ↔ x = 0 := by
  unfold lg_cmp
  by_cases c : x > 0
  · rw [if_pos c]
    constructor
    · intro e; exact absurd e (by decide)
    · intro e; rw [e] at c; exact absurd c (by decide)
  · rw [if_neg c]
    by_cases c2 : x = 0
    · rw [if_pos c2]; exact ⟨fun _ => c2, fun _ => rfl⟩
    · rw [if_neg c2]
      constructor
      · intro e; exact absurd e (by decide)
      · intro e; exact absurd e c2
theorem lN_0 : lN 0 = 0 := rfl
theorem lN_ne {a : Nat} (h : 0 < a) (ha : a < 2 ^ 63) : ¬ lN a = 0 := by
  rw [← lN_0, pk_lEQ ha (by decide)]; omega
theorem half_mod {b c : Nat} (hc : 0 < c) (hcb : c < b) {r : Nat} (hb : b < 2 ^ (r + 1)) : b % c < 2 ^ r := by
  have h1 : b % c < c := Nat.mod_lt _ hc
  have h2 : b % c + c * (b / c) = b := Nat.mod_add_div b c
  have h3 : 1 ≤ b / c := (Nat.le_div_iff_mul_le hc).mpr (by omega)
  have h4 : c * 1 ≤ c * (b / c) := Nat.mul_le_mul_left c h3
  rw [Nat.pow_succ] at hb
  omega
theorem p_gcd : ∀ (r a b i fu : Nat), b < 2 ^ r → a < 2 ^ 63 → b < 2 ^ 63 → i + 2 * r + 1 ≤ 200 → 2 * r + 1 < fu → fX8_commonDivisor_3 fu (lN a) (lN b) (nI i) = some (lN (Nat.gcd a b)) := by
  intro r
  induction r with
  | zero =>
    intro a b i fu hb ha hb2 hi hf
    obtain ⟨f, rfl⟩ : ∃ f, fu = f + 1 := ⟨fu - 1, by omega⟩
    have hb0 : b = 0 := by simp at hb; exact hb
    subst hb0
    rw [fX8_commonDivisor_3, if_neg (show ¬ (200 : Int32) ≤ nI i from nI_ge (b := 200) (by omega) (by decide)), if_pos ((lg_eq0 _).mpr lN_0), Nat.gcd_zero_right]
  | succ r ih =>
    intro a b i fu hb ha hb2 hi hf
    obtain ⟨f, rfl⟩ : ∃ f, fu = f + 2 := ⟨fu - 2, by omega⟩
    have n1 : ¬ (200 : Int32) ≤ nI i := nI_ge (b := 200) (by omega) (by decide)
    have n2 : ¬ (200 : Int32) ≤ nI (i + 1) := nI_ge (b := 200) (by omega) (by decide)
    by_cases hb0 : b = 0
    · subst hb0
      rw [fX8_commonDivisor_3, if_neg n1, if_pos ((lg_eq0 _).mpr lN_0), Nat.gcd_zero_right]
    · have hne := lN_ne (a := b) (by omega) hb2
      have hm : a % b < b := Nat.mod_lt _ (by omega)
      rw [fX8_commonDivisor_3, if_neg n1, if_neg (fun e => hne ((lg_eq0 _).mp e)), gd_t (by simpa using hne), lt_eq, lt_eq, pk_lRem ha (by omega) hb2, nI_1]
      by_cases hc : a % b = 0
      · have hg : Nat.gcd a b = b := by rw [Nat.gcd_comm, Nat.gcd_rec, hc, Nat.gcd_zero_left]
        rw [hc, fX8_commonDivisor_3, if_neg n2, if_pos ((lg_eq0 _).mpr lN_0), hg]
      · have hne2 := lN_ne (a := a % b) (by omega) (by omega)
        rw [fX8_commonDivisor_3, if_neg n2, if_neg (fun e => hne2 ((lg_eq0 _).mp e)), gd_t (by simpa using hne2), lt_eq, lt_eq, pk_lRem hb2 (by omega) (by omega), nI_1]
        rw [ih (a % b) (b % (a % b)) (i + 1 + 1) f (half_mod (by omega) hm hb) (by omega) (by have := Nat.mod_lt b (show 0 < a % b by omega); omega) (by omega) (by omega)]
        congr 2
        rw [Nat.gcd_comm a b, Nat.gcd_rec b a, Nat.gcd_rec (a % b) b, Nat.gcd_comm]
theorem q_low (i0 i2 : Int64) (i4 : Int32) : ∀ (r a b fu : Nat), b < 2 ^ r → a < 2 ^ 63 → b < 2 ^ 63 → 2 * r + 1 < fu → 0 < Nat.gcd a b → Nat.gcd a b < 2 ^ 63 → fX9_lowest_6 i0 i2 i4 fu (lN a) (lN b) = some (if i4 = 0 then i0 / lN (Nat.gcd a b) else i2 / lN (Nat.gcd a b)) := by
  intro r
  induction r with
  | zero =>
    intro a b fu hb ha hb2 hf hg hg2
    obtain ⟨f, rfl⟩ : ∃ f, fu = f + 1 := ⟨fu - 1, by omega⟩
    have hb0 : b = 0 := by simp at hb; exact hb
    subst hb0
    have hne := lN_ne hg hg2
    rw [Nat.gcd_zero_right] at hne ⊢
    rw [fX9_lowest_6, if_pos ((lg_eq0 _).mpr lN_0), gd_t (by simpa using hne), gd_t (by simpa using hne)]
    split <;> rfl
  | succ r ih =>
    intro a b fu hb ha hb2 hf hg hg2
    obtain ⟨f, rfl⟩ : ∃ f, fu = f + 2 := ⟨fu - 2, by omega⟩
    by_cases hb0 : b = 0
    · subst hb0
      have hne := lN_ne hg hg2
      rw [Nat.gcd_zero_right] at hne ⊢
      rw [fX9_lowest_6, if_pos ((lg_eq0 _).mpr lN_0), gd_t (by simpa using hne), gd_t (by simpa using hne)]
      split <;> rfl
    · have hne := lN_ne (a := b) (by omega) hb2
      have hm : a % b < b := Nat.mod_lt _ (by omega)
      rw [fX9_lowest_6, if_neg (fun e => hne ((lg_eq0 _).mp e)), gd_t (by simpa using hne), lt_eq, pk_lRem ha (by omega) hb2]
      by_cases hc : a % b = 0
      · have hgb : Nat.gcd a b = b := by rw [Nat.gcd_comm, Nat.gcd_rec, hc, Nat.gcd_zero_left]
        rw [hc, fX9_lowest_6, if_pos ((lg_eq0 _).mpr lN_0), hgb, gd_t (by simpa using hne), gd_t (by simpa using hne)]
        split <;> rfl
      · have hne2 := lN_ne (a := a % b) (by omega) (by omega)
        have hgg : Nat.gcd a b = Nat.gcd (a % b) (b % (a % b)) := by
          rw [Nat.gcd_comm a b, Nat.gcd_rec b a, Nat.gcd_rec (a % b) b, Nat.gcd_comm]
        rw [fX9_lowest_6, if_neg (fun e => hne2 ((lg_eq0 _).mp e)), gd_t (by simpa using hne2), lt_eq, pk_lRem hb2 (by omega) (by omega), hgg]
        rw [hgg] at hg hg2
        exact ih (a % b) (b % (a % b)) f (half_mod (by omega) hm hb) (by omega) (by have := Nat.mod_lt b (show 0 < a % b by omega); omega) (by omega) hg hg2
/-- whether a number lies between -/
def bw (v lo hi : Int32) : Int32 := if v < lo then 0 else if hi < v then 0 else 1
theorem p_bw (v lo hi : Int32) : fX8_isBetween v lo hi = some (bw v lo hi) := by
  unfold fX8_isBetween bw
  split
  · rfl
  · split <;> rfl
theorem q_bw (v lo hi : Int32) : fX9_within v lo hi = some (bw v lo hi) := p_bw v lo hi
theorem bw_0 {v lo hi : Int32} (h : ¬ bw v lo hi = 0) : ¬ v < lo ∧ ¬ hi < v := by
  unfold bw at h
  by_cases c : v < lo
  · rw [if_pos c] at h; exact absurd rfl h
  · rw [if_neg c] at h
    by_cases c2 : hi < v
    · rw [if_pos c2] at h; exact absurd rfl h
    · exact ⟨c, c2⟩
theorem bw_01 {v : Int32} (h : ¬ bw v 0 1 = 0) : v = 0 ∨ v = 1 := by
  obtain ⟨h1, h2⟩ := bw_0 h
  have a1 := i_le.mp (Int32.not_lt.mp h1)
  have a2 := i_le.mp (Int32.not_lt.mp h2)
  simp at a1 a2
  by_cases c : v.toInt = 0
  · exact Or.inl (i_eq.mpr (by rw [c]; rfl))
  · exact Or.inr (i_eq.mpr (by rw [show v.toInt = 1 by omega]; rfl))
theorem R_frac {a b : Nat} (ha : a < 2 ^ 31) (hb0 : 0 < b) (hb : b < 2 ^ 31) (i4 : Int32) : ∃ v, fX8_partOfFraction (lN a) (lN b) i4 = some (if bw i4 0 1 = 0 then (-9223372036854775808) else v) ∧ fX9_lowest (lN a) (lN b) i4 = some v := by
  have hg : 0 < Nat.gcd a b := Nat.gcd_pos_of_pos_right _ hb0
  have hg2 : Nat.gcd a b ≤ b := Nat.gcd_le_right _ hb0
  have hne := lN_ne hg (by omega)
  refine ⟨_, ?_, q_low (lN a) (lN b) i4 31 a b 500 hb (by omega) (by omega) (by omega) hg (by omega)⟩
  unfold fX8_partOfFraction fX8_commonDivisor
  rw [show (0 : Int32) = nI 0 from rfl, p_gcd 31 a b 0 500 hb (by omega) (by omega) (by omega) (by omega), Option.bind_some, p_bw, Option.bind_some]
  rw [show nI 0 = (0 : Int32) from rfl]
  by_cases c : bw i4 0 1 = 0
  · rw [if_pos c, if_pos c]
  · rw [if_neg c, if_neg c, if_neg (fun e => hne ((lg_eq0 _).mp e)), gd_t (by simpa using hne), gd_t (by simpa using hne)]
    split <;> rfl
