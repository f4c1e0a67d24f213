theorem upd_at (f : Nat → Int32) (k : Nat) (x : Int32) (j : Nat) : upd f k x j = if j = k then x else f j := rfl
theorem updL_at (f : Nat → Int64) (k : Nat) (x : Int64) (j : Nat) : vp_updL f k x j = if j = k then x else f j := rfl
/-- ENERGY -/
def En (v : Nat → Int32) : Int64 := 32 * (v 1).toInt64 * (v 1).toInt64 + (v 2).toInt64 * (v 0).toInt64 * (v 0).toInt64
/-- a row of THE ACCOUNT -/
def stl (z : Int32) (i : Nat) (v : Nat → Int32) (q : Int64 × (Nat → Int64)) : Int64 × (Nat → Int64) := if z = 0 then q else (En v, vp_updL q.2 i (q.2 i + (En v - q.1)))
def s1 (v : Nat → Int32) : Nat → Int32 := upd v 1 (v 1 - v 0 * v 2 / 32)
def s2 (v : Nat → Int32) : Nat → Int32 := if v 1 ≤ 0 then upd v 1 (if v 1 + v 3 < 0 then v 1 + v 3 else 0) else upd v 1 (if 0 < v 1 - v 3 then v 1 - v 3 else 0)
def bang (w : Nat → Int32) : Nat → Int32 := upd (upd (upd w 0 (if w 0 ≤ 0 then (-300) else 300)) 1 0) 10 (w 10 + 1)
def s3 (v : Nat → Int32) : Nat → Int32 := if 300 < v 0 + v 1 then bang (upd v 0 (v 0 + v 1)) else if (-300) ≤ v 0 + v 1 then upd v 0 (v 0 + v 1) else bang (upd v 0 (v 0 + v 1))
def lg (was : Int32) (b : Nat → Int32) : Int32 := if 0 < b 5 then (if b 7 = 0 then (if b 4 < was then 0 else if b 0 ≤ b 4 then 0 else 1) else (if was < b 4 then 0 else if b 4 ≤ b 0 then 0 else 1)) else 0
def kk1 (v : Nat → Int32) : Nat → Int32 := if v 7 = 0 then upd (upd v 1 (v 1 + (v 5 + 3) / 4)) 7 1 else upd (upd v 1 (v 1 - (v 5 + 3) / 4)) 7 0
def kk2 (v : Nat → Int32) : Nat → Int32 := if v 9 - v 9 / v 6 * v 6 = 0 then upd v 5 (v 5 - 1) else v
def s4 (v : Nat → Int32) : Nat → Int32 := kk2 (upd (kk1 v) 9 ((kk1 v) 9 + 1))
def s5 (v : Nat → Int32) : Nat → Int32 := upd v 8 (v 8 + 1)
/-- a TICK behind its pushes: whether there was a BEAT, the numbers, THE ACCOUNT -/
def tw (v0 : Nat → Int32) : Nat → Int32 := s3 (s2 (s1 v0))
def tb (v0 : Nat → Int32) : Int32 := lg ((s2 (s1 v0)) 0) (tw v0)
def tv (v0 : Nat → Int32) : Nat → Int32 := if tb v0 = 0 then tw v0 else s4 (tw v0)
def tq (z : Int32) (v0 : Nat → Int32) (q : Int64 × (Nat → Int64)) : Int64 × (Nat → Int64) :=
  stl z 3 (tv v0) (stl z 1 (tw v0) (stl z 2 (s2 (s1 v0)) (stl z 1 (s1 v0) (stl z 0 v0 q))))
theorem p_settle (i : Nat) (hi : i < 4) (b : Nat → Int32) (se : Int64) (z : Int32) (A : Nat → Int64) : fX0_settle (nI i) b se z A = some (stl z i b (se, A)) := by
  have h : i = 0 ∨ i = 1 ∨ i = 2 ∨ i = 3 := by omega
  unfold fX0_settle stl
  by_cases hz : z = 0
  · rw [if_pos hz, if_pos hz]
  · rw [if_neg hz, if_neg hz]
    rcases h with rfl | rfl | rfl | rfl <;> rfl
theorem p_settle0 (b : Nat → Int32) (se : Int64) (z : Int32) (A : Nat → Int64) : fX0_settle 0 b se z A = some (stl z 0 b (se, A)) := p_settle 0 (by decide) b se z A
theorem p_settle1 (b : Nat → Int32) (se : Int64) (z : Int32) (A : Nat → Int64) : fX0_settle 1 b se z A = some (stl z 1 b (se, A)) := p_settle 1 (by decide) b se z A
theorem p_settle2 (b : Nat → Int32) (se : Int64) (z : Int32) (A : Nat → Int64) : fX0_settle 2 b se z A = some (stl z 2 b (se, A)) := p_settle 2 (by decide) b se z A
theorem p_settle3 (b : Nat → Int32) (se : Int64) (z : Int32) (A : Nat → Int64) : fX0_settle 3 b se z A = some (stl z 3 b (se, A)) := p_settle 3 (by decide) b se z A
theorem p_drag (b : Nat → Int32) (se : Int64) (z : Int32) : fX0_beDragged b se z = some (s2 b) := by
  unfold fX0_beDragged s2
  simp only [lt_eq]
  split <;> rfl
theorem p_swing (b : Nat → Int32) (se : Int64) (z : Int32) : fX0_swing b se z = some (s3 b) := by
  unfold fX0_swing s3
  simp only [lt_eq, fX0_swing_50, upd_at, if_true, bang]
  split
  · split <;> rfl
  · split
    · rfl
    · split <;> rfl
theorem p_lg (w : Int32) (b : Nat → Int32) (se : Int64) (z : Int32) : fX0_isLetGo w b se z = some (lg w b) := by
  unfold fX0_isLetGo lg
  split
  · split
    · split
      · rfl
      · split <;> rfl
    · split
      · rfl
      · split <;> rfl
  · rfl
theorem p_kick49 (b : Nat → Int32) (se : Int64) (z : Int32) (h : ¬ b 6 ≤ 0) : fX0_beKicked_49 se z b = some (kk2 (upd b 9 (b 9 + 1))) := by
  have h0 : ¬ b 6 = 0 := fun q => h (by rw [q]; decide)
  unfold fX0_beKicked_49 kk2
  simp only [lt_eq, upd_at]
  rw [if_neg (by simpa using h), gd_t (by simpa using h0)]
  simp
  split <;> rfl
theorem p_kick (b : Nat → Int32) (se : Int64) (z : Int32) (h : ¬ b 6 ≤ 0) : fX0_beKicked b se z = some (s4 b) := by
  unfold fX0_beKicked s4 kk1
  simp only [lt_eq]
  split
  · rw [p_kick49 _ _ _ (by simpa [upd_at] using h)]
  · rw [p_kick49 _ _ _ (by simpa [upd_at] using h)]
theorem lg_zb (w : Int32) (b : Nat → Int32) : zb (lg w b) = true := by
  unfold lg
  repeat' split
  all_goals rfl
/-- what the numbers that no TICK writes are behind it -/
theorem s1_at (v : Nat → Int32) (j : Nat) (h : j ≠ 1) : s1 v j = v j := by simp [s1, upd_at, h]
theorem s2_at (v : Nat → Int32) (j : Nat) (h : j ≠ 1) : s2 v j = v j := by
  unfold s2
  split <;> simp [upd_at, h]
theorem bang_at (v : Nat → Int32) (j : Nat) (h0 : j ≠ 0) (h1 : j ≠ 1) (h2 : j ≠ 10) : bang v j = v j := by simp [bang, upd_at, h0, h1, h2]
theorem s3_at (v : Nat → Int32) (j : Nat) (h0 : j ≠ 0) (h1 : j ≠ 1) (h2 : j ≠ 10) : s3 v j = v j := by
  unfold s3
  split
  · rw [bang_at _ _ h0 h1 h2]; simp [upd_at, h0]
  · split
    · simp [upd_at, h0]
    · rw [bang_at _ _ h0 h1 h2]; simp [upd_at, h0]
theorem tw_at (v : Nat → Int32) (j : Nat) (h0 : j ≠ 0) (h1 : j ≠ 1) (h2 : j ≠ 10) : tw v j = v j := by
  unfold tw
  rw [s3_at _ _ h0 h1 h2, s2_at _ _ h1, s1_at _ _ h1]
theorem p_tick (b : Nat → Int32) (se : Int64) (z : Int32) (A : Nat → Int64) (k : Int32) (s t w : Nat → Int32) {o : (Nat → Int32) × Int32 × (Nat → Int32) × (Nat → Int32) × (Nat → Int32)} (ho : fX0_bePushed b se z k s t w = some o) (h : ¬ o.1 6 ≤ 0) :
    fX0_tick b se z A k s t w = some (tb o.1, s5 (tv o.1), (tq z o.1 (se, A)).1, (tq z o.1 (se, A)).2, o.2) := by
  have h6 : ¬ tw o.1 6 ≤ 0 := by rw [tw_at _ _ (by decide) (by decide) (by decide)]; exact h
  unfold fX0_tick
  rw [ho]
  simp only [Option.bind_some, lt_eq, p_settle0, p_settle1, p_settle2, p_drag, p_swing, p_lg]
  rw [show upd o.1 1 (o.1 1 - o.1 0 * o.1 2 / 32) = s1 o.1 from rfl]
  rw [show s3 (s2 (s1 o.1)) = tw o.1 from rfl]
  rw [show lg (s2 (s1 o.1) 0) (tw o.1) = tb o.1 from rfl]
  have hz := lg_zb (s2 (s1 o.1) 0) (tw o.1)
  rw [show lg (s2 (s1 o.1) 0) (tw o.1) = tb o.1 from rfl] at hz
  by_cases hb : tb o.1 = 0
  · rw [if_pos hb]
    unfold fX0_tick_72
    simp only [p_settle3, Option.bind_some, lt_eq]
    rw [gd_t hz]
    simp only [tq, tv, if_pos hb, s5]
  · rw [if_neg hb, p_kick _ _ _ h6]
    simp only [Option.bind_some]
    unfold fX0_tick_72
    simp only [p_settle3, Option.bind_some, lt_eq]
    rw [gd_t hz]
    simp only [tq, tv, if_neg hb, s5]
/-! the model's tick -/
theorem q_en (im be bg tx ta fa cl : Int32) (n : Nat → Int32) : fX9_energyNow im be bg tx ta fa cl n = some (En n) := rfl
theorem q_acc (i : Nat) (hi : i < 4) (e : Int64) (im be bg tx ta fa cl : Int32) (A : Nat → Int64) (n : Nat → Int32) : fX9_accounts (nI i) e im be bg tx ta fa cl A n = some (stl 1 i n (e, A)) := by
  have h : i = 0 ∨ i = 1 ∨ i = 2 ∨ i = 3 := by omega
  rcases h with rfl | rfl | rfl | rfl <;> rfl
theorem q_acc0 (e : Int64) (im be bg tx ta fa cl : Int32) (A : Nat → Int64) (n : Nat → Int32) : fX9_accounts 0 e im be bg tx ta fa cl A n = some (stl 1 0 n (e, A)) := rfl
theorem q_acc1 (e : Int64) (im be bg tx ta fa cl : Int32) (A : Nat → Int64) (n : Nat → Int32) : fX9_accounts 1 e im be bg tx ta fa cl A n = some (stl 1 1 n (e, A)) := rfl
theorem q_acc2 (e : Int64) (im be bg tx ta fa cl : Int32) (A : Nat → Int64) (n : Nat → Int32) : fX9_accounts 2 e im be bg tx ta fa cl A n = some (stl 1 2 n (e, A)) := rfl
theorem q_acc3 (e : Int64) (im be bg tx ta fa cl : Int32) (A : Nat → Int64) (n : Nat → Int32) : fX9_accounts 3 e im be bg tx ta fa cl A n = some (stl 1 3 n (e, A)) := rfl
/-- a BEAT is heard at its place, if there is room -/
def hb (be bg clock : Int32) (fb : Nat → Int32) : Nat → Int32 := if 400 ≤ be then fb else upd fb be.toNatClampNeg (clock - bg)
theorem q_424 (im bg tx ta fa cl : Int32) (e : Int64) (be : Int32) (A : Nat → Int64) (fb n : Nat → Int32) : fX9_tick_424 im bg tx ta fa cl e be A fb n = some (be, (stl 1 3 n (e, A)).2, fb, s5 n) := rfl
theorem q_383 (im bg tx ta fa cl : Int32) (e : Int64) (be : Int32) (A : Nat → Int64) (fb n : Nat → Int32) (h : ¬ be < 0) : fX9_tick_383 im bg tx ta fa cl e be A fb n = some (be + 1, (stl 1 3 n (e, A)).2, hb be bg (n 8) fb, s5 n) := by
  unfold fX9_tick_383 hb
  simp only [lt_eq, q_424]
  split
  · rfl
  · next h4 =>
    have hin : inb be 400 = true := in_inb h (by
      have h5 : be.toInt < 400 := by
        have := Int32.lt_iff_toInt_lt.mp (Int32.not_le.mp h4)
        simpa using this
      have h6 : 0 ≤ be.toInt := by
        have := Int32.le_iff_toInt_le.mp (Int32.not_lt.mp h)
        simpa using this
      show be.toInt.toNat < 400
      omega)
    rw [gd_t hin]
theorem i_le_lt {a b : Int32} (h : ¬ a ≤ b) : b < a := Int32.not_le.mp h
theorem kk1_at (v : Nat → Int32) (j : Nat) (h0 : j ≠ 1) (h1 : j ≠ 7) : kk1 v j = v j := by
  unfold kk1
  split <;> simp [upd_at, h0, h1]
theorem kk2_at (v : Nat → Int32) (j : Nat) (h0 : j ≠ 5) : kk2 v j = v j := by
  unfold kk2
  split <;> simp [upd_at, h0]
theorem s4_at (v : Nat → Int32) (j : Nat) (h0 : j ≠ 1) (h1 : j ≠ 7) (h2 : j ≠ 5) (h3 : j ≠ 9) : s4 v j = v j := by
  unfold s4
  rw [kk2_at _ _ h2]
  simp only [upd_at, if_neg h3]
  exact kk1_at _ _ h0 h1
theorem q_326 (im bg tx ta fa cl : Int32) (e : Int64) (be : Int32) (A : Nat → Int64) (fb n : Nat → Int32) (h : ¬ be < 0) (hp : n 7 = 0 ∨ n 7 = 1) (h6 : ¬ n 6 = 0) :
    fX9_tick_326 im bg tx ta fa cl e (if n 7 = 0 then (n 5 + 3) / 4 else -((n 5 + 3) / 4)) (n 1) 1 be A fb n = some (be + 1, (stl 1 3 (s4 n) (e, A)).2, hb be bg ((s4 n) 8) fb, s5 (s4 n)) := by
  unfold fX9_tick_326
  rw [gd_t (by decide)]
  simp only [lt_eq]
  have e1 : upd (upd n (Int32.toNatClampNeg 1) (n 1 + (if n 7 = 0 then (n 5 + 3) / 4 else -((n 5 + 3) / 4)))) 7 (1 - upd n (Int32.toNatClampNeg 1) (n 1 + (if n 7 = 0 then (n 5 + 3) / 4 else -((n 5 + 3) / 4))) 7) = kk1 n := by
    unfold kk1
    rw [show Int32.toNatClampNeg 1 = 1 from rfl]
    rcases hp with hp | hp
    · simp [hp, upd_at]
    · have h1 : ¬ n 7 = 0 := by rw [hp]; decide
      simp only [if_neg h1, upd_at]
      rw [if_neg (by decide), hp, show (1 : Int32) - 1 = 0 from rfl, ← Int32.sub_eq_add_neg]
  rw [e1]
  have h6' : (upd (kk1 n) 9 (kk1 n 9 + 1)) 6 = n 6 := by
    rw [upd_at, if_neg (by decide), kk1_at _ _ (by decide) (by decide)]
  rw [gd_t (by rw [h6']; simpa using h6)]
  unfold s4 kk2
  split
  · next hc =>
    rw [q_383 _ _ _ _ _ _ _ _ _ _ _ h]
  · next hc =>
    rw [q_383 _ _ _ _ _ _ _ _ _ _ _ h]
/-- the numbers behind a BEAT, or none -/
def af (bt : Int32) (n : Nat → Int32) : Nat → Int32 := if bt = 0 then n else s4 n
def ares (bt : Int32) (bg : Int32) (e : Int64) (be : Int32) (A : Nat → Int64) (fb n : Nat → Int32) : Int32 × (Nat → Int64) × (Nat → Int32) × (Nat → Int32) :=
  (if bt = 0 then be else be + 1, (stl 1 3 (af bt n) (e, A)).2, if bt = 0 then fb else hb be bg ((s4 n) 8) fb, s5 (af bt n))
theorem q_278 (im bg tx ta fa cl : Int32) (e : Int64) (y : Int32) (be : Int32) (A : Nat → Int64) (fb n : Nat → Int32) (h : ¬ be < 0) (hp : n 7 = 0 ∨ n 7 = 1) (h6 : ¬ n 6 = 0) :
    fX9_tick_278 im bg tx ta fa cl e (if n 7 = 0 then 1 else 0) y be A fb n = some (ares (if 0 < n 5 then y else 0) bg e be A fb n) := by
  unfold fX9_tick_278 ares af
  simp only [q_424, lt_eq]
  by_cases h5 : n 5 ≤ 0
  · rw [if_pos h5, if_neg (Int32.not_lt.mpr h5)]; rfl
  · rw [if_neg h5, if_pos (i_le_lt h5)]
    by_cases hy : y = 0
    · rw [if_pos hy]; simp only [hy, if_true]
    · rw [if_neg hy]
      simp only [if_neg hy]
      rw [← q_326 im bg tx ta fa cl e be A fb n h hp h6]
      by_cases h7 : n 7 = 0
      · simp [h7]
      · simp [h7]
theorem q_214 (im bg tx ta fa cl : Int32) (e : Int64) (was : Int32) (be : Int32) (A : Nat → Int64) (fb n : Nat → Int32) (h : ¬ be < 0) (hp : n 7 = 0 ∨ n 7 = 1) (h6 : ¬ n 6 = 0) :
    fX9_tick_214 im bg tx ta fa cl e was (if n 7 = 0 then 1 else 0) be A fb n = some (ares (lg was n) bg e be A fb n) := by
  unfold fX9_tick_214
  simp only [lt_eq, q_278 _ _ _ _ _ _ _ _ _ _ _ _ h hp h6]
  unfold lg
  by_cases h5 : 0 < n 5
  · simp only [if_pos h5]
    by_cases h7 : n 7 = 0
    · simp only [h7, if_true, show ¬ (1 : Int32) = 0 from by decide, if_false]
      split
      · rfl
      · split <;> rfl
    · simp only [if_neg h7, if_true]
      split
      · rfl
      · split <;> rfl
  · simp only [if_neg h5, ite_self]
theorem q_192 (im bg tx ta fa cl : Int32) (e : Int64) (was : Int32) (be : Int32) (A : Nat → Int64) (fb n : Nat → Int32) (h : ¬ be < 0) (hp : n 7 = 0 ∨ n 7 = 1) (h6 : ¬ n 6 = 0) :
    fX9_tick_192 im bg tx ta fa cl e was be A fb n = some (ares (lg was n) bg (stl 1 1 n (e, A)).1 be (stl 1 1 n (e, A)).2 fb n) := by
  unfold fX9_tick_192
  rw [q_acc1]
  simp only [Option.bind_some]
  have key := q_214 im bg tx ta fa cl (stl 1 1 n (e, A)).1 was be (stl 1 1 n (e, A)).2 fb n h hp h6
  by_cases h7 : n 7 = 0
  · rw [if_pos h7]; rw [if_pos h7] at key; exact key
  · rw [if_neg h7]; rw [if_neg h7] at key; exact key
theorem q_192q (im bg tx ta fa cl : Int32) (q : Int64 × (Nat → Int64)) (was : Int32) (be : Int32) (fb n : Nat → Int32) (h : ¬ be < 0) (hp : n 7 = 0 ∨ n 7 = 1) (h6 : ¬ n 6 = 0) :
    fX9_tick_192 im bg tx ta fa cl q.1 was be q.2 fb n = some (ares (lg was n) bg (stl 1 1 n q).1 be (stl 1 1 n q).2 fb n) := by
  cases q
  exact q_192 im bg tx ta fa cl _ was be _ fb n h hp h6
theorem q_173 (im bg tx ta fa cl : Int32) (q : Int64 × (Nat → Int64)) (was y : Int32) (be : Int32) (fb w n3 : Nat → Int32) (h : ¬ be < 0) (hp : n3 7 = 0 ∨ n3 7 = 1) (h6 : ¬ n3 6 = 0) (hn : upd (upd (upd w 0 y) 1 0) 10 (w 10 + 1) = n3) :
    fX9_tick_173 im bg tx ta fa cl q.1 was y 0 be q.2 fb w = some (ares (lg was n3) bg (stl 1 1 n3 q).1 be (stl 1 1 n3 q).2 fb n3) := by
  unfold fX9_tick_173
  rw [gd_t (by decide)]
  simp only [lt_eq]
  have e0 : Int32.toNatClampNeg 0 = 0 := by decide
  have e2 : upd (upd (upd w (Int32.toNatClampNeg 0) y) 1 0) 10 (upd (upd w (Int32.toNatClampNeg 0) y) 1 0 10 + 1) = n3 := by
    rw [e0, ← hn]; simp [upd_at]
  rw [e2]
  exact q_192q im bg tx ta fa cl q was be fb n3 h hp h6
theorem s3_bang {m : Nat → Int32} {y : Int32} (h : ¬ (¬ 300 < m 0 + m 1 ∧ (-300) ≤ m 0 + m 1)) (hy : (if m 0 + m 1 ≤ 0 then (-300) else 300) = y) : upd (upd (upd (upd m 0 (m 0 + m 1)) 0 y) 1 0) 10 (upd m 0 (m 0 + m 1) 10 + 1) = s3 m := by
  have hs : s3 m = bang (upd m 0 (m 0 + m 1)) := by
    unfold s3
    by_cases c2 : 300 < m 0 + m 1
    · rw [if_pos c2]
    · rw [if_neg c2, if_neg (fun c => h ⟨c2, c⟩)]
  rw [hs, ← hy]
  simp [bang, upd_at]
theorem q_101 (im bg tx ta fa cl : Int32) (e : Int64) (y : Int32) (be : Int32) (A : Nat → Int64) (fb n : Nat → Int32) (h : ¬ be < 0) (hp : n 7 = 0 ∨ n 7 = 1) (h6 : ¬ n 6 = 0) (m : Nat → Int32) (hm : upd n 1 y = m) :
    fX9_tick_101 im bg tx ta fa cl e y 1 be A fb n = some (ares (lg (m 0) (s3 m)) bg (stl 1 1 (s3 m) (stl 1 2 m (e, A))).1 be (stl 1 1 (s3 m) (stl 1 2 m (e, A))).2 fb (s3 m)) := by
  have hp3 : (s3 m) 7 = 0 ∨ (s3 m) 7 = 1 := by rw [s3_at _ _ (by decide) (by decide) (by decide), ← hm]; simpa [upd_at] using hp
  have h63 : ¬ (s3 m) 6 = 0 := by rw [s3_at _ _ (by decide) (by decide) (by decide), ← hm]; simpa [upd_at] using h6
  unfold fX9_tick_101
  rw [gd_t (by decide)]
  simp only [lt_eq]
  have e1 : Int32.toNatClampNeg 1 = 1 := by decide
  rw [e1, hm, q_acc2]
  simp only [Option.bind_some]
  have hw0 : upd m 0 (m 0 + m 1) 0 = m 0 + m 1 := by simp [upd_at]
  rw [hw0]
  by_cases c : ¬ 300 < m 0 + m 1 ∧ (-300) ≤ m 0 + m 1
  · have ho : fX9_within (m 0 + m 1) (-300) 300 = some 1 := by
      unfold fX9_within
      rw [if_neg (Int32.not_lt.mpr c.2), if_neg c.1]
    have hs : upd m 0 (m 0 + m 1) = s3 m := by unfold s3; rw [if_neg c.1, if_pos c.2]
    rw [ho, Option.bind_some, if_neg (show ¬ (1 : Int32) = 0 by decide), hs]
    exact q_192q im bg tx ta fa cl (stl 1 2 m (e, A)) (m 0) be fb (s3 m) h hp3 h63
  · have ho : fX9_within (m 0 + m 1) (-300) 300 = some 0 := by
      unfold fX9_within
      by_cases c1 : m 0 + m 1 < (-300)
      · rw [if_pos c1]
      · rw [if_neg c1, if_pos (Decidable.byContradiction fun c2 => c ⟨c2, Int32.not_lt.mp c1⟩)]
    rw [ho]
    simp only [Option.bind_some]
    rw [if_pos trivial]
    by_cases c0 : m 0 + m 1 ≤ 0
    · rw [if_pos c0]
      exact q_173 im bg tx ta fa cl (stl 1 2 m (e, A)) (m 0) (-300) be fb _ (s3 m) h hp3 h63 (s3_bang c (if_pos c0))
    · rw [if_neg c0]
      exact q_173 im bg tx ta fa cl (stl 1 2 m (e, A)) (m 0) 300 be fb _ (s3 m) h hp3 h63 (s3_bang c (if_neg c0))
theorem q_19 (im bg tx ta fa cl : Int32) (e : Int64) (be : Int32) (A : Nat → Int64) (fb n : Nat → Int32) (h : ¬ be < 0) (hp : n 7 = 0 ∨ n 7 = 1) (h6 : ¬ n 6 = 0) :
    fX9_tick_19 im bg tx ta fa cl e be A fb n = some (if tb n = 0 then be else be + 1, (tq 1 n (e, A)).2, if tb n = 0 then fb else hb be bg ((s4 (tw n)) 8) fb, s5 (tv n)) := by
  have hp1 : (s1 n) 7 = 0 ∨ (s1 n) 7 = 1 := by rw [s1_at _ _ (by decide)]; exact hp
  have h61 : ¬ (s1 n) 6 = 0 := by rw [s1_at _ _ (by decide)]; exact h6
  unfold fX9_tick_19
  rw [q_acc0]
  simp only [Option.bind_some, lt_eq]
  rw [show upd n 1 (n 1 - n 0 * n 2 / 32) = s1 n from rfl, q_acc1]
  simp only [Option.bind_some]
  by_cases c : (s1 n) 1 ≤ 0
  · rw [if_pos c, q_101 _ _ _ _ _ _ _ _ _ _ _ _ h hp1 h61 (s2 (s1 n)) (by unfold s2; rw [if_pos c])]
    rfl
  · rw [if_neg c, q_101 _ _ _ _ _ _ _ _ _ _ _ _ h hp1 h61 (s2 (s1 n)) (by unfold s2; rw [if_neg c])]
    rfl
