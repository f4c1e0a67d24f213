/-! THE CLAIM OUT OF ONE WALK OF THE LAW'S BODY. Your part is whole_start (and what it stands on); all else here is the same for every law, but numbers. -/
def R_law : String := "WatchBeatsLaw"
def lw_P (b : Addr) (xs : List Int32) (args : Array Value) (s : State) : Prop := args = #[.ref b] ∧ s.IntsAt b xs ∧ xs.length ≤ 3072 ∧ (Jvm.Cond.and given_1 narrow_1).before args s = true
def lw_Q (_ : Array Value) (s : State) (o : Outcome) (t : State) : Prop := o = .returned (some (.int 1)) ∧ Framed s o t [] 600000 7302250
def lw_Z (below : List Frame) (a : Array Value) (s : State) : State → Prop := fun t => ∃ o, t.status = .running ∧ Ended t below o ∧ lw_Q a s o t
/-- the law's own end, with 1 on the stack, nothing written that was there before, its room as the claim has it -/
theorem lw_ret {p : Program} {l : Launch} {e : Env} {s : State} {m : MethodId} {below : List Frame} {meth : Method} {c : Code} {b : Nat} (hx : p.tables.exec = Jvm.exec) (hb : c.code = code) (hr : meth.sig.returnType = ret) (hlocks : meth.locks = false) {pc : Nat} {H : Heap} {ls : Array Slot} (hdg : decode code pc = .ok (.ireturn, 1)) : W p l e room_1 s m #[Value.ref b] below meth c H [] 600000 7302250 (lw_Z below #[Value.ref b] s) (F0 m pc ls [.int 1]) := by
  intro T hT X
  obtain ⟨fs, hret, hrun, hended, hW, hframe⟩ := X.leave (v := some (.int 1)) (hlocks := hlocks) (fun h => by rw [hr] at h; cases h)
  have hmeth' : T.vm.method? m = some meth := X.method'
  refine ⟨T.setFrames fs, ?_, .returned (some (.int 1)), hrun, hended, rfl, ⟨_, rfl⟩, hW, hframe⟩
  jvm_step X.here [X.here.top, hx, hb, hdg, hmeth', hr, ret, narrow_b1]
  (try refine ⟨rfl, ?_⟩); (try refine ⟨rfl, ?_⟩)
  first | (intro acts; rw [hret _ acts rfl rfl rfl]) | rw [hret _ _ rfl rfl rfl]
  exact Steps.refl _
/-- what holds at the law's entry: the machine, the code, the tables' words (any of lw_tbl by 'hts w (by decide +kernel)'), the script of L ints xs at the cell b, what the Statement gives of the start (any of its parts by flat_of_before) -/
def lw_At (p : Program) (s : State) (m : MethodId) (meth : Method) (c : Code) (b L : Nat) (xs : Nat → Int32) : Prop :=
  p.tables.exec = Jvm.exec ∧ c.code = code ∧ meth.sig.returnType = ret ∧ c.maxLocals = 4 ∧ s.vm.findClass R_law = some m.cls ∧ (∀ w ∈ lw_tbl, w.before #[Value.ref b] s = true) ∧ va_X b L xs s s.heap ∧ b < s.heap.size ∧ meth.locks = false ∧ (Jvm.Cond.and given_1 narrow_1).before #[Value.ref b] s = true
def b00 : Nat → Int32 := fun j => ([0, 0, 4, 0, 0, 20, 10, 0, 0, 0, 0] : List Int32).getD j 0
def n00 : Nat → Int32 := upd (upd (upd (fun _ => 0) 2 4) 5 20) 6 10
def S00 : CS := ((b00, 0, 0, 0, 0, fun _ => 0, 0, fun _ => 0, fun _ => 0, fun _ => 0, fun _ => 0, fun _ => 0, fun _ => 0, fun _ => 0, fun _ => 0), (b00, 0, 0, 0, 0, fun _ => 0, 0, fun _ => 0, fun _ => 0, fun _ => 0, fun _ => 0, fun _ => 0, fun _ => 0, fun _ => 0, fun _ => 0), (0, b00, 0, fun _ => 0, fun _ => 0, 0, fun _ => 0, fun _ => 0, fun _ => 0), (0, 0, fun _ => 0, fun _ => 0, fun _ => 0), 0, fun _ => -1, fun _ => 0, fun _ _ => 0)
def M00 : MS := (0, 0, 0, 0, 0, 0, 0, fun _ => 0, fun _ => 0, fun _ => 0, fun _ => 0, fun _ => 0, fun _ => 0, fun _ => 0, n00, fun _ => 0, fun _ => 0, fun _ => 0, fun _ => 0, fun _ => 0, fun _ => 0)
theorem RR_start : RR S00 M00 0 := by
  refine ⟨⟨[], 0, 0, 0, ⟨⟨?_, ⟨rfl, by decide, fun j q h => by simp at h⟩, ⟨rfl, by decide, fun j q h => by simp [srt, srtR] at h⟩, fun q h => by simp at h, Or.inl rfl, by decide⟩, by decide, fun _ _ => rfl, ?_, fun q h => by simp at h⟩, ?_, ?_, ?_⟩, ⟨rfl, Or.inl rfl⟩, ⟨0, by decide, rfl, rfl, fun i h => absurd h (Nat.not_lt_zero i)⟩, fun x _ => ⟨0, 0, by decide, by decide, rfl, (show (-1 : Int32) = nI 0 - 1 by decide), rfl, rfl, fun _ _ => rfl⟩, ⟨by decide, by decide⟩⟩
  · show ∀ j, j < 11 → b00 j = n00 j
    decide
  · exact ⟨⟨⟨by decide, by decide⟩, ⟨by decide, by decide⟩, ⟨by decide, by decide⟩, ⟨by decide, by decide⟩, ⟨by decide, by decide⟩, ⟨by decide, by decide⟩, by decide, by decide, by decide⟩, ⟨by decide, by decide⟩⟩
  · exact ⟨by decide, rfl, rfl, fun i h => absurd h (Nat.not_lt_zero i)⟩
  · exact ⟨by decide, rfl, ⟨rfl, fun i h => absurd h (Nat.not_lt_zero i)⟩, fun i h => absurd h (Nat.not_lt_zero i)⟩
  · exact ⟨by decide, rfl, rfl, fun i h => absurd h (Nat.not_lt_zero i)⟩
theorem ty_prim {s : State} {b : Nat} {ty : FieldType} (hp : ∀ C, ty ≠ .object C) (h : (Cond.arrayClass ty).before #[Value.ref b] s = true) : ∃ cA : ClassId, ArrOfT s cA ty ∧ va_RA s cA ty := by
  obtain ⟨cA, kA, comp, h1, h2, h3⟩ := Cond.arrayClass_spec h
  refine ⟨cA, fun n z => ⟨fun k h => (by cases h), kA, h2, comp, h3⟩, ?_⟩
  cases ty with
  | object C => exact absurd rfl (hp C)
  | _ => exact h1
theorem ty_obj {s : State} {b : Nat} {C : String} (h : (Cond.arrayOver (.object C)).before #[Value.ref b] s = true) : ∃ cA : ClassId, ArrOfT s cA (.object C) ∧ va_RA s cA (.object C) := by
  obtain ⟨comp, cA, kA, h1, h2, h3, h4, h5⟩ := Cond.arrayOver_spec h
  exact ⟨cA, fun n z => ⟨fun k h => (by cases h), kA, h3, comp, h4⟩, kA, comp, h3, h4, h1, h5⟩
set_option maxHeartbeats 8000000 in
set_option maxRecDepth 100000 in
theorem tab_0 {s : State} {b : Nat} {A : Nat → Prop} (hs : (Jvm.Cond.and given_1 narrow_1).before #[Value.ref b] s = true) (hts : ∀ w ∈ lw_tbl, w.before #[Value.ref b] s = true) (hA : ∀ a : Nat, a < s.heap.size → ¬ A a) : ∃ t : Nat, jT t "LEAST" "[I" .int 7 tbLeast A s s.heap := by
  have hs := flat_of_before _ hs
  obtain ⟨t, h1, h2⟩ := va_Tof (tm := .static "WatchBeats" "LEAST" "[I") (ty := .int) (N := 7) (f := fun j => .int (tbLeast j)) (A := A) (by decide) (hs _ (by decide +kernel)) (va_eqt (hs _ (by decide +kernel))) (fun j hj => by
    have hj : j = 0 ∨ j = 1 ∨ j = 2 ∨ j = 3 ∨ j = 4 ∨ j = 5 ∨ j = 6 := by omega
    rcases hj with rfl | rfl | rfl | rfl | rfl | rfl | rfl
    · exact va_eqt (hs _ (by decide +kernel))
    · exact va_eqt (hs _ (by decide +kernel))
    · exact va_eqt (hs _ (by decide +kernel))
    · exact va_eqt (hs _ (by decide +kernel))
    · exact va_eqt (hs _ (by decide +kernel))
    · exact va_eqt (hs _ (by decide +kernel))
    · exact va_eqt (hs _ (by decide +kernel))) hA
  exact ⟨t, va_Zref (hts _ (List.mem_of_getElem? (i := 294) (by decide +kernel))) (hts _ (List.mem_of_getElem? (i := 38) (by decide +kernel))) h1 hA, h2⟩
set_option maxHeartbeats 8000000 in
set_option maxRecDepth 100000 in
theorem tab_1 {s : State} {b : Nat} {A : Nat → Prop} (hs : (Jvm.Cond.and given_1 narrow_1).before #[Value.ref b] s = true) (hts : ∀ w ∈ lw_tbl, w.before #[Value.ref b] s = true) (hA : ∀ a : Nat, a < s.heap.size → ¬ A a) : ∃ t : Nat, jT t "MOST" "[I" .int 7 tbMost A s s.heap := by
  have hs := flat_of_before _ hs
  obtain ⟨t, h1, h2⟩ := va_Tof (tm := .static "WatchBeats" "MOST" "[I") (ty := .int) (N := 7) (f := fun j => .int (tbMost j)) (A := A) (by decide) (hs _ (by decide +kernel)) (va_eqt (hs _ (by decide +kernel))) (fun j hj => by
    have hj : j = 0 ∨ j = 1 ∨ j = 2 ∨ j = 3 ∨ j = 4 ∨ j = 5 ∨ j = 6 := by omega
    rcases hj with rfl | rfl | rfl | rfl | rfl | rfl | rfl
    · exact va_eqt (hs _ (by decide +kernel))
    · exact va_eqt (hs _ (by decide +kernel))
    · exact va_eqt (hs _ (by decide +kernel))
    · exact va_eqt (hs _ (by decide +kernel))
    · exact va_eqt (hs _ (by decide +kernel))
    · exact va_eqt (hs _ (by decide +kernel))
    · exact va_eqt (hs _ (by decide +kernel))) hA
  exact ⟨t, va_Zref (hts _ (List.mem_of_getElem? (i := 296) (by decide +kernel))) (hts _ (List.mem_of_getElem? (i := 38) (by decide +kernel))) h1 hA, h2⟩
set_option maxHeartbeats 8000000 in
set_option maxRecDepth 100000 in
theorem tab_2 {s : State} {b : Nat} {A : Nat → Prop} (hs : (Jvm.Cond.and given_1 narrow_1).before #[Value.ref b] s = true) (hts : ∀ w ∈ lw_tbl, w.before #[Value.ref b] s = true) (hA : ∀ a : Nat, a < s.heap.size → ¬ A a) : ∃ t : Nat, jT t "TOLD_AHEAD" "[I" .int 6 tbAhead A s s.heap := by
  have hs := flat_of_before _ hs
  obtain ⟨t, h1, h2⟩ := va_Tof (tm := .static "WatchBeats" "TOLD_AHEAD" "[I") (ty := .int) (N := 6) (f := fun j => .int (tbAhead j)) (A := A) (by decide) (hs _ (by decide +kernel)) (va_eqt (hs _ (by decide +kernel))) (fun j hj => by
    have hj : j = 0 ∨ j = 1 ∨ j = 2 ∨ j = 3 ∨ j = 4 ∨ j = 5 := by omega
    rcases hj with rfl | rfl | rfl | rfl | rfl | rfl
    · exact va_eqt (hs _ (by decide +kernel))
    · exact va_eqt (hs _ (by decide +kernel))
    · exact va_eqt (hs _ (by decide +kernel))
    · exact va_eqt (hs _ (by decide +kernel))
    · exact va_eqt (hs _ (by decide +kernel))
    · exact va_eqt (hs _ (by decide +kernel))) hA
  exact ⟨t, va_Zref (hts _ (List.mem_of_getElem? (i := 462) (by decide +kernel))) (hts _ (List.mem_of_getElem? (i := 38) (by decide +kernel))) h1 hA, h2⟩
set_option maxHeartbeats 8000000 in
set_option maxRecDepth 100000 in
theorem tab_3 {s : State} {b : Nat} {A : Nat → Prop} (hs : (Jvm.Cond.and given_1 narrow_1).before #[Value.ref b] s = true) (hts : ∀ w ∈ lw_tbl, w.before #[Value.ref b] s = true) (hA : ∀ a : Nat, a < s.heap.size → ¬ A a) : ∃ t : Nat, jT t "PUSH_LEAST" "[I" .int 4 tbPLeast A s s.heap := by
  have hs := flat_of_before _ hs
  obtain ⟨t, h1, h2⟩ := va_Tof (tm := .static "WatchBeats" "PUSH_LEAST" "[I") (ty := .int) (N := 4) (f := fun j => .int (tbPLeast j)) (A := A) (by decide) (hs _ (by decide +kernel)) (va_eqt (hs _ (by decide +kernel))) (fun j hj => by
    have hj : j = 0 ∨ j = 1 ∨ j = 2 ∨ j = 3 := by omega
    rcases hj with rfl | rfl | rfl | rfl
    · exact va_eqt (hs _ (by decide +kernel))
    · exact va_eqt (hs _ (by decide +kernel))
    · exact va_eqt (hs _ (by decide +kernel))
    · exact va_eqt (hs _ (by decide +kernel))) hA
  exact ⟨t, va_Zref (hts _ (List.mem_of_getElem? (i := 334) (by decide +kernel))) (hts _ (List.mem_of_getElem? (i := 38) (by decide +kernel))) h1 hA, h2⟩
set_option maxHeartbeats 8000000 in
set_option maxRecDepth 100000 in
theorem tab_4 {s : State} {b : Nat} {A : Nat → Prop} (hs : (Jvm.Cond.and given_1 narrow_1).before #[Value.ref b] s = true) (hts : ∀ w ∈ lw_tbl, w.before #[Value.ref b] s = true) (hA : ∀ a : Nat, a < s.heap.size → ¬ A a) : ∃ t : Nat, jT t "PUSH_MOST" "[I" .int 4 tbPMost A s s.heap := by
  have hs := flat_of_before _ hs
  obtain ⟨t, h1, h2⟩ := va_Tof (tm := .static "WatchBeats" "PUSH_MOST" "[I") (ty := .int) (N := 4) (f := fun j => .int (tbPMost j)) (A := A) (by decide) (hs _ (by decide +kernel)) (va_eqt (hs _ (by decide +kernel))) (fun j hj => by
    have hj : j = 0 ∨ j = 1 ∨ j = 2 ∨ j = 3 := by omega
    rcases hj with rfl | rfl | rfl | rfl
    · exact va_eqt (hs _ (by decide +kernel))
    · exact va_eqt (hs _ (by decide +kernel))
    · exact va_eqt (hs _ (by decide +kernel))
    · exact va_eqt (hs _ (by decide +kernel))) hA
  exact ⟨t, va_Zref (hts _ (List.mem_of_getElem? (i := 336) (by decide +kernel))) (hts _ (List.mem_of_getElem? (i := 38) (by decide +kernel))) h1 hA, h2⟩
set_option maxHeartbeats 8000000 in
set_option maxRecDepth 100000 in
theorem tab_5 {s : State} {b : Nat} {A : Nat → Prop} (hs : (Jvm.Cond.and given_1 narrow_1).before #[Value.ref b] s = true) (hts : ∀ w ∈ lw_tbl, w.before #[Value.ref b] s = true) (hA : ∀ a : Nat, a < s.heap.size → ¬ A a) : ∃ t : Nat, jT t "LETTERS" "[C" .char 9 tbLetters A s s.heap := by
  have hs := flat_of_before _ hs
  obtain ⟨t, h1, h2⟩ := va_Tof (tm := .static "WatchBeats" "LETTERS" "[C") (ty := .char) (N := 9) (f := fun j => .int (tbLetters j)) (A := A) (by decide) (hs _ (by decide +kernel)) (va_eqt (hs _ (by decide +kernel))) (fun j hj => by
    have hj : j = 0 ∨ j = 1 ∨ j = 2 ∨ j = 3 ∨ j = 4 ∨ j = 5 ∨ j = 6 ∨ j = 7 ∨ j = 8 := by omega
    rcases hj with rfl | rfl | rfl | rfl | rfl | rfl | rfl | rfl | rfl
    · exact va_eqt (hs _ (by decide +kernel))
    · exact va_eqt (hs _ (by decide +kernel))
    · exact va_eqt (hs _ (by decide +kernel))
    · exact va_eqt (hs _ (by decide +kernel))
    · exact va_eqt (hs _ (by decide +kernel))
    · exact va_eqt (hs _ (by decide +kernel))
    · exact va_eqt (hs _ (by decide +kernel))
    · exact va_eqt (hs _ (by decide +kernel))
    · exact va_eqt (hs _ (by decide +kernel))) hA
  exact ⟨t, va_Zref (hts _ (List.mem_of_getElem? (i := 441) (by decide +kernel))) (hts _ (List.mem_of_getElem? (i := 38) (by decide +kernel))) h1 hA, h2⟩
set_option maxHeartbeats 8000000 in
set_option maxRecDepth 100000 in
theorem whole_start {p : Program} {e : Env} {s : State} {m : MethodId} {below : List Frame} {meth : Method} {c : Code} (l : Launch) (hflags : l.flags = flags0) {b L : Nat} {xs : Nat → Int32} (hL : L ≤ 3072) (C0 : lw_At p s m meth c b L xs) : W p l e room_1 s m #[Value.ref b] below meth c s.heap [] 0 0 (lw_Z below #[Value.ref b] s) (entryFrame m ([Value.ref b] : List Value).toArray 4) := by
  obtain ⟨hx, hb, hr, hml, hown, hts, hX, hbl, hlocks, hgv⟩ := C0
  have hGG : ∀ w ∈ GG, w.before #[Value.ref b] s = true := fun w hw => hts w (GG_tbl w hw)
  obtain ⟨A, hAe⟩ : ∃ A : Nat → Prop, A = fun q : Nat => s.heap.size ≤ q := ⟨_, rfl⟩
  have hA : ∀ q : Nat, s.heap.size ≤ q → A q := fun q h => by rw [hAe]; exact h
  have hAn : ∀ a : Nat, a < s.heap.size → ¬ A a := fun a h => by rw [hAe]; exact Nat.not_le.mpr h
  have hAs : ∀ a : Nat, A a → s.heap.size ≤ a := fun a h => by rw [hAe] at h; exact h
  obtain ⟨c0, j0, k0⟩ := u_known (C := RX0) (T := TX0) (N := 15) (n := 15) hGG hiX0 (hGG _ k_65)
  obtain ⟨c1, j1, k1⟩ := u_known (C := RX1) (T := TX1) (N := 2) (n := 2) hGG hiX1 (hGG _ k_204)
  obtain ⟨c2, j2, k2⟩ := u_known (C := RX2) (T := TX2) (N := 4) (n := 4) hGG hiX2 (hGG _ k_71)
  obtain ⟨c3, j3, k3⟩ := u_known (C := RX3) (T := TX3) (N := 3) (n := 3) hGG hiX3 (hGG _ k_166)
  obtain ⟨c4, j4, k4⟩ := u_known (C := RX4) (T := TX4) (N := 3) (n := 3) hGG hiX4 (hGG _ k_246)
  obtain ⟨c5, j5, k5⟩ := u_known (C := RX5) (T := TX5) (N := 5) (n := 5) hGG hiX5 (hGG _ k_218)
  obtain ⟨c6, j6, k6⟩ := u_known (C := RX6) (T := TX6) (N := 2) (n := 2) hGG hiX6 (hGG _ k_152)
  obtain ⟨c7, j7, k7⟩ := u_known (C := RX7) (T := TX7) (N := 4) (n := 4) hGG hiX7 (hGG _ k_59)
  obtain ⟨c8, j8, k8⟩ := u_known (C := RX8) (T := TX8) (N := 7) (n := 7) hGG hiX8 (hGG _ k_51)
  obtain ⟨c9, j9, k9⟩ := u_known (C := RX9) (T := TX9) (N := 21) (n := 21) hGG hiX9 (hGG _ k_660)
  obtain ⟨cI, tI⟩ := ty_prim (ty := .int) (fun C h => by cases h) (hGG _ k_97)
  obtain ⟨cJ, tJ⟩ := ty_prim (ty := .long) (fun C h => by cases h) (hGG _ k_150)
  obtain ⟨cB, tB⟩ := ty_prim (ty := .byte) (fun C h => by cases h) (hGG _ k_243)
  have hao : (Cond.arrayOver (.object "WatchBeats$Tape")).before #[Value.ref b] s = true := hts _ (List.mem_of_getElem? (i := 245) (by decide +kernel))
  obtain ⟨cT, tT⟩ := ty_obj hao
  obtain ⟨t0, z0⟩ := tab_0 (A := A) hgv hts hAn
  obtain ⟨t1, z1⟩ := tab_1 (A := A) hgv hts hAn
  obtain ⟨t2, z2⟩ := tab_2 (A := A) hgv hts hAn
  obtain ⟨t3, z3⟩ := tab_3 (A := A) hgv hts hAn
  obtain ⟨t4, z4⟩ := tab_4 (A := A) hgv hts hAn
  obtain ⟨t5, z5⟩ := tab_5 (A := A) hgv hts hAn
  obtain ⟨D, hK⟩ : ∃ D : va_G, va_K D vwCl (wTy cI cJ cB cT) s := by
    refine ⟨(fun k => ([c0, c1, c2, c3, c4, c5, c6, c7, c8, c9] : List ClassId).getD k c0, fun k => ([j0, j1, j2, j3, j4, j5, j6, j7, j8, j9] : List (Nat → Nat)).getD k j0), fun k q hq => ?_, fun k q hq => ?_⟩
    · match k, hq with
      | 0, hq => cases hq; exact k0
      | 1, hq => cases hq; exact k1
      | 2, hq => cases hq; exact k2
      | 3, hq => cases hq; exact k3
      | 4, hq => cases hq; exact k4
      | 5, hq => cases hq; exact k5
      | 6, hq => cases hq; exact k6
      | 7, hq => cases hq; exact k7
      | 8, hq => cases hq; exact k8
      | 9, hq => cases hq; exact k9
      | k + 10, hq => simp at hq
    · match k, hq with
      | 0, hq => cases hq; exact tI
      | 1, hq => cases hq; exact tJ
      | 2, hq => cases hq; exact tB
      | 3, hq => cases hq; exact tT
      | k + 4, hq => simp at hq
  have hN : ∀ w ∈ jNs, va_Nw w s := by
    intro w hw
    simp only [jNs, List.mem_cons, List.not_mem_nil, or_false] at hw
    rcases hw with rfl | rfl | rfl | rfl | rfl | rfl | rfl | rfl | rfl
    · exact va_Nw.of rfl (hts _ (List.mem_of_getElem? (i := 60) (by decide +kernel)))
    · exact va_Nw.of rfl (hts _ (List.mem_of_getElem? (i := 72) (by decide +kernel)))
    · exact va_Nw.of rfl (hts _ (List.mem_of_getElem? (i := 153) (by decide +kernel)))
    · exact va_Nw.of rfl (hts _ (List.mem_of_getElem? (i := 167) (by decide +kernel)))
    · exact va_Nw.of rfl (hts _ (List.mem_of_getElem? (i := 205) (by decide +kernel)))
    · exact va_Nw.of rfl (hts _ (List.mem_of_getElem? (i := 219) (by decide +kernel)))
    · exact va_Nw.of rfl (hts _ (List.mem_of_getElem? (i := 247) (by decide +kernel)))
    · exact va_Nw.of rfl (hts _ (List.mem_of_getElem? (i := 440) (by decide +kernel)))
    · exact va_Nw.of rfl (hts _ (List.mem_of_getElem? (i := 446) (by decide +kernel)))
  have hZ : jZ (fun k => ([t0, t1, t2, t3, t4, t5] : List Nat).getD k 0) A s s.heap := ⟨z0, z1, z2, z3, z4, z5, hN, va_AO.of hao⟩
  generalize (fun k => ([t0, t1, t2, t3, t4, t5] : List Nat).getD k 0) = tt at hZ
  have X : jC p s m #[Value.ref b] meth c cL_law RL D (wTy cI cJ cB cT) tt A 4 := ⟨hx, hb, hml, hown, hGG, hK, hA, hZ, hlocks⟩
  have hl := lv_entry ([.ref b]) (n := 4) (Nat.le_of_ble_eq_true rfl)
  rw [lg_entry_eq]
  generalize (lg_sl ([.ref b]) ++ List.replicate (4 - (lg_sl ([.ref b])).length) Slot.unset).toArray = ls at hl ⊢
  have hl : lv_has ls 4 [(0, .ref b)] := hl
  have hS : va_S A s.heap s.heap [] := va_S.rf
  have hP : va_P D vwCl [] s.heap := fun k q h => by simp at h
  have hD : va_D A [] := ⟨fun i j p q h => by simp at h, fun k q h => by simp at h⟩
  suffices H : jW p l e room_1 s m #[Value.ref b] below meth c D A 4 (lw_Z below #[Value.ref b] s) 0 0 0 [(0, .ref b)] [] [] from H s.heap [] ls hP hD hS hl
  refine j_new X (ci := 8) (fs := [.null, .null, .int 0, .null, .null, .null, .null]) hiX8 tyX8 tyX8_ok k_50 k_51 k_38 rfl (lt_s (p := fun j => defaultValue (tyX8 j) = vp_V [.null, .null, .int 0, .null, .null, .null, .null] j) (lt_s (p := fun j => defaultValue (tyX8 j) = vp_V [.null, .null, .int 0, .null, .null, .null, .null] j) (lt_s (p := fun j => defaultValue (tyX8 j) = vp_V [.null, .null, .int 0, .null, .null, .null, .null] j) (lt_s (p := fun j => defaultValue (tyX8 j) = vp_V [.null, .null, .int 0, .null, .null, .null, .null] j) (lt_s (p := fun j => defaultValue (tyX8 j) = vp_V [.null, .null, .int 0, .null, .null, .null, .null] j) (lt_s (p := fun j => defaultValue (tyX8 j) = vp_V [.null, .null, .int 0, .null, .null, .null, .null] j) (lt_s (p := fun j => defaultValue (tyX8 j) = vp_V [.null, .null, .int 0, .null, .null, .null, .null] j) (lt_0) rfl) rfl) rfl) rfl) rfl) rfl) rfl) (Nat.le_of_ble_eq_true rfl) (Nat.le_of_ble_eq_true rfl) dL_law_0 (fun wq0 => ?_)
  refine j_dup X dL_law_3 rfl ?_
  refine j_callI X (As := []) (rest := [.ref wq0]) (wr := []) (nX8 l D cI cJ cB cT tt wq0) [0] [] k_54 k_52 k_53 rfl k_38 hdnX8 ⟨rfl, rfl, Nat.le_of_ble_eq_true rfl, Nat.le_of_ble_eq_true rfl, Nat.le_of_ble_eq_true rfl, Nat.le_of_ble_eq_true rfl⟩ (Nat.le_of_ble_eq_true rfl) dL_law_4 rfl rfl rfl rfl (by decide) rfl (fun wf1 => ?_)
  refine j_astore_n X (lv2 := [(1, .ref wq0), (0, .ref b)]) dL_law_7 (by decide) rfl ?_
  refine j_new X (ci := 9) (fs := [.null, .null, .null, .int 0, .null, .null, .null, .int 0, .int 0, .null, .int 0, .null, .int 0, .int 0, .int 0, .null, .null, .null, .null, .null, .null]) hiX9 tyX9 tyX9_ok k_659 k_660 k_47 rfl (lt_s (p := fun j => defaultValue (tyX9 j) = vp_V [.null, .null, .null, .int 0, .null, .null, .null, .int 0, .int 0, .null, .int 0, .null, .int 0, .int 0, .int 0, .null, .null, .null, .null, .null, .null] j) (lt_s (p := fun j => defaultValue (tyX9 j) = vp_V [.null, .null, .null, .int 0, .null, .null, .null, .int 0, .int 0, .null, .int 0, .null, .int 0, .int 0, .int 0, .null, .null, .null, .null, .null, .null] j) (lt_s (p := fun j => defaultValue (tyX9 j) = vp_V [.null, .null, .null, .int 0, .null, .null, .null, .int 0, .int 0, .null, .int 0, .null, .int 0, .int 0, .int 0, .null, .null, .null, .null, .null, .null] j) (lt_s (p := fun j => defaultValue (tyX9 j) = vp_V [.null, .null, .null, .int 0, .null, .null, .null, .int 0, .int 0, .null, .int 0, .null, .int 0, .int 0, .int 0, .null, .null, .null, .null, .null, .null] j) (lt_s (p := fun j => defaultValue (tyX9 j) = vp_V [.null, .null, .null, .int 0, .null, .null, .null, .int 0, .int 0, .null, .int 0, .null, .int 0, .int 0, .int 0, .null, .null, .null, .null, .null, .null] j) (lt_s (p := fun j => defaultValue (tyX9 j) = vp_V [.null, .null, .null, .int 0, .null, .null, .null, .int 0, .int 0, .null, .int 0, .null, .int 0, .int 0, .int 0, .null, .null, .null, .null, .null, .null] j) (lt_s (p := fun j => defaultValue (tyX9 j) = vp_V [.null, .null, .null, .int 0, .null, .null, .null, .int 0, .int 0, .null, .int 0, .null, .int 0, .int 0, .int 0, .null, .null, .null, .null, .null, .null] j) (lt_s (p := fun j => defaultValue (tyX9 j) = vp_V [.null, .null, .null, .int 0, .null, .null, .null, .int 0, .int 0, .null, .int 0, .null, .int 0, .int 0, .int 0, .null, .null, .null, .null, .null, .null] j) (lt_s (p := fun j => defaultValue (tyX9 j) = vp_V [.null, .null, .null, .int 0, .null, .null, .null, .int 0, .int 0, .null, .int 0, .null, .int 0, .int 0, .int 0, .null, .null, .null, .null, .null, .null] j) (lt_s (p := fun j => defaultValue (tyX9 j) = vp_V [.null, .null, .null, .int 0, .null, .null, .null, .int 0, .int 0, .null, .int 0, .null, .int 0, .int 0, .int 0, .null, .null, .null, .null, .null, .null] j) (lt_s (p := fun j => defaultValue (tyX9 j) = vp_V [.null, .null, .null, .int 0, .null, .null, .null, .int 0, .int 0, .null, .int 0, .null, .int 0, .int 0, .int 0, .null, .null, .null, .null, .null, .null] j) (lt_s (p := fun j => defaultValue (tyX9 j) = vp_V [.null, .null, .null, .int 0, .null, .null, .null, .int 0, .int 0, .null, .int 0, .null, .int 0, .int 0, .int 0, .null, .null, .null, .null, .null, .null] j) (lt_s (p := fun j => defaultValue (tyX9 j) = vp_V [.null, .null, .null, .int 0, .null, .null, .null, .int 0, .int 0, .null, .int 0, .null, .int 0, .int 0, .int 0, .null, .null, .null, .null, .null, .null] j) (lt_s (p := fun j => defaultValue (tyX9 j) = vp_V [.null, .null, .null, .int 0, .null, .null, .null, .int 0, .int 0, .null, .int 0, .null, .int 0, .int 0, .int 0, .null, .null, .null, .null, .null, .null] j) (lt_s (p := fun j => defaultValue (tyX9 j) = vp_V [.null, .null, .null, .int 0, .null, .null, .null, .int 0, .int 0, .null, .int 0, .null, .int 0, .int 0, .int 0, .null, .null, .null, .null, .null, .null] j) (lt_s (p := fun j => defaultValue (tyX9 j) = vp_V [.null, .null, .null, .int 0, .null, .null, .null, .int 0, .int 0, .null, .int 0, .null, .int 0, .int 0, .int 0, .null, .null, .null, .null, .null, .null] j) (lt_s (p := fun j => defaultValue (tyX9 j) = vp_V [.null, .null, .null, .int 0, .null, .null, .null, .int 0, .int 0, .null, .int 0, .null, .int 0, .int 0, .int 0, .null, .null, .null, .null, .null, .null] j) (lt_s (p := fun j => defaultValue (tyX9 j) = vp_V [.null, .null, .null, .int 0, .null, .null, .null, .int 0, .int 0, .null, .int 0, .null, .int 0, .int 0, .int 0, .null, .null, .null, .null, .null, .null] j) (lt_s (p := fun j => defaultValue (tyX9 j) = vp_V [.null, .null, .null, .int 0, .null, .null, .null, .int 0, .int 0, .null, .int 0, .null, .int 0, .int 0, .int 0, .null, .null, .null, .null, .null, .null] j) (lt_s (p := fun j => defaultValue (tyX9 j) = vp_V [.null, .null, .null, .int 0, .null, .null, .null, .int 0, .int 0, .null, .int 0, .null, .int 0, .int 0, .int 0, .null, .null, .null, .null, .null, .null] j) (lt_s (p := fun j => defaultValue (tyX9 j) = vp_V [.null, .null, .null, .int 0, .null, .null, .null, .int 0, .int 0, .null, .int 0, .null, .int 0, .int 0, .int 0, .null, .null, .null, .null, .null, .null] j) (lt_0) rfl) rfl) rfl) rfl) rfl) rfl) rfl) rfl) rfl) rfl) rfl) rfl) rfl) rfl) rfl) rfl) rfl) rfl) rfl) rfl) rfl) (Nat.le_of_ble_eq_true rfl) (Nat.le_of_ble_eq_true rfl) dL_law_8 (fun wq2 => ?_)
  refine j_dup X dL_law_11 rfl ?_
  refine j_callI X (As := []) (rest := [.ref wq2]) (wr := [(wq0, .inr (8, [.ref (wf1 0), .ref (wf1 15), .int 0, .ref (wf1 30), .ref (wf1 36), .ref (wf1 38), .ref (wf1 42)])), ((wf1 0), .inr (7, [.ref (wf1 1), .ref (wf1 7), .ref (wf1 9), .ref (wf1 12)])), ((wf1 1), .inr (0, [.int 0, .int 0, .int 0, .int 0, .int 0, .int 0, .int 0, .int 0, .int 4, .int 20, .int 10, .ref (wf1 2), .ref (wf1 6), .long 0, .int 1])), ((wf1 2), .inr (2, [.ref (wf1 3), .ref (wf1 4), .ref (wf1 5), .int 0])), ((wf1 3), .inl (cI, 8, .inl (fun _ => 0))), ((wf1 4), .inl (cI, 8, .inl (fun _ => 0))), ((wf1 5), .inl (cI, 8, .inl (fun _ => 0))), ((wf1 6), .inl (cJ, 4, .inr (.inl (fun _ => 0)))), ((wf1 7), .inr (6, [.ref (wf1 8), .int 0])), ((wf1 8), .inl (cI, 4, .inl (fun _ => 0))), ((wf1 9), .inr (3, [.ref (wf1 10), .ref (wf1 11), .int 0])), ((wf1 10), .inl (cI, 8, .inl (fun _ => 0))), ((wf1 11), .inl (cI, 8, .inl (fun _ => 0))), ((wf1 12), .inr (3, [.ref (wf1 13), .ref (wf1 14), .int 0])), ((wf1 13), .inl (cI, 8, .inl (fun _ => 0))), ((wf1 14), .inl (cI, 8, .inl (fun _ => 0))), ((wf1 15), .inr (7, [.ref (wf1 16), .ref (wf1 22), .ref (wf1 24), .ref (wf1 27)])), ((wf1 16), .inr (0, [.int 0, .int 0, .int 0, .int 0, .int 0, .int 0, .int 0, .int 0, .int 4, .int 20, .int 10, .ref (wf1 17), .ref (wf1 21), .long 0, .int 1])), ((wf1 17), .inr (2, [.ref (wf1 18), .ref (wf1 19), .ref (wf1 20), .int 0])), ((wf1 18), .inl (cI, 8, .inl (fun _ => 0))), ((wf1 19), .inl (cI, 8, .inl (fun _ => 0))), ((wf1 20), .inl (cI, 8, .inl (fun _ => 0))), ((wf1 21), .inl (cJ, 4, .inr (.inl (fun _ => 0)))), ((wf1 22), .inr (6, [.ref (wf1 23), .int 0])), ((wf1 23), .inl (cI, 4, .inl (fun _ => 0))), ((wf1 24), .inr (3, [.ref (wf1 25), .ref (wf1 26), .int 0])), ((wf1 25), .inl (cI, 8, .inl (fun _ => 0))), ((wf1 26), .inl (cI, 8, .inl (fun _ => 0))), ((wf1 27), .inr (3, [.ref (wf1 28), .ref (wf1 29), .int 0])), ((wf1 28), .inl (cI, 8, .inl (fun _ => 0))), ((wf1 29), .inl (cI, 8, .inl (fun _ => 0))), ((wf1 30), .inr (0, [.int 0, .int 0, .int 0, .int 0, .int 0, .int 0, .int 0, .int 0, .int 4, .int 20, .int 10, .ref (wf1 31), .ref (wf1 35), .long 0, .int 0])), ((wf1 31), .inr (2, [.ref (wf1 32), .ref (wf1 33), .ref (wf1 34), .int 0])), ((wf1 32), .inl (cI, 8, .inl (fun _ => 0))), ((wf1 33), .inl (cI, 8, .inl (fun _ => 0))), ((wf1 34), .inl (cI, 8, .inl (fun _ => 0))), ((wf1 35), .inl (cJ, 4, .inr (.inl (fun _ => 0)))), ((wf1 36), .inr (1, [.ref (wf1 37), .int 0])), ((wf1 37), .inl (cI, 400, .inl (fun _ => 0))), ((wf1 38), .inr (5, [.ref (wf1 39), .int 0, .ref (wf1 40), .ref (wf1 41), .int 0])), ((wf1 39), .inl (cB, 100, .inl (fun _ => 0))), ((wf1 40), .inl (cI, 12, .inl (fun _ => 0))), ((wf1 41), .inl (cI, 12, .inl (fun _ => 0))), ((wf1 42), .inl (cT, 6, .inr (.inr (.inr (.inr (va_up (va_up (va_up (va_up (va_up (va_up (fun _ => none) 0 (some (wf1 43))) 1 (some (wf1 45))) 2 (some (wf1 47))) 3 (some (wf1 49))) 4 (some (wf1 51))) 5 (some (wf1 53)))))))), ((wf1 43), .inr (4, [.int (-1), .int 0, .ref (wf1 44)])), ((wf1 44), .inl (cJ, 60, .inr (.inl (fun _ => 0)))), ((wf1 45), .inr (4, [.int (-1), .int 0, .ref (wf1 46)])), ((wf1 46), .inl (cJ, 60, .inr (.inl (fun _ => 0)))), ((wf1 47), .inr (4, [.int (-1), .int 0, .ref (wf1 48)])), ((wf1 48), .inl (cJ, 60, .inr (.inl (fun _ => 0)))), ((wf1 49), .inr (4, [.int (-1), .int 0, .ref (wf1 50)])), ((wf1 50), .inl (cJ, 60, .inr (.inl (fun _ => 0)))), ((wf1 51), .inr (4, [.int (-1), .int 0, .ref (wf1 52)])), ((wf1 52), .inl (cJ, 60, .inr (.inl (fun _ => 0)))), ((wf1 53), .inr (4, [.int (-1), .int 0, .ref (wf1 54)])), ((wf1 54), .inl (cJ, 60, .inr (.inl (fun _ => 0))))]) (nX9 l D cI cJ cB cT tt wq2) [56] [0, 1, 2, 3, 4, 5, 6, 7, 8, 9, 10, 11, 12, 13, 14, 15, 16, 17, 18, 19, 20, 21, 22, 23, 24, 25, 26, 27, 28, 29, 30, 31, 32, 33, 34, 35, 36, 37, 38, 39, 40, 41, 42, 43, 44, 45, 46, 47, 48, 49, 50, 51, 52, 53, 54, 55] k_663 k_661 k_662 rfl k_47 hdnX9 ⟨rfl, rfl, Nat.le_of_ble_eq_true rfl, Nat.le_of_ble_eq_true rfl, Nat.le_of_ble_eq_true rfl, Nat.le_of_ble_eq_true rfl⟩ (Nat.le_of_ble_eq_true rfl) dL_law_12 rfl rfl rfl rfl (by decide) rfl (fun wf3 => ?_)
  refine j_astore_n X (lv2 := [(2, .ref wq2), (1, .ref wq0), (0, .ref b)]) dL_law_15 (by decide) rfl ?_
  refine j_iconst X (v := 0) dL_law_16 (by decide) ?_
  refine j_istore_n X (lv2 := [(3, .int 0), (2, .ref wq2), (1, .ref wq0), (0, .ref b)]) dL_law_17 (by decide) rfl ?_
  have XL : LC p s m meth c D cI cJ cB cT tt A 71 2355 b L xs := ⟨X, hX, hbl, hAn b hbl, hL, Nat.le_of_ble_eq_true rfl, Nat.le_of_ble_eq_true rfl⟩
  refine j_sub (lv2 := [(0, .ref b), (1, .ref wq0), (2, .ref wq2), (3, .int (nI (6 * 0)))]) [3, 2, 1, 0] rfl ?_
  refine law_loop (sb := b) (a := wq0) (f := wf1) (b := wq2) (g := wf3) XL (fun S M i0 => ?_) L 0 S00 M00 (by omega) (by omega) RR_start
  refine j_iconst X (v := 1) dL_law_1060 (by decide) ?_
  intro H locs ls hP hD hS h
  refine va_forget (fun q hq => hAs _ (hS.2.2 q hq)) ?_
  refine W.widen (k := 600000) (n := 7302250) (Nat.le_of_ble_eq_true rfl) (Nat.le_of_ble_eq_true rfl) ?_
  exact lw_ret hx hb hr hlocks dL_law_1061
