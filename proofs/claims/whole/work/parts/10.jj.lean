theorem GG_self {c : Cond} (hc : c ∈ GG) : GoodIn GG (c :: GG) := by
  intro w hw
  have h : w ∈ GG := (List.mem_cons.mp hw).elim (fun e => by rw [e]; exact hc) id
  exact ⟨h, good_of_word (GG_good h)⟩
/-- the tables: static arrays of the class that nobody writes -/
def tbLeast : Nat → Int32 := fun j => ([-300, -400, 1, 0, -20, 0, 1] : List Int32).getD j 0
def tbMost : Nat → Int32 := fun j => ([300, 400, 32, 9, 20, 60, 99] : List Int32).getD j 0
def tbAhead : Nat → Int32 := fun j => ([0, 1, 5, 9, 10, 7] : List Int32).getD j 0
def tbPLeast : Nat → Int32 := fun j => ([-99, -99, -20, 0] : List Int32).getD j 0
def tbPMost : Nat → Int32 := fun j => ([99, 99, 20, 9] : List Int32).getD j 0
def tbLetters : Nat → Int32 := fun j => ([97, 118, 115, 103, 111, 102, 108, 119, 116] : List Int32).getD j 0
def jT (t : Nat) (nm d : String) (ty : FieldType) (N : Nat) (f : Nat → Int32) (A : Nat → Prop) (U : State) (H : Heap) : Prop := va_Z RX8 nm d (.ref t) A U H ∧ va_T ty t N (fun j => .int (f j)) A U H
/-- links of nest mates -/
def jNs : List Cond := [Cond.methodLinkNest RX8 11 yX7_init "WatchBeats", Cond.methodLinkNest RX0 23 yX2_init "WatchBeats", Cond.methodLinkNest RX7 20 yX6_init "WatchBeats", Cond.methodLinkNest RX7 27 yX3_init "WatchBeats", Cond.methodLinkNest RX8 32 yX1_init "WatchBeats", Cond.methodLinkNest RX8 39 yX5_init "WatchBeats", Cond.methodLinkNest RX8 50 yX4_init "WatchBeats", Cond.fieldLinkNest "WatchBeats$Text" 43 "WatchBeats" "LETTERS" "[C" "WatchBeats", Cond.methodLinkNest RX5 47 yX8_isBetween "WatchBeats"]
def jZ (tt : Nat → Nat) (A : Nat → Prop) (U : State) (H : Heap) : Prop :=
  jT (tt 0) "LEAST" "[I" .int 7 tbLeast A U H ∧ jT (tt 1) "MOST" "[I" .int 7 tbMost A U H ∧ jT (tt 2) "TOLD_AHEAD" "[I" .int 6 tbAhead A U H ∧ jT (tt 3) "PUSH_LEAST" "[I" .int 4 tbPLeast A U H ∧ jT (tt 4) "PUSH_MOST" "[I" .int 4 tbPMost A U H ∧ jT (tt 5) "LETTERS" "[C" .char 9 tbLetters A U H ∧ (∀ w ∈ jNs, va_Nw w U) ∧ va_AO "WatchBeats$Tape" U
theorem jT.to {t : Nat} {nm d : String} {ty : FieldType} {N : Nat} {f : Nat → Int32} {A B : Nat → Prop} {s U : State} {H H1 : Heap} (hvm : s.vm.Alike U.vm) (hq : ∀ a : Nat, a < H.size → ¬ A a → H1[a]? = H[a]?) (hB : ∀ q, B q → A q) (h : jT t nm d ty N f A s H) : jT t nm d ty N f B U H1 :=
  ⟨((h.1.kept hq).narrow hB).moved hvm, ((h.2.kept hq).narrow hB).moved hvm⟩
theorem jNs_warm {s U : State} (hW : s.WarmedH U.vm) (h : ∀ w ∈ jNs, va_Nw w s) : ∀ w ∈ jNs, va_Nw w U := by
  intro w hw
  have h0 := h w hw
  simp only [jNs, List.mem_cons, List.not_mem_nil, or_false] at hw
  rcases hw with rfl | rfl | rfl | rfl | rfl | rfl | rfl | rfl | rfl <;> first | exact va_Nw.warmM hW h0 | exact va_Nw.warmF hW h0
theorem jNs_same {s U : State} (hv : s.vm = U.vm) (h : ∀ w ∈ jNs, va_Nw w s) : ∀ w ∈ jNs, va_Nw w U := by
  intro w hw
  have h0 := h w hw
  simp only [jNs, List.mem_cons, List.not_mem_nil, or_false] at hw
  rcases hw with rfl | rfl | rfl | rfl | rfl | rfl | rfl | rfl | rfl <;> exact va_Nw.same rfl hv h0
theorem jZ.to {tt : Nat → Nat} {A B : Nat → Prop} {s U : State} {H H1 : Heap} (hW : s.WarmedH U.vm) (hq : ∀ a : Nat, a < H.size → ¬ A a → H1[a]? = H[a]?) (hB : ∀ q, B q → A q) (h : jZ tt A s H) : jZ tt B U H1 := by
  obtain ⟨h0, h1, h2, h3, h4, h5, h6, h7⟩ := h
  have hv := hW.alike
  exact ⟨h0.to hv hq hB, h1.to hv hq hB, h2.to hv hq hB, h3.to hv hq hB, h4.to hv hq hB, h5.to hv hq hB, jNs_warm hW h6, h7.moved hv⟩
theorem jZ.blind {tt : Nat → Nat} {A : Nat → Prop} {U U2 : State} {H : Heap} (hv : U.vm = U2.vm) (h : jZ tt A U H) : jZ tt A U2 H := by
  obtain ⟨h0, h1, h2, h3, h4, h5, h6, h7⟩ := h
  have ha : U.vm.Alike U2.vm := by rw [hv]; exact Vm.Alike.refl _
  have hk : ∀ a : Nat, a < H.size → ¬ A a → H[a]? = H[a]? := fun _ _ _ => rfl
  have hB : ∀ q, A q → A q := fun _ h => h
  exact ⟨h0.to ha hk hB, h1.to ha hk hB, h2.to ha hk hB, h3.to ha hk hB, h4.to ha hk hB, h5.to ha hk hB, jNs_same hv h6, h7.moved ha⟩
/-- an index within, as a program asks it -/
def inb (i : Int32) (N : Nat) : Bool := !decide (i < 0) && decide (i.toNatClampNeg < N)
theorem inb_in {i : Int32} {N : Nat} (h : inb i N = true) : vp_in i N := by
  simp only [inb, Bool.and_eq_true, Bool.not_eq_true', decide_eq_false_iff_not, decide_eq_true_eq] at h
  intro q
  rcases q with q | q
  · exact h.1 q
  · omega
theorem in_inb {i : Int32} {N : Nat} (h0 : ¬ i < 0) (h : i.toNatClampNeg < N) : inb i N = true := by
  simp [inb, h0, h]
/-- guards, names, binds of the pictures of methods -/
def gd {α : Type} (b : Bool) (x : Option α) : Option α := if b = true then x else none
theorem gd_some {α : Type} {b : Bool} {x : Option α} {r : α} (h : gd b x = some r) : b = true ∧ x = some r := by
  cases b with
  | true => exact ⟨rfl, h⟩
  | false => cases h
theorem gd_t {α : Type} {b : Bool} {x : Option α} (h : b = true) : gd b x = x := by rw [h]; rfl
def lt' {α β : Type} (v : α) (K : α → Option β) : Option β := K v
theorem lt_some {α β : Type} {v : α} {K : α → Option β} {r : β} (h : lt' v K = some r) : ∃ x, v = x ∧ K x = some r := ⟨v, rfl, h⟩
theorem lt_eq {α β : Type} (v : α) (K : α → Option β) : lt' v K = K v := rfl
theorem bd_some {α β : Type} {x : Option α} {K : α → Option β} {r : β} (h : x.bind K = some r) : ∃ o, x = some o ∧ K o = some r := by
  cases x with
  | none => cases h
  | some o => exact ⟨o, rfl, h⟩
def zb (v : Int32) : Bool := decide (v = 0) || decide (v = 1)
theorem zb_nar {v : Int32} (h : zb v = true) : narrow .boolean (.int v) = .int v := by
  simp only [zb, Bool.or_eq_true, decide_eq_true_eq] at h
  rcases h with rfl | rfl <;> rfl
def oq {α : Type} (r : Option Nat) (x : Option α) (a : Nat) (y : Option α) : Option α := match r with
  | none => x
  | some b => if b = a then y else none
theorem oq_some {α : Type} {r : Option Nat} {x : Option α} {a : Nat} {y : Option α} {z : α} (h : oq r x a y = some z) : (r = none ∧ x = some z) ∨ (r = some a ∧ y = some z) := by
  cases r with
  | none => exact Or.inl ⟨rfl, h⟩
  | some b =>
    by_cases hb : b = a
    · exact Or.inr ⟨by rw [hb], by rw [← h]; exact (if_pos hb).symm⟩
    · rw [show oq (some b) x a y = none from if_neg hb] at h
      cases h
def jC (p : Program) (s : State) (m : MethodId) (args : Array Value) (meth : Method) (c : Code) (cc : ByteArray) (own : String) (D : va_G) (tys : List (ClassId × FieldType)) (tt : Nat → Nat) (A : Nat → Prop) (n : Nat) : Prop :=
  p.tables.exec = Jvm.exec ∧ c.code = cc ∧ c.maxLocals = n ∧ s.vm.findClass own = some m.cls ∧ (∀ w ∈ GG, w.before args s = true) ∧ va_K D vwCl tys s ∧ (∀ q : Nat, s.heap.size ≤ q → A q) ∧ jZ tt A s s.heap ∧ meth.locks = false
def jW (p : Program) (l : Launch) (e : Env) (R : Room) (s : State) (m : MethodId) (args : Array Value) (below : List Frame) (meth : Method) (c : Code) (D : va_G) (A : Nat → Prop) (n : Nat) (Q : State → Prop) (cells slots : Nat) (pc : Nat) (lv : List (Nat × Value)) (st : List Value) (ws : va_W) : Prop :=
  ∀ (H : Heap) (locs : List Loc) (ls : Array Slot), va_P D vwCl ws H → va_D A ws → va_S A s.heap H locs → lv_has ls n lv → W p l e R s m args below meth c H locs cells slots Q (F0 m pc ls st)
def jQ (D : va_G) (o : Option Value) (ws' : va_W) (A : Nat → Prop) : Array Value → State → Outcome → State → Prop := fun _ st oc t => (oc = .returned o ∧ va_P D vwCl ws' t.heap) ∧ va_F A st t
def jPre (D : va_G) (tys : List (ClassId × FieldType)) (tt : Nat → Nat) (ws : va_W) (sz : Nat) : State → Prop := fun U => U.heap.size = sz ∧ va_P D vwCl ws U.heap ∧ va_K D vwCl tys U ∧ va_D (fun _ => True) ws ∧ jZ tt (va_A ws sz) U U.heap
/-- a method's contract: from the world ws it returns o and leaves the world ws', new cells none -/
def jM (l : Launch) (y : MethodName) (cw : Cond) (rm : Room) (D : va_G) (tys : List (ClassId × FieldType)) (tt : Nat → Nat) (av : List Value) (ws : va_W) (o : Option Value) (ws' : va_W) : Prop :=
  ∀ sz : Nat, Met l y (cw :: GG) rm (va_Pc av (jPre D tys tt ws sz)) (jQ D o ws' (va_A ws sz)) 0 0 (va_A ws sz)
theorem jPre.blind {D : va_G} {tys : List (ClassId × FieldType)} {tt : Nat → Nat} {ws : va_W} {sz : Nat} {av : List Value} : FrameBlind (va_Pc av (jPre D tys tt ws sz)) := fun a U g mk q => by
  obtain ⟨q0, q1, qP, qK, qD, qZ⟩ := q
  exact ⟨q0, q1, qP, va_K.moved (u := U) (U := U.calling g mk a) (Vm.Alike.refl U.vm) qK, qD, jZ.blind (U := U) (U2 := U.calling g mk a) rfl qZ⟩
set_option maxHeartbeats 4000000 in
theorem jM.of {l : Launch} {y : MethodName} {cc : ByteArray} {maxL : Nat} {ret : Option FieldType} {rm : Room} {D : va_G} {tys : List (ClassId × FieldType)} {tt : Nat → Nat} {av : List Value} {ws : va_W} {o : Option Value} {ws' : va_W} (hy : plainName y.cls = true) (hn : (lg_sl av).length ≤ maxL)
    (body : ∀ (p : Program) (e : Env) (s : State) (m : MethodId) (below : List Frame) (meth : Method) (c : Code) (A : Nat → Prop), jC p s m av.toArray meth c cc y.cls D tys tt A maxL → meth.sig.returnType = ret →
      jW p l e rm s m av.toArray below meth c D A maxL (MQ below (jQ D o ws' A) av.toArray s 0 0 A) 0 0 0 (lv_args 0 av) [] ws) : jM l y (.code y cc maxL ret) rm D tys tt av ws o ws' := by
  intro sz
  refine Met.ofW (cc := cc) (maxL := maxL) (ret := ret) hy rfl ?_
  intro p e s m args below meth c s₁ B hml hv
  obtain ⟨rfl, hsz, hP, hK, hD0, hZ⟩ := hv
  have hts := atoms_spec (ws := Cond.code y cc maxL ret :: GG) B.pre
  subst hsz
  have hD := hD0.self (sz := s.heap.size)
  rw [lg_entry_eq]
  have hl := lv_entry av hn
  exact body p e s m below meth c (va_A ws s.heap.size) ⟨B.exec, B.bytes, hml, findClass_of_methodNamed B.named, fun w h => hts w (List.mem_cons_of_mem _ h), hK, fun q h => Or.inr h, hZ, B.notSynchronized⟩ B.returns s.heap [] _ hP hD va_S.rf hl
section JROWS
variable {p : Program} {l : Launch} {e : Env} {R : Room} {s : State} {m : MethodId} {args : Array Value} {below : List Frame} {meth : Method} {c : Code} {cc : ByteArray} {own : String} {D : va_G} {tys : List (ClassId × FieldType)} {tt : Nat → Nat} {A : Nat → Prop} {n : Nat} {Q : State → Prop} {cells slots : Nat} {pc : Nat} {lv : List (Nat × Value)} {st : List Value} {ws : va_W}
theorem jC.hts (X : jC p s m args meth c cc own D tys tt A n) : ∀ w ∈ GG, w.before args s = true := X.2.2.2.2.1
theorem jC.ow (X : jC p s m args meth c cc own D tys tt A n) : s.vm.findClass own = some m.cls := X.2.2.2.1
theorem jC.K (X : jC p s m args meth c cc own D tys tt A n) : va_K D vwCl tys s := X.2.2.2.2.2.1
theorem jC.hA (X : jC p s m args meth c cc own D tys tt A n) : ∀ q : Nat, s.heap.size ≤ q → A q := X.2.2.2.2.2.2.1
theorem jC.Z (X : jC p s m args meth c cc own D tys tt A n) : jZ tt A s s.heap := X.2.2.2.2.2.2.2.1
theorem jC.lk (X : jC p s m args meth c cc own D tys tt A n) : meth.locks = false := X.2.2.2.2.2.2.2.2
/-- the goal's parts, named otherwise -/
theorem j_eq {st2 : List Value} {ws2 : va_W} (hst : st = st2) (hws : ws = ws2) (kk : jW p l e R s m args below meth c D A n Q cells slots (pc) lv (st2) ws2) : jW p l e R s m args below meth c D A n Q cells slots (pc) lv (st) ws := by
  subst hst; subst hws; exact kk
theorem j_sub {lv2 : List (Nat × Value)} (ks : List Nat) (hl : lv_pick lv ks = lv2) (kk : jW p l e R s m args below meth c D A n Q cells slots (pc) lv2 (st) ws) : jW p l e R s m args below meth c D A n Q cells slots (pc) lv (st) ws := fun H locs ls hP hD hS h => kk H locs ls hP hD hS (lv_sub h ks hl)
theorem j_iconst {k : Int} {v : Int32} (X : jC p s m args meth c cc own D tys tt A n) (hdg : decode cc pc = .ok (.iconst k, 1)) (hv : Int32.ofInt k = v) (kk : jW p l e R s m args below meth c D A n Q cells slots (pc + 1) lv (.int v :: st) ws) : jW p l e R s m args below meth c D A n Q cells slots (pc) lv (st) ws :=
  fun H locs ls hP hD hS h => lv_iconst X.1 X.2.1 hdg hv (kk H locs ls hP hD hS h)
theorem j_bipush {k : Int} {v : Int32} (X : jC p s m args meth c cc own D tys tt A n) (hdg : decode cc pc = .ok (.bipush k, 2)) (hv : (Int8.ofInt k).toInt32 = v) (kk : jW p l e R s m args below meth c D A n Q cells slots (pc + 2) lv (.int v :: st) ws) : jW p l e R s m args below meth c D A n Q cells slots (pc) lv (st) ws :=
  fun H locs ls hP hD hS h => lv_bipush X.1 X.2.1 hdg hv (kk H locs ls hP hD hS h)
theorem j_sipush {k : Int} {v : Int32} (X : jC p s m args meth c cc own D tys tt A n) (hdg : decode cc pc = .ok (.sipush k, 3)) (hv : (Int16.ofInt k).toInt32 = v) (kk : jW p l e R s m args below meth c D A n Q cells slots (pc + 3) lv (.int v :: st) ws) : jW p l e R s m args below meth c D A n Q cells slots (pc) lv (st) ws :=
  fun H locs ls hP hD hS h => lv_sipush X.1 X.2.1 hdg hv (kk H locs ls hP hD hS h)
theorem j_lconst {k : Fin 2} {v : Int64} (X : jC p s m args meth c cc own D tys tt A n) (hdg : decode cc pc = .ok (.lconst k, 1)) (hv : Int64.ofNat (k : Nat) = v) (kk : jW p l e R s m args below meth c D A n Q cells slots (pc + 1) lv (.long v :: st) ws) : jW p l e R s m args below meth c D A n Q cells slots (pc) lv (st) ws :=
  fun H locs ls hP hD hS h => lv_lconst X.1 X.2.1 hdg hv (kk H locs ls hP hD hS h)
theorem j_null (X : jC p s m args meth c cc own D tys tt A n) (hdg : decode cc pc = .ok (.aconst_null, 1)) (kk : jW p l e R s m args below meth c D A n Q cells slots (pc + 1) lv (.null :: st) ws) : jW p l e R s m args below meth c D A n Q cells slots (pc) lv (st) ws :=
  fun H locs ls hP hD hS h => lv_null X.1 X.2.1 hdg (kk H locs ls hP hD hS h)
theorem j_iload_n {k : Fin 4} {x : Int32} (X : jC p s m args meth c cc own D tys tt A n) (hdg : decode cc pc = .ok (.iload_n k, 1)) (q : Nat) (hl : lv[q]? = some ((k : Nat), .int x)) (kk : jW p l e R s m args below meth c D A n Q cells slots (pc + 1) lv (.int x :: st) ws) : jW p l e R s m args below meth c D A n Q cells slots (pc) lv (st) ws :=
  fun H locs ls hP hD hS h => lv_iload_n X.1 X.2.1 hdg rfl (lv_at h q hl) (kk H locs ls hP hD hS h)
theorem j_iload {i : Nat} {x : Int32} (X : jC p s m args meth c cc own D tys tt A n) (hdg : decode cc pc = .ok (.iload i, 2)) (q : Nat) (hl : lv[q]? = some (i, .int x)) (kk : jW p l e R s m args below meth c D A n Q cells slots (pc + 2) lv (.int x :: st) ws) : jW p l e R s m args below meth c D A n Q cells slots (pc) lv (st) ws :=
  fun H locs ls hP hD hS h => lv_iload X.1 X.2.1 hdg (lv_at h q hl) (kk H locs ls hP hD hS h)
theorem j_lload_n {k : Fin 4} {x : Int64} (X : jC p s m args meth c cc own D tys tt A n) (hdg : decode cc pc = .ok (.lload_n k, 1)) (q : Nat) (hl : lv[q]? = some ((k : Nat), .long x)) (kk : jW p l e R s m args below meth c D A n Q cells slots (pc + 1) lv (.long x :: st) ws) : jW p l e R s m args below meth c D A n Q cells slots (pc) lv (st) ws :=
  fun H locs ls hP hD hS h => lv_lload_n X.1 X.2.1 hdg rfl (lv_at h q hl) (kk H locs ls hP hD hS h)
theorem j_lload {i : Nat} {x : Int64} (X : jC p s m args meth c cc own D tys tt A n) (hdg : decode cc pc = .ok (.lload i, 2)) (q : Nat) (hl : lv[q]? = some (i, .long x)) (kk : jW p l e R s m args below meth c D A n Q cells slots (pc + 2) lv (.long x :: st) ws) : jW p l e R s m args below meth c D A n Q cells slots (pc) lv (st) ws :=
  fun H locs ls hP hD hS h => lv_lload X.1 X.2.1 hdg (lv_at h q hl) (kk H locs ls hP hD hS h)
theorem j_aload_n {k : Fin 4} {x : Nat} (X : jC p s m args meth c cc own D tys tt A n) (hdg : decode cc pc = .ok (.aload_n k, 1)) (q : Nat) (hl : lv[q]? = some ((k : Nat), .ref x)) (kk : jW p l e R s m args below meth c D A n Q cells slots (pc + 1) lv (.ref x :: st) ws) : jW p l e R s m args below meth c D A n Q cells slots (pc) lv (st) ws :=
  fun H locs ls hP hD hS h => lv_aload_n X.1 X.2.1 hdg rfl (lv_at h q hl) (kk H locs ls hP hD hS h)
theorem j_aload {i : Nat} {x : Nat} (X : jC p s m args meth c cc own D tys tt A n) (hdg : decode cc pc = .ok (.aload i, 2)) (q : Nat) (hl : lv[q]? = some (i, .ref x)) (kk : jW p l e R s m args below meth c D A n Q cells slots (pc + 2) lv (.ref x :: st) ws) : jW p l e R s m args below meth c D A n Q cells slots (pc) lv (st) ws :=
  fun H locs ls hP hD hS h => lv_aload X.1 X.2.1 hdg (lv_at h q hl) (kk H locs ls hP hD hS h)
theorem j_aload_nN {k : Fin 4} (X : jC p s m args meth c cc own D tys tt A n) (hdg : decode cc pc = .ok (.aload_n k, 1)) (q : Nat) (hl : lv[q]? = some ((k : Nat), .null)) (kk : jW p l e R s m args below meth c D A n Q cells slots (pc + 1) lv (.null :: st) ws) : jW p l e R s m args below meth c D A n Q cells slots (pc) lv (st) ws :=
  fun H locs ls hP hD hS h => lv_aload_nN X.1 X.2.1 hdg rfl (lv_at h q hl) (kk H locs ls hP hD hS h)
theorem j_aloadN {i : Nat} (X : jC p s m args meth c cc own D tys tt A n) (hdg : decode cc pc = .ok (.aload i, 2)) (q : Nat) (hl : lv[q]? = some (i, .null)) (kk : jW p l e R s m args below meth c D A n Q cells slots (pc + 2) lv (.null :: st) ws) : jW p l e R s m args below meth c D A n Q cells slots (pc) lv (st) ws :=
  fun H locs ls hP hD hS h => lv_aloadN X.1 X.2.1 hdg (lv_at h q hl) (kk H locs ls hP hD hS h)
theorem j_istore_n {k : Fin 4} {x : Int32} {lv2 : List (Nat × Value)} (X : jC p s m args meth c cc own D tys tt A n) (hdg : decode cc pc = .ok (.istore_n k, 1)) (hn : (k : Nat) < n) (hl : ((k : Nat), Value.int x) :: lv.filter (fun q => !(q.1 == (k : Nat)) && !(q.1 + 1 == (k : Nat) && q.2.category == 2)) = lv2) (kk : jW p l e R s m args below meth c D A n Q cells slots (pc + 1) lv2 (st) ws) : jW p l e R s m args below meth c D A n Q cells slots (pc) lv (.int x :: st) ws :=
  fun H locs ls hP hD hS h => lv_istore_n X.1 X.2.1 hdg rfl h hn hl (fun ls2 h2 => kk H locs ls2 hP hD hS h2)
theorem j_istore {i : Nat} {x : Int32} {lv2 : List (Nat × Value)} (X : jC p s m args meth c cc own D tys tt A n) (hdg : decode cc pc = .ok (.istore i, 2)) (hn : i < n) (hl : (i, Value.int x) :: lv.filter (fun q => !(q.1 == i) && !(q.1 + 1 == i && q.2.category == 2)) = lv2) (kk : jW p l e R s m args below meth c D A n Q cells slots (pc + 2) lv2 (st) ws) : jW p l e R s m args below meth c D A n Q cells slots (pc) lv (.int x :: st) ws :=
  fun H locs ls hP hD hS h => lv_istore X.1 X.2.1 hdg h hn hl (fun ls2 h2 => kk H locs ls2 hP hD hS h2)
theorem j_astore_n {k : Fin 4} {x : Nat} {lv2 : List (Nat × Value)} (X : jC p s m args meth c cc own D tys tt A n) (hdg : decode cc pc = .ok (.astore_n k, 1)) (hn : (k : Nat) < n) (hl : ((k : Nat), Value.ref x) :: lv.filter (fun q => !(q.1 == (k : Nat)) && !(q.1 + 1 == (k : Nat) && q.2.category == 2)) = lv2) (kk : jW p l e R s m args below meth c D A n Q cells slots (pc + 1) lv2 (st) ws) : jW p l e R s m args below meth c D A n Q cells slots (pc) lv (.ref x :: st) ws :=
  fun H locs ls hP hD hS h => lv_astore_n X.1 X.2.1 hdg rfl h hn hl (fun ls2 h2 => kk H locs ls2 hP hD hS h2)
theorem j_astore {i : Nat} {x : Nat} {lv2 : List (Nat × Value)} (X : jC p s m args meth c cc own D tys tt A n) (hdg : decode cc pc = .ok (.astore i, 2)) (hn : i < n) (hl : (i, Value.ref x) :: lv.filter (fun q => !(q.1 == i) && !(q.1 + 1 == i && q.2.category == 2)) = lv2) (kk : jW p l e R s m args below meth c D A n Q cells slots (pc + 2) lv2 (st) ws) : jW p l e R s m args below meth c D A n Q cells slots (pc) lv (.ref x :: st) ws :=
  fun H locs ls hP hD hS h => lv_astore X.1 X.2.1 hdg h hn hl (fun ls2 h2 => kk H locs ls2 hP hD hS h2)
theorem j_astore_nN {k : Fin 4} {lv2 : List (Nat × Value)} (X : jC p s m args meth c cc own D tys tt A n) (hdg : decode cc pc = .ok (.astore_n k, 1)) (hn : (k : Nat) < n) (hl : ((k : Nat), Value.null) :: lv.filter (fun q => !(q.1 == (k : Nat)) && !(q.1 + 1 == (k : Nat) && q.2.category == 2)) = lv2) (kk : jW p l e R s m args below meth c D A n Q cells slots (pc + 1) lv2 (st) ws) : jW p l e R s m args below meth c D A n Q cells slots (pc) lv (.null :: st) ws :=
  fun H locs ls hP hD hS h => lv_astore_nN X.1 X.2.1 hdg rfl h hn hl (fun ls2 h2 => kk H locs ls2 hP hD hS h2)
theorem j_astoreN {i : Nat} {lv2 : List (Nat × Value)} (X : jC p s m args meth c cc own D tys tt A n) (hdg : decode cc pc = .ok (.astore i, 2)) (hn : i < n) (hl : (i, Value.null) :: lv.filter (fun q => !(q.1 == i) && !(q.1 + 1 == i && q.2.category == 2)) = lv2) (kk : jW p l e R s m args below meth c D A n Q cells slots (pc + 2) lv2 (st) ws) : jW p l e R s m args below meth c D A n Q cells slots (pc) lv (.null :: st) ws :=
  fun H locs ls hP hD hS h => lv_astoreN X.1 X.2.1 hdg h hn hl (fun ls2 h2 => kk H locs ls2 hP hD hS h2)
theorem j_lstore_n {k : Fin 4} {x : Int64} {lv2 : List (Nat × Value)} (X : jC p s m args meth c cc own D tys tt A n) (hdg : decode cc pc = .ok (.lstore_n k, 1)) (hn : (k : Nat) + 1 < n) (hl : ((k : Nat), Value.long x) :: lv.filter (fun q => !(q.1 == (k : Nat)) && (!(q.1 == (k : Nat) + 1) && !(q.1 + 1 == (k : Nat) && q.2.category == 2))) = lv2) (kk : jW p l e R s m args below meth c D A n Q cells slots (pc + 1) lv2 (st) ws) : jW p l e R s m args below meth c D A n Q cells slots (pc) lv (.long x :: st) ws :=
  fun H locs ls hP hD hS h => lv_lstore_n X.1 X.2.1 hdg rfl h hn hl (fun ls2 h2 => kk H locs ls2 hP hD hS h2)
theorem j_lstore {i : Nat} {x : Int64} {lv2 : List (Nat × Value)} (X : jC p s m args meth c cc own D tys tt A n) (hdg : decode cc pc = .ok (.lstore i, 2)) (hn : i + 1 < n) (hl : (i, Value.long x) :: lv.filter (fun q => !(q.1 == i) && (!(q.1 == i + 1) && !(q.1 + 1 == i && q.2.category == 2))) = lv2) (kk : jW p l e R s m args below meth c D A n Q cells slots (pc + 2) lv2 (st) ws) : jW p l e R s m args below meth c D A n Q cells slots (pc) lv (.long x :: st) ws :=
  fun H locs ls hP hD hS h => lv_lstore X.1 X.2.1 hdg h hn hl (fun ls2 h2 => kk H locs ls2 hP hD hS h2)
theorem j_iinc {i k : Nat} {d : Int} {x v : Int32} {lv2 : List (Nat × Value)} (X : jC p s m args meth c cc own D tys tt A n) (hdg : decode cc pc = .ok (.iinc i d, 3)) (hk : lv[k]? = some (i, .int x)) (hv : x + Int32.ofInt d = v) (hn : i < n) (hl : (i, Value.int v) :: lv.filter (fun q => !(q.1 == i) && !(q.1 + 1 == i && q.2.category == 2)) = lv2) (kk : jW p l e R s m args below meth c D A n Q cells slots (pc + 3) lv2 (st) ws) : jW p l e R s m args below meth c D A n Q cells slots (pc) lv (st) ws :=
  fun H locs ls hP hD hS h => lv_iinc X.1 X.2.1 hdg h hk hv hn hl (fun ls2 h2 => kk H locs ls2 hP hD hS h2)
theorem j_iadd {x y : Int32} (X : jC p s m args meth c cc own D tys tt A n) (hdg : decode cc pc = .ok (.iadd, 1)) (kk : jW p l e R s m args below meth c D A n Q cells slots (pc + 1) lv (.int (x + y) :: st) ws) : jW p l e R s m args below meth c D A n Q cells slots (pc) lv (.int y :: .int x :: st) ws :=
  fun H locs ls hP hD hS h => lv_iadd X.1 X.2.1 hdg (kk H locs ls hP hD hS h)
theorem j_isub {x y : Int32} (X : jC p s m args meth c cc own D tys tt A n) (hdg : decode cc pc = .ok (.isub, 1)) (kk : jW p l e R s m args below meth c D A n Q cells slots (pc + 1) lv (.int (x - y) :: st) ws) : jW p l e R s m args below meth c D A n Q cells slots (pc) lv (.int y :: .int x :: st) ws :=
  fun H locs ls hP hD hS h => lv_isub X.1 X.2.1 hdg (kk H locs ls hP hD hS h)
theorem j_imul {x y : Int32} (X : jC p s m args meth c cc own D tys tt A n) (hdg : decode cc pc = .ok (.imul, 1)) (kk : jW p l e R s m args below meth c D A n Q cells slots (pc + 1) lv (.int (x * y) :: st) ws) : jW p l e R s m args below meth c D A n Q cells slots (pc) lv (.int y :: .int x :: st) ws :=
  fun H locs ls hP hD hS h => lv_imul X.1 X.2.1 hdg (kk H locs ls hP hD hS h)
theorem j_iand {x y : Int32} (X : jC p s m args meth c cc own D tys tt A n) (hdg : decode cc pc = .ok (.iand, 1)) (kk : jW p l e R s m args below meth c D A n Q cells slots (pc + 1) lv (.int (x &&& y) :: st) ws) : jW p l e R s m args below meth c D A n Q cells slots (pc) lv (.int y :: .int x :: st) ws :=
  fun H locs ls hP hD hS h => lv_iand X.1 X.2.1 hdg (kk H locs ls hP hD hS h)
theorem j_ior {x y : Int32} (X : jC p s m args meth c cc own D tys tt A n) (hdg : decode cc pc = .ok (.ior, 1)) (kk : jW p l e R s m args below meth c D A n Q cells slots (pc + 1) lv (.int (x ||| y) :: st) ws) : jW p l e R s m args below meth c D A n Q cells slots (pc) lv (.int y :: .int x :: st) ws :=
  fun H locs ls hP hD hS h => lv_ior X.1 X.2.1 hdg (kk H locs ls hP hD hS h)
theorem j_ixor {x y : Int32} (X : jC p s m args meth c cc own D tys tt A n) (hdg : decode cc pc = .ok (.ixor, 1)) (kk : jW p l e R s m args below meth c D A n Q cells slots (pc + 1) lv (.int (x ^^^ y) :: st) ws) : jW p l e R s m args below meth c D A n Q cells slots (pc) lv (.int y :: .int x :: st) ws :=
  fun H locs ls hP hD hS h => lv_ixor X.1 X.2.1 hdg (kk H locs ls hP hD hS h)
theorem j_idiv {x y : Int32} (X : jC p s m args meth c cc own D tys tt A n) (hdg : decode cc pc = .ok (.idiv, 1)) (hne : ¬ y = 0) (kk : jW p l e R s m args below meth c D A n Q cells slots (pc + 1) lv (.int (x / y) :: st) ws) : jW p l e R s m args below meth c D A n Q cells slots (pc) lv (.int y :: .int x :: st) ws :=
  fun H locs ls hP hD hS h => lv_idiv X.1 X.2.1 hdg hne (kk H locs ls hP hD hS h)
theorem j_irem {x y : Int32} (X : jC p s m args meth c cc own D tys tt A n) (hdg : decode cc pc = .ok (.irem, 1)) (hne : ¬ y = 0) (kk : jW p l e R s m args below meth c D A n Q cells slots (pc + 1) lv (.int (x - x / y * y) :: st) ws) : jW p l e R s m args below meth c D A n Q cells slots (pc) lv (.int y :: .int x :: st) ws :=
  fun H locs ls hP hD hS h => lv_irem X.1 X.2.1 hdg hne (kk H locs ls hP hD hS h)
theorem j_ineg {x : Int32} (X : jC p s m args meth c cc own D tys tt A n) (hdg : decode cc pc = .ok (.ineg, 1)) (kk : jW p l e R s m args below meth c D A n Q cells slots (pc + 1) lv (.int (-x) :: st) ws) : jW p l e R s m args below meth c D A n Q cells slots (pc) lv (.int x :: st) ws :=
  fun H locs ls hP hD hS h => lv_ineg X.1 X.2.1 hdg (kk H locs ls hP hD hS h)
theorem j_ladd {x y : Int64} (X : jC p s m args meth c cc own D tys tt A n) (hdg : decode cc pc = .ok (.ladd, 1)) (kk : jW p l e R s m args below meth c D A n Q cells slots (pc + 1) lv (.long (x + y) :: st) ws) : jW p l e R s m args below meth c D A n Q cells slots (pc) lv (.long y :: .long x :: st) ws :=
  fun H locs ls hP hD hS h => lv_ladd X.1 X.2.1 hdg (kk H locs ls hP hD hS h)
theorem j_lsub {x y : Int64} (X : jC p s m args meth c cc own D tys tt A n) (hdg : decode cc pc = .ok (.lsub, 1)) (kk : jW p l e R s m args below meth c D A n Q cells slots (pc + 1) lv (.long (x - y) :: st) ws) : jW p l e R s m args below meth c D A n Q cells slots (pc) lv (.long y :: .long x :: st) ws :=
  fun H locs ls hP hD hS h => lv_lsub X.1 X.2.1 hdg (kk H locs ls hP hD hS h)
theorem j_lmul {x y : Int64} (X : jC p s m args meth c cc own D tys tt A n) (hdg : decode cc pc = .ok (.lmul, 1)) (kk : jW p l e R s m args below meth c D A n Q cells slots (pc + 1) lv (.long (x * y) :: st) ws) : jW p l e R s m args below meth c D A n Q cells slots (pc) lv (.long y :: .long x :: st) ws :=
  fun H locs ls hP hD hS h => lv_lmul X.1 X.2.1 hdg (kk H locs ls hP hD hS h)
theorem j_land {x y : Int64} (X : jC p s m args meth c cc own D tys tt A n) (hdg : decode cc pc = .ok (.land, 1)) (kk : jW p l e R s m args below meth c D A n Q cells slots (pc + 1) lv (.long (x &&& y) :: st) ws) : jW p l e R s m args below meth c D A n Q cells slots (pc) lv (.long y :: .long x :: st) ws :=
  fun H locs ls hP hD hS h => lv_land X.1 X.2.1 hdg (kk H locs ls hP hD hS h)
theorem j_lor {x y : Int64} (X : jC p s m args meth c cc own D tys tt A n) (hdg : decode cc pc = .ok (.lor, 1)) (kk : jW p l e R s m args below meth c D A n Q cells slots (pc + 1) lv (.long (x ||| y) :: st) ws) : jW p l e R s m args below meth c D A n Q cells slots (pc) lv (.long y :: .long x :: st) ws :=
  fun H locs ls hP hD hS h => lv_lor X.1 X.2.1 hdg (kk H locs ls hP hD hS h)
theorem j_ldiv {x y : Int64} (X : jC p s m args meth c cc own D tys tt A n) (hdg : decode cc pc = .ok (.ldiv, 1)) (hne : ¬ y = 0) (kk : jW p l e R s m args below meth c D A n Q cells slots (pc + 1) lv (.long (x / y) :: st) ws) : jW p l e R s m args below meth c D A n Q cells slots (pc) lv (.long y :: .long x :: st) ws :=
  fun H locs ls hP hD hS h => lv_ldiv X.1 X.2.1 hdg hne (kk H locs ls hP hD hS h)
theorem j_lrem {x y : Int64} (X : jC p s m args meth c cc own D tys tt A n) (hdg : decode cc pc = .ok (.lrem, 1)) (hne : ¬ y = 0) (kk : jW p l e R s m args below meth c D A n Q cells slots (pc + 1) lv (.long (x - x / y * y) :: st) ws) : jW p l e R s m args below meth c D A n Q cells slots (pc) lv (.long y :: .long x :: st) ws :=
  fun H locs ls hP hD hS h => lv_lrem X.1 X.2.1 hdg hne (kk H locs ls hP hD hS h)
theorem j_lshl {x : Int64} {y : Int32} (X : jC p s m args meth c cc own D tys tt A n) (hdg : decode cc pc = .ok (.lshl, 1)) (kk : jW p l e R s m args below meth c D A n Q cells slots (pc + 1) lv (.long (x <<< (y.toInt64 &&& 63)) :: st) ws) : jW p l e R s m args below meth c D A n Q cells slots (pc) lv (.int y :: .long x :: st) ws :=
  fun H locs ls hP hD hS h => lv_lshl X.1 X.2.1 hdg rfl (kk H locs ls hP hD hS h)
theorem j_i2l {x : Int32} (X : jC p s m args meth c cc own D tys tt A n) (hdg : decode cc pc = .ok (.i2l, 1)) (kk : jW p l e R s m args below meth c D A n Q cells slots (pc + 1) lv (.long x.toInt64 :: st) ws) : jW p l e R s m args below meth c D A n Q cells slots (pc) lv (.int x :: st) ws :=
  fun H locs ls hP hD hS h => lv_i2l X.1 X.2.1 hdg rfl (kk H locs ls hP hD hS h)
theorem j_l2i {x : Int64} (X : jC p s m args meth c cc own D tys tt A n) (hdg : decode cc pc = .ok (.l2i, 1)) (kk : jW p l e R s m args below meth c D A n Q cells slots (pc + 1) lv (.int x.toInt32 :: st) ws) : jW p l e R s m args below meth c D A n Q cells slots (pc) lv (.long x :: st) ws :=
  fun H locs ls hP hD hS h => lv_l2i X.1 X.2.1 hdg rfl (kk H locs ls hP hD hS h)
theorem j_i2b {x : Int32} (X : jC p s m args meth c cc own D tys tt A n) (hdg : decode cc pc = .ok (.i2b, 1)) (kk : jW p l e R s m args below meth c D A n Q cells slots (pc + 1) lv (.int x.toInt8.toInt32 :: st) ws) : jW p l e R s m args below meth c D A n Q cells slots (pc) lv (.int x :: st) ws :=
  fun H locs ls hP hD hS h => lv_i2b X.1 X.2.1 hdg rfl (kk H locs ls hP hD hS h)
theorem j_i2s {x : Int32} (X : jC p s m args meth c cc own D tys tt A n) (hdg : decode cc pc = .ok (.i2s, 1)) (kk : jW p l e R s m args below meth c D A n Q cells slots (pc + 1) lv (.int x.toInt16.toInt32 :: st) ws) : jW p l e R s m args below meth c D A n Q cells slots (pc) lv (.int x :: st) ws :=
  fun H locs ls hP hD hS h => lv_i2s X.1 X.2.1 hdg rfl (kk H locs ls hP hD hS h)
theorem j_lcmp {x y : Int64} (X : jC p s m args meth c cc own D tys tt A n) (hdg : decode cc pc = .ok (.lcmp, 1)) (kk : jW p l e R s m args below meth c D A n Q cells slots (pc + 1) lv (.int (lg_cmp x y) :: st) ws) : jW p l e R s m args below meth c D A n Q cells slots (pc) lv (.long y :: .long x :: st) ws :=
  fun H locs ls hP hD hS h => W.lcmp X.1 X.2.1 hdg (kk H locs ls hP hD hS h)
theorem j_dup {va : Value} (X : jC p s m args meth c cc own D tys tt A n) (hdg : decode cc pc = .ok (.dup, 1)) (h1 : va.category = 1) (kk : jW p l e R s m args below meth c D A n Q cells slots (pc + 1) lv (va :: va :: st) ws) : jW p l e R s m args below meth c D A n Q cells slots (pc) lv (va :: st) ws :=
  fun H locs ls hP hD hS h => lv_dup X.1 X.2.1 hdg h1 (kk H locs ls hP hD hS h)
theorem j_pop {va : Value} (X : jC p s m args meth c cc own D tys tt A n) (hdg : decode cc pc = .ok (.pop, 1)) (h1 : va.category = 1) (kk : jW p l e R s m args below meth c D A n Q cells slots (pc + 1) lv (st) ws) : jW p l e R s m args below meth c D A n Q cells slots (pc) lv (va :: st) ws :=
  fun H locs ls hP hD hS h => lv_pop X.1 X.2.1 hdg h1 (kk H locs ls hP hD hS h)
theorem j_dup_x1 {va vb : Value} (X : jC p s m args meth c cc own D tys tt A n) (hdg : decode cc pc = .ok (.dup_x1, 1)) (h1 : va.category = 1) (h2 : vb.category = 1) (kk : jW p l e R s m args below meth c D A n Q cells slots (pc + 1) lv (va :: vb :: va :: st) ws) : jW p l e R s m args below meth c D A n Q cells slots (pc) lv (va :: vb :: st) ws :=
  fun H locs ls hP hD hS h => lv_dup_x1 X.1 X.2.1 hdg h1 h2 (kk H locs ls hP hD hS h)
theorem j_dup_x2 {va vb vd : Value} (X : jC p s m args meth c cc own D tys tt A n) (hdg : decode cc pc = .ok (.dup_x2, 1)) (h1 : va.category = 1) (h2 : vb.category = 1) (h3 : vd.category = 1) (kk : jW p l e R s m args below meth c D A n Q cells slots (pc + 1) lv (va :: vb :: vd :: va :: st) ws) : jW p l e R s m args below meth c D A n Q cells slots (pc) lv (va :: vb :: vd :: st) ws :=
  fun H locs ls hP hD hS h => lv_dup_x2 X.1 X.2.1 hdg h1 h2 h3 (kk H locs ls hP hD hS h)
theorem j_dup2_11 {va vb : Value} (X : jC p s m args meth c cc own D tys tt A n) (hdg : decode cc pc = .ok (.dup2, 1)) (h1 : va.category = 1) (h2 : vb.category = 1) (kk : jW p l e R s m args below meth c D A n Q cells slots (pc + 1) lv (va :: vb :: va :: vb :: st) ws) : jW p l e R s m args below meth c D A n Q cells slots (pc) lv (va :: vb :: st) ws :=
  fun H locs ls hP hD hS h => lv_dup2_11 X.1 X.2.1 hdg h1 h2 (kk H locs ls hP hD hS h)
theorem j_dup2_2 {va : Value} (X : jC p s m args meth c cc own D tys tt A n) (hdg : decode cc pc = .ok (.dup2, 1)) (h1 : va.category = 2) (kk : jW p l e R s m args below meth c D A n Q cells slots (pc + 1) lv (va :: va :: st) ws) : jW p l e R s m args below meth c D A n Q cells slots (pc) lv (va :: st) ws :=
  fun H locs ls hP hD hS h => lv_dup2_2 X.1 X.2.1 hdg h1 (kk H locs ls hP hD hS h)
theorem j_pop2_2 {va : Value} (X : jC p s m args meth c cc own D tys tt A n) (hdg : decode cc pc = .ok (.pop2, 1)) (h1 : va.category = 2) (kk : jW p l e R s m args below meth c D A n Q cells slots (pc + 1) lv (st) ws) : jW p l e R s m args below meth c D A n Q cells slots (pc) lv (va :: st) ws :=
  fun H locs ls hP hD hS h => lv_pop2_2 X.1 X.2.1 hdg h1 (kk H locs ls hP hD hS h)
theorem j_pop2_11 {va vb : Value} (X : jC p s m args meth c cc own D tys tt A n) (hdg : decode cc pc = .ok (.pop2, 1)) (h1 : va.category = 1) (h2 : vb.category = 1) (kk : jW p l e R s m args below meth c D A n Q cells slots (pc + 1) lv (st) ws) : jW p l e R s m args below meth c D A n Q cells slots (pc) lv (va :: vb :: st) ws :=
  fun H locs ls hP hD hS h => lv_pop2_11 X.1 X.2.1 hdg h1 h2 (kk H locs ls hP hD hS h)
theorem j_if_eq {x : Int32} {off : Int} {tgt : Nat} (X : jC p s m args meth c cc own D tys tt A n) (hdg : decode cc pc = .ok (.ifCond .eq off, 3)) (ht : (pc : Int) + off = (tgt : Int)) (kt : x = 0 → jW p l e R s m args below meth c D A n Q cells slots (tgt) lv (st) ws) (kf : ¬ x = 0 → jW p l e R s m args below meth c D A n Q cells slots (pc + 3) lv (st) ws) : jW p l e R s m args below meth c D A n Q cells slots (pc) lv (.int x :: st) ws :=
  fun H locs ls hP hD hS h => lv_if_eq X.1 X.2.1 hdg ht (fun hc => kt hc H locs ls hP hD hS h) (fun hc => kf hc H locs ls hP hD hS h)
theorem j_icmp_eq {x y : Int32} {off : Int} {tgt : Nat} (X : jC p s m args meth c cc own D tys tt A n) (hdg : decode cc pc = .ok (.if_icmp .eq off, 3)) (ht : (pc : Int) + off = (tgt : Int)) (kt : x = y → jW p l e R s m args below meth c D A n Q cells slots (tgt) lv (st) ws) (kf : ¬ x = y → jW p l e R s m args below meth c D A n Q cells slots (pc + 3) lv (st) ws) : jW p l e R s m args below meth c D A n Q cells slots (pc) lv (.int y :: .int x :: st) ws :=
  fun H locs ls hP hD hS h => lv_icmp_eq X.1 X.2.1 hdg ht (fun hc => kt hc H locs ls hP hD hS h) (fun hc => kf hc H locs ls hP hD hS h)
theorem j_if_ne {x : Int32} {off : Int} {tgt : Nat} (X : jC p s m args meth c cc own D tys tt A n) (hdg : decode cc pc = .ok (.ifCond .ne off, 3)) (ht : (pc : Int) + off = (tgt : Int)) (kt : ¬ x = 0 → jW p l e R s m args below meth c D A n Q cells slots (tgt) lv (st) ws) (kf : x = 0 → jW p l e R s m args below meth c D A n Q cells slots (pc + 3) lv (st) ws) : jW p l e R s m args below meth c D A n Q cells slots (pc) lv (.int x :: st) ws :=
  fun H locs ls hP hD hS h => lv_if_ne X.1 X.2.1 hdg ht (fun hc => kt hc H locs ls hP hD hS h) (fun hc => kf hc H locs ls hP hD hS h)
theorem j_icmp_ne {x y : Int32} {off : Int} {tgt : Nat} (X : jC p s m args meth c cc own D tys tt A n) (hdg : decode cc pc = .ok (.if_icmp .ne off, 3)) (ht : (pc : Int) + off = (tgt : Int)) (kt : ¬ x = y → jW p l e R s m args below meth c D A n Q cells slots (tgt) lv (st) ws) (kf : x = y → jW p l e R s m args below meth c D A n Q cells slots (pc + 3) lv (st) ws) : jW p l e R s m args below meth c D A n Q cells slots (pc) lv (.int y :: .int x :: st) ws :=
  fun H locs ls hP hD hS h => lv_icmp_ne X.1 X.2.1 hdg ht (fun hc => kt hc H locs ls hP hD hS h) (fun hc => kf hc H locs ls hP hD hS h)
theorem j_if_lt {x : Int32} {off : Int} {tgt : Nat} (X : jC p s m args meth c cc own D tys tt A n) (hdg : decode cc pc = .ok (.ifCond .lt off, 3)) (ht : (pc : Int) + off = (tgt : Int)) (kt : x < 0 → jW p l e R s m args below meth c D A n Q cells slots (tgt) lv (st) ws) (kf : ¬ x < 0 → jW p l e R s m args below meth c D A n Q cells slots (pc + 3) lv (st) ws) : jW p l e R s m args below meth c D A n Q cells slots (pc) lv (.int x :: st) ws :=
  fun H locs ls hP hD hS h => lv_if_lt X.1 X.2.1 hdg ht (fun hc => kt hc H locs ls hP hD hS h) (fun hc => kf hc H locs ls hP hD hS h)
theorem j_icmp_lt {x y : Int32} {off : Int} {tgt : Nat} (X : jC p s m args meth c cc own D tys tt A n) (hdg : decode cc pc = .ok (.if_icmp .lt off, 3)) (ht : (pc : Int) + off = (tgt : Int)) (kt : x < y → jW p l e R s m args below meth c D A n Q cells slots (tgt) lv (st) ws) (kf : ¬ x < y → jW p l e R s m args below meth c D A n Q cells slots (pc + 3) lv (st) ws) : jW p l e R s m args below meth c D A n Q cells slots (pc) lv (.int y :: .int x :: st) ws :=
  fun H locs ls hP hD hS h => lv_icmp_lt X.1 X.2.1 hdg ht (fun hc => kt hc H locs ls hP hD hS h) (fun hc => kf hc H locs ls hP hD hS h)
theorem j_if_ge {x : Int32} {off : Int} {tgt : Nat} (X : jC p s m args meth c cc own D tys tt A n) (hdg : decode cc pc = .ok (.ifCond .ge off, 3)) (ht : (pc : Int) + off = (tgt : Int)) (kt : 0 ≤ x → jW p l e R s m args below meth c D A n Q cells slots (tgt) lv (st) ws) (kf : ¬ 0 ≤ x → jW p l e R s m args below meth c D A n Q cells slots (pc + 3) lv (st) ws) : jW p l e R s m args below meth c D A n Q cells slots (pc) lv (.int x :: st) ws :=
  fun H locs ls hP hD hS h => lv_if_ge X.1 X.2.1 hdg ht (fun hc => kt hc H locs ls hP hD hS h) (fun hc => kf hc H locs ls hP hD hS h)
theorem j_icmp_ge {x y : Int32} {off : Int} {tgt : Nat} (X : jC p s m args meth c cc own D tys tt A n) (hdg : decode cc pc = .ok (.if_icmp .ge off, 3)) (ht : (pc : Int) + off = (tgt : Int)) (kt : y ≤ x → jW p l e R s m args below meth c D A n Q cells slots (tgt) lv (st) ws) (kf : ¬ y ≤ x → jW p l e R s m args below meth c D A n Q cells slots (pc + 3) lv (st) ws) : jW p l e R s m args below meth c D A n Q cells slots (pc) lv (.int y :: .int x :: st) ws :=
  fun H locs ls hP hD hS h => lv_icmp_ge X.1 X.2.1 hdg ht (fun hc => kt hc H locs ls hP hD hS h) (fun hc => kf hc H locs ls hP hD hS h)
theorem j_if_gt {x : Int32} {off : Int} {tgt : Nat} (X : jC p s m args meth c cc own D tys tt A n) (hdg : decode cc pc = .ok (.ifCond .gt off, 3)) (ht : (pc : Int) + off = (tgt : Int)) (kt : 0 < x → jW p l e R s m args below meth c D A n Q cells slots (tgt) lv (st) ws) (kf : ¬ 0 < x → jW p l e R s m args below meth c D A n Q cells slots (pc + 3) lv (st) ws) : jW p l e R s m args below meth c D A n Q cells slots (pc) lv (.int x :: st) ws :=
  fun H locs ls hP hD hS h => lv_if_gt X.1 X.2.1 hdg ht (fun hc => kt hc H locs ls hP hD hS h) (fun hc => kf hc H locs ls hP hD hS h)
theorem j_icmp_gt {x y : Int32} {off : Int} {tgt : Nat} (X : jC p s m args meth c cc own D tys tt A n) (hdg : decode cc pc = .ok (.if_icmp .gt off, 3)) (ht : (pc : Int) + off = (tgt : Int)) (kt : y < x → jW p l e R s m args below meth c D A n Q cells slots (tgt) lv (st) ws) (kf : ¬ y < x → jW p l e R s m args below meth c D A n Q cells slots (pc + 3) lv (st) ws) : jW p l e R s m args below meth c D A n Q cells slots (pc) lv (.int y :: .int x :: st) ws :=
  fun H locs ls hP hD hS h => lv_icmp_gt X.1 X.2.1 hdg ht (fun hc => kt hc H locs ls hP hD hS h) (fun hc => kf hc H locs ls hP hD hS h)
theorem j_if_le {x : Int32} {off : Int} {tgt : Nat} (X : jC p s m args meth c cc own D tys tt A n) (hdg : decode cc pc = .ok (.ifCond .le off, 3)) (ht : (pc : Int) + off = (tgt : Int)) (kt : x ≤ 0 → jW p l e R s m args below meth c D A n Q cells slots (tgt) lv (st) ws) (kf : ¬ x ≤ 0 → jW p l e R s m args below meth c D A n Q cells slots (pc + 3) lv (st) ws) : jW p l e R s m args below meth c D A n Q cells slots (pc) lv (.int x :: st) ws :=
  fun H locs ls hP hD hS h => lv_if_le X.1 X.2.1 hdg ht (fun hc => kt hc H locs ls hP hD hS h) (fun hc => kf hc H locs ls hP hD hS h)
theorem j_icmp_le {x y : Int32} {off : Int} {tgt : Nat} (X : jC p s m args meth c cc own D tys tt A n) (hdg : decode cc pc = .ok (.if_icmp .le off, 3)) (ht : (pc : Int) + off = (tgt : Int)) (kt : x ≤ y → jW p l e R s m args below meth c D A n Q cells slots (tgt) lv (st) ws) (kf : ¬ x ≤ y → jW p l e R s m args below meth c D A n Q cells slots (pc + 3) lv (st) ws) : jW p l e R s m args below meth c D A n Q cells slots (pc) lv (.int y :: .int x :: st) ws :=
  fun H locs ls hP hD hS h => lv_icmp_le X.1 X.2.1 hdg ht (fun hc => kt hc H locs ls hP hD hS h) (fun hc => kf hc H locs ls hP hD hS h)
theorem j_goto {off : Int} {tgt : Nat} (X : jC p s m args meth c cc own D tys tt A n) (hdg : decode cc pc = .ok (.goto off, 3)) (ht : (pc : Int) + off = (tgt : Int)) (kk : jW p l e R s m args below meth c D A n Q cells slots (tgt) lv (st) ws) : jW p l e R s m args below meth c D A n Q cells slots (pc) lv (st) ws :=
  fun H locs ls hP hD hS h => lv_goto X.1 X.2.1 hdg ht (kk H locs ls hP hD hS h)
theorem j_ifnull {x : Nat} {off : Int} (X : jC p s m args meth c cc own D tys tt A n) (hdg : decode cc pc = .ok (.ifnull off, 3)) (kk : jW p l e R s m args below meth c D A n Q cells slots (pc + 3) lv (st) ws) : jW p l e R s m args below meth c D A n Q cells slots (pc) lv (.ref x :: st) ws :=
  fun H locs ls hP hD hS h => lv_ifnull X.1 X.2.1 hdg (kk H locs ls hP hD hS h)
theorem j_ifnullN {off : Int} {tgt : Nat} (X : jC p s m args meth c cc own D tys tt A n) (hdg : decode cc pc = .ok (.ifnull off, 3)) (ht : (pc : Int) + off = (tgt : Int)) (kk : jW p l e R s m args below meth c D A n Q cells slots (tgt) lv (st) ws) : jW p l e R s m args below meth c D A n Q cells slots (pc) lv (.null :: st) ws :=
  fun H locs ls hP hD hS h => lv_ifnullN X.1 X.2.1 hdg ht (kk H locs ls hP hD hS h)
theorem j_ifnonnull {x : Nat} {off : Int} {tgt : Nat} (X : jC p s m args meth c cc own D tys tt A n) (hdg : decode cc pc = .ok (.ifnonnull off, 3)) (ht : (pc : Int) + off = (tgt : Int)) (kk : jW p l e R s m args below meth c D A n Q cells slots (tgt) lv (st) ws) : jW p l e R s m args below meth c D A n Q cells slots (pc) lv (.ref x :: st) ws :=
  fun H locs ls hP hD hS h => lv_ifnonnull X.1 X.2.1 hdg ht (kk H locs ls hP hD hS h)
theorem j_ifnonnullN {off : Int} (X : jC p s m args meth c cc own D tys tt A n) (hdg : decode cc pc = .ok (.ifnonnull off, 3)) (kk : jW p l e R s m args below meth c D A n Q cells slots (pc + 3) lv (st) ws) : jW p l e R s m args below meth c D A n Q cells slots (pc) lv (.null :: st) ws :=
  fun H locs ls hP hD hS h => lv_ifnonnullN X.1 X.2.1 hdg (kk H locs ls hP hD hS h)
theorem j_tableIn {dflt lo hi : Int} {offs : Array Int} {len : Nat} {x : Int32} {off : Int} {tgt : Nat} (X : jC p s m args meth c cc own D tys tt A n) (hdg : decode cc pc = .ok (.tableswitch dflt lo hi offs, len)) (h1 : ¬ x.toInt < lo) (h2 : ¬ hi < x.toInt) (ho : offs[(x.toInt - lo).toNat]? = some off) (ht : (pc : Int) + off = (tgt : Int)) (kk : jW p l e R s m args below meth c D A n Q cells slots (tgt) lv (st) ws) : jW p l e R s m args below meth c D A n Q cells slots (pc) lv (.int x :: st) ws :=
  fun H locs ls hP hD hS h => lv_tableIn X.1 X.2.1 hdg h1 h2 ho ht (kk H locs ls hP hD hS h)
theorem j_tableOut {dflt lo hi : Int} {offs : Array Int} {len : Nat} {x : Int32} {tgt : Nat} (X : jC p s m args meth c cc own D tys tt A n) (hdg : decode cc pc = .ok (.tableswitch dflt lo hi offs, len)) (h1 : x.toInt < lo ∨ hi < x.toInt) (ht : (pc : Int) + dflt = (tgt : Int)) (kk : jW p l e R s m args below meth c D A n Q cells slots (tgt) lv (st) ws) : jW p l e R s m args below meth c D A n Q cells slots (pc) lv (.int x :: st) ws :=
  fun H locs ls hP hD hS h => lv_tableOut X.1 X.2.1 hdg h1 ht (kk H locs ls hP hD hS h)
theorem j_ldc {index : Nat} {v : Int32} (X : jC p s m args meth c cc own D tys tt A n) (hw : Cond.constant own index v ∈ GG) (hdg : decode cc pc = .ok (.ldc index, 2)) (kk : jW p l e R s m args below meth c D A n Q cells slots (pc + 2) lv (.int v :: st) ws) : jW p l e R s m args below meth c D A n Q cells slots (pc) lv (st) ws :=
  fun H locs ls hP hD hS h => lv_ldc X.1 X.2.1 X.ow (X.hts _ hw) hdg (kk H locs ls hP hD hS h)
theorem j_ldc2 {index : Nat} {v : Int64} (X : jC p s m args meth c cc own D tys tt A n) (hw : Cond.constantLong own index v ∈ GG) (hdg : decode cc pc = .ok (.ldc2_w index, 3)) (kk : jW p l e R s m args below meth c D A n Q cells slots (pc + 3) lv (.long v :: st) ws) : jW p l e R s m args below meth c D A n Q cells slots (pc) lv (st) ws :=
  fun H locs ls hP hD hS h => lv_ldc2 X.1 X.2.1 X.ow (X.hts _ hw) hdg (kk H locs ls hP hD hS h)
theorem j_get {C : String} {T : u_T} {N ci index a : Nat} {fs : List Value} {v : Value} (X : jC p s m args meth c cc own D tys tt A n) (q0 k : Nat) (hin : ∀ w ∈ u_ws C T N, w ∈ GG) (hlink : Cond.fieldLink own index (T k).1 (T k).2.1 (T k).2.2.1 ∈ GG) (hdg : decode cc pc = .ok (.getfield index, 3)) (he : ws[q0]? = some (a, .inr (ci, fs))) (hc : vwCl[ci]? = some (C, T, N)) (hk : k < N) (hv : fs[k]? = some v) (kk : jW p l e R s m args below meth c D A n Q cells slots (pc + 3) lv (v :: st) ws) : jW p l e R s m args below meth c D A n Q cells slots (pc) lv (.ref a :: st) ws :=
  fun H locs ls hP hD hS h => va_get X.1 X.2.1 X.hts hin X.ow X.K hP q0 he hc k hk (X.hts _ hlink) (fun _ h9 => h9) hv hdg (kk H locs ls hP hD hS h)
theorem j_put {C : String} {T : u_T} {N ci index a : Nat} {fs : List Value} {v : Value} {ws2 : va_W} {ty : Nat → FieldType} (X : jC p s m args meth c cc own D tys tt A n) (q0 k : Nat) (hin : ∀ w ∈ u_ws C T N, w ∈ GG) (hty : ∀ k, k < N → parseFieldDescriptor (T k).2.2.1 = some (ty k)) (hnm : ∀ a, a < N → ∀ b, b < N → a ≠ b → (T a).2.1 ≠ (T b).2.1) (hlink : Cond.fieldLink own index (T k).1 (T k).2.1 (T k).2.2.1 ∈ GG) (hdg : decode cc pc = .ok (.putfield index, 3)) (he : ws[q0]? = some (a, .inr (ci, fs))) (hc : vwCl[ci]? = some (C, T, N)) (hk : k < N) (hfin : (T k).2.2.2 = false) (hn : narrow (ty k) v = v) (hfit : fits (ty k) v = true) (hl : k < fs.length) (hws : ws.set q0 (a, .inr (ci, fs.set k v)) = ws2) (kk : jW p l e R s m args below meth c D A n Q cells slots (pc + 3) lv (st) ws2) : jW p l e R s m args below meth c D A n Q cells slots (pc) lv (v :: .ref a :: st) ws :=
  fun H locs ls hP hD hS h => va_put X.1 X.2.1 X.hts hin ty hty hnm X.ow X.K hP hD hS q0 he hc k hk (X.hts _ hlink) (fun _ h9 => h9) hfin (hty k hk) hn hfit hl hdg (fun H1 locs1 hP1 hD1 hS1 => kk H1 locs1 ls (hws ▸ hP1) (hws ▸ hD1) hS1 h)
theorem j_iald {a N k : Nat} {cA : ClassId} {f : Nat → Int32} {i : Int32} (X : jC p s m args meth c cc own D tys tt A n) (q0 t0 : Nat) (hk : i.toNatClampNeg = k) (hdg : decode cc pc = .ok (.iaload, 1)) (ha : ws[q0]? = some (a, .inl (cA, N, .inl f))) (ht : tys[t0]? = some (cA, .int)) (hin : inb i N = true) (kk : jW p l e R s m args below meth c D A n Q cells slots (pc + 1) lv (.int (f k) :: st) ws) : jW p l e R s m args below meth c D A n Q cells slots (pc) lv (.int i :: .ref a :: st) ws :=
  by
  subst hk
  exact fun H locs ls hP hD hS h => va_iald X.1 X.2.1 X.K hP q0 t0 ha ht (inb_in hin) hdg (kk H locs ls hP hD hS h)
theorem j_bald {a N k : Nat} {cA : ClassId} {f : Nat → Int32} {i : Int32} (X : jC p s m args meth c cc own D tys tt A n) (q0 t0 : Nat) (hk : i.toNatClampNeg = k) (hdg : decode cc pc = .ok (.baload, 1)) (ha : ws[q0]? = some (a, .inl (cA, N, .inl f))) (ht : tys[t0]? = some (cA, .byte)) (hin : inb i N = true) (kk : jW p l e R s m args below meth c D A n Q cells slots (pc + 1) lv (.int (f k) :: st) ws) : jW p l e R s m args below meth c D A n Q cells slots (pc) lv (.int i :: .ref a :: st) ws :=
  by
  subst hk
  exact fun H locs ls hP hD hS h => va_bald X.1 X.2.1 X.K hP q0 t0 ha ht (inb_in hin) hdg (kk H locs ls hP hD hS h)
theorem j_lald {a N k : Nat} {cA : ClassId} {f : Nat → Int64} {i : Int32} (X : jC p s m args meth c cc own D tys tt A n) (q0 t0 : Nat) (hk : i.toNatClampNeg = k) (hdg : decode cc pc = .ok (.laload, 1)) (ha : ws[q0]? = some (a, .inl (cA, N, .inr (.inl f)))) (ht : tys[t0]? = some (cA, .long)) (hin : inb i N = true) (kk : jW p l e R s m args below meth c D A n Q cells slots (pc + 1) lv (.long (f k) :: st) ws) : jW p l e R s m args below meth c D A n Q cells slots (pc) lv (.int i :: .ref a :: st) ws :=
  by
  subst hk
  exact fun H locs ls hP hD hS h => va_lald X.1 X.2.1 X.K hP q0 t0 ha ht (inb_in hin) hdg (kk H locs ls hP hD hS h)
theorem j_iast {a N k : Nat} {cA : ClassId} {f f2 : Nat → Int32} {i : Int32} {x : Int32} {ws2 : va_W} (X : jC p s m args meth c cc own D tys tt A n) (q0 t0 : Nat) (hk : i.toNatClampNeg = k) (hdg : decode cc pc = .ok (.iastore, 1)) (ha : ws[q0]? = some (a, .inl (cA, N, .inl f))) (ht : tys[t0]? = some (cA, .int)) (hin : inb i N = true) (hf : upd f k x = f2) (hws : ws.set q0 (a, .inl (cA, N, .inl f2)) = ws2) (kk : jW p l e R s m args below meth c D A n Q cells slots (pc + 1) lv (st) ws2) : jW p l e R s m args below meth c D A n Q cells slots (pc) lv (.int x :: .int i :: .ref a :: st) ws :=
  by
  subst hk; subst hf; subst hws
  exact fun H locs ls hP hD hS h => va_iast X.1 X.2.1 X.K hP hD hS q0 t0 ha ht (inb_in hin) hdg (fun H1 locs1 hP1 hD1 hS1 => kk H1 locs1 ls hP1 hD1 hS1 h)
theorem j_bast {a N k : Nat} {cA : ClassId} {f f2 : Nat → Int32} {i : Int32} {x : Int32} {ws2 : va_W} (X : jC p s m args meth c cc own D tys tt A n) (q0 t0 : Nat) (hk : i.toNatClampNeg = k) (hdg : decode cc pc = .ok (.bastore, 1)) (ha : ws[q0]? = some (a, .inl (cA, N, .inl f))) (ht : tys[t0]? = some (cA, .byte)) (hin : inb i N = true) (hf : upd f k (vp_nar .byte x) = f2) (hws : ws.set q0 (a, .inl (cA, N, .inl f2)) = ws2) (kk : jW p l e R s m args below meth c D A n Q cells slots (pc + 1) lv (st) ws2) : jW p l e R s m args below meth c D A n Q cells slots (pc) lv (.int x :: .int i :: .ref a :: st) ws :=
  by
  subst hk; subst hf; subst hws
  exact fun H locs ls hP hD hS h => va_bast X.1 X.2.1 X.K hP hD hS q0 t0 ha ht (inb_in hin) hdg (fun H1 locs1 hP1 hD1 hS1 => kk H1 locs1 ls hP1 hD1 hS1 h)
theorem j_last {a N k : Nat} {cA : ClassId} {f f2 : Nat → Int64} {i : Int32} {x : Int64} {ws2 : va_W} (X : jC p s m args meth c cc own D tys tt A n) (q0 t0 : Nat) (hk : i.toNatClampNeg = k) (hdg : decode cc pc = .ok (.lastore, 1)) (ha : ws[q0]? = some (a, .inl (cA, N, .inr (.inl f)))) (ht : tys[t0]? = some (cA, .long)) (hin : inb i N = true) (hf : vp_updL f k x = f2) (hws : ws.set q0 (a, .inl (cA, N, .inr (.inl f2))) = ws2) (kk : jW p l e R s m args below meth c D A n Q cells slots (pc + 1) lv (st) ws2) : jW p l e R s m args below meth c D A n Q cells slots (pc) lv (.long x :: .int i :: .ref a :: st) ws :=
  by
  subst hk; subst hf; subst hws
  exact fun H locs ls hP hD hS h => va_last X.1 X.2.1 X.K hP hD hS q0 t0 ha ht (inb_in hin) hdg (fun H1 locs1 hP1 hD1 hS1 => kk H1 locs1 ls hP1 hD1 hS1 h)
theorem j_alen {a : Nat} {cA : ClassId} {x : vp_A} {ty : FieldType} {v : Int32} (X : jC p s m args meth c cc own D tys tt A n) (q0 t0 : Nat) (hdg : decode cc pc = .ok (.arraylength, 1)) (ha : ws[q0]? = some (a, .inl (cA, x))) (ht : tys[t0]? = some (cA, ty)) (hv : Int32.ofNat x.1 = v) (kk : jW p l e R s m args below meth c D A n Q cells slots (pc + 1) lv (.int v :: st) ws) : jW p l e R s m args below meth c D A n Q cells slots (pc) lv (.ref a :: st) ws :=
  fun H locs ls hP hD hS h => va_alen X.1 X.2.1 X.K hP q0 t0 ha ht hv hdg (kk H locs ls hP hD hS h)
theorem j_aldq {a N : Nat} {cA : ClassId} {C : String} {f : Nat → Option Nat} {i : Int32} (X : jC p s m args meth c cc own D tys tt A n) (q0 t0 : Nat) (hdg : decode cc pc = .ok (.aaload, 1)) (ha : ws[q0]? = some (a, .inl (cA, N, .inr (.inr (.inr (.inr f)))))) (ht : tys[t0]? = some (cA, .object C)) (hin : inb i N = true) (kk : jW p l e R s m args below meth c D A n Q cells slots (pc + 1) lv (va_rf (f i.toNatClampNeg) :: st) ws) : jW p l e R s m args below meth c D A n Q cells slots (pc) lv (.int i :: .ref a :: st) ws :=
  fun H locs ls hP hD hS h => va_aldq X.1 X.2.1 X.K hP q0 t0 ha ht (inb_in hin) hdg (kk H locs ls hP hD hS h)
theorem j_gets {nm d : String} {index t : Nat} {ty : FieldType} {N : Nat} {f : Nat → Int32} (X : jC p s m args meth c cc own D tys tt A n) (hZ : jT t nm d ty N f A s s.heap) (hlink : Cond.fieldLink own index RX8 nm d ∈ GG) (hdg : decode cc pc = .ok (.getstatic index, 3)) (kk : jW p l e R s m args below meth c D A n Q cells slots (pc + 3) lv (.ref t :: st) ws) : jW p l e R s m args below meth c D A n Q cells slots (pc) lv (st) ws :=
  fun H locs ls hP hD hS h => va_gets X.1 X.2.1 hZ.1 hS X.ow (X.hts _ hlink) (fun _ h9 => h9) hdg (kk H locs ls hP hD hS h)
theorem j_getsN {nm d host : String} {index t : Nat} {ty : FieldType} {N : Nat} {f : Nat → Int32} (X : jC p s m args meth c cc own D tys tt A n) (hZ : jT t nm d ty N f A s s.heap) (hlink : va_Nw (.fieldLinkNest own index RX8 nm d host) s) (hdg : decode cc pc = .ok (.getstatic index, 3)) (kk : jW p l e R s m args below meth c D A n Q cells slots (pc + 3) lv (.ref t :: st) ws) : jW p l e R s m args below meth c D A n Q cells slots (pc) lv (st) ws :=
  fun H locs ls hP hD hS h => va_getsN X.1 X.2.1 hZ.1 hS X.ow (va_Nw.use rfl hlink) (fun _ h9 => h9) hdg (kk H locs ls hP hD hS h)
theorem j_ti {nm d : String} {t N k : Nat} {f : Nat → Int32} {i : Int32} (X : jC p s m args meth c cc own D tys tt A n) (hk : i.toNatClampNeg = k) (hZ : jT t nm d .int N f A s s.heap) (hdg : decode cc pc = .ok (.iaload, 1)) (hin : inb i N = true) (kk : jW p l e R s m args below meth c D A n Q cells slots (pc + 1) lv (.int (f k) :: st) ws) : jW p l e R s m args below meth c D A n Q cells slots (pc) lv (.int i :: .ref t :: st) ws :=
  by
  subst hk
  exact fun H locs ls hP hD hS h => va_ti X.1 X.2.1 hZ.2 hS (inb_in hin) rfl hdg (kk H locs ls hP hD hS h)
theorem j_tc {nm d : String} {t N k : Nat} {f : Nat → Int32} {i : Int32} (X : jC p s m args meth c cc own D tys tt A n) (hk : i.toNatClampNeg = k) (hZ : jT t nm d .char N f A s s.heap) (hdg : decode cc pc = .ok (.caload, 1)) (hin : inb i N = true) (kk : jW p l e R s m args below meth c D A n Q cells slots (pc + 1) lv (.int (f k) :: st) ws) : jW p l e R s m args below meth c D A n Q cells slots (pc) lv (.int i :: .ref t :: st) ws :=
  by
  subst hk
  exact fun H locs ls hP hD hS h => va_tc X.1 X.2.1 hZ.2 hS (inb_in hin) rfl hdg (kk H locs ls hP hD hS h)
theorem j_tlen {nm d : String} {t N : Nat} {ty : FieldType} {f : Nat → Int32} {v : Int32} (X : jC p s m args meth c cc own D tys tt A n) (hZ : jT t nm d ty N f A s s.heap) (hv : Int32.ofNat N = v) (hdg : decode cc pc = .ok (.arraylength, 1)) (kk : jW p l e R s m args below meth c D A n Q cells slots (pc + 1) lv (.int v :: st) ws) : jW p l e R s m args below meth c D A n Q cells slots (pc) lv (.ref t :: st) ws :=
  fun H locs ls hP hD hS h => va_tlen X.1 X.2.1 hZ.2 hS hv hdg (kk H locs ls hP hD hS h)
theorem j_mmax {index : Nat} {x y : Int32} (X : jC p s m args meth c cc own D tys tt A n) (hl : Cond.methodLink own index Lib.Math.max.name ∈ GG) (hs1 : Cond.static Lib.Math.max.name ∈ GG) (hi : Cond.initialized "java/lang/Math" ∈ GG) (hco : Cond.code Lib.Math.max.name Lib.Math.max.code 2 (some .int) ∈ GG) (hR : 1 ≤ R.frames ∧ (st.map fun v => v.category).sum + 13 ≤ R.locals ∧ cells ≤ R.cells ∧ slots ≤ R.slots) (hdg : decode cc pc = .ok (.invokestatic index, 3)) (kk : jW p l e R s m args below meth c D A n Q cells slots (pc + 3) lv (.int (if x < y then y else x) :: st) ws) : jW p l e R s m args below meth c D A n Q cells slots (pc) lv (.int y :: .int x :: st) ws :=
  fun H locs ls hP hD hS h => va_mmax X.1 X.2.1 (X.2.2.1.trans h.1.symm) X.ow (X.hts _ hl) (X.hts _ hs1) (X.hts _ hi) (X.hts _ hco) hR.1 hR.2.1 hR.2.2.1 hR.2.2.2 hdg (kk H locs ls hP hD hS h)
theorem j_mmin {index : Nat} {x y : Int32} (X : jC p s m args meth c cc own D tys tt A n) (hl : Cond.methodLink own index Lib.Math.min.name ∈ GG) (hs1 : Cond.static Lib.Math.min.name ∈ GG) (hi : Cond.initialized "java/lang/Math" ∈ GG) (hco : Cond.code Lib.Math.min.name Lib.Math.min.code 2 (some .int) ∈ GG) (hR : 1 ≤ R.frames ∧ (st.map fun v => v.category).sum + 13 ≤ R.locals ∧ cells ≤ R.cells ∧ slots ≤ R.slots) (hdg : decode cc pc = .ok (.invokestatic index, 3)) (kk : jW p l e R s m args below meth c D A n Q cells slots (pc + 3) lv (.int (if y < x then y else x) :: st) ws) : jW p l e R s m args below meth c D A n Q cells slots (pc) lv (.int y :: .int x :: st) ws :=
  fun H locs ls hP hD hS h => va_mmin X.1 X.2.1 (X.2.2.1.trans h.1.symm) X.ow (X.hts _ hl) (X.hts _ hs1) (X.hts _ hi) (X.hts _ hco) hR.1 hR.2.1 hR.2.2.1 hR.2.2.2 hdg (kk H locs ls hP hD hS h)
theorem j_mabs {index : Nat} {x : Int32} (X : jC p s m args meth c cc own D tys tt A n) (hl : Cond.methodLink own index Lib.Math.abs.name ∈ GG) (hs1 : Cond.static Lib.Math.abs.name ∈ GG) (hi : Cond.initialized "java/lang/Math" ∈ GG) (hco : Cond.code Lib.Math.abs.name Lib.Math.abs.code 1 (some .int) ∈ GG) (hR : 1 ≤ R.frames ∧ (st.map fun v => v.category).sum + 13 ≤ R.locals ∧ cells ≤ R.cells ∧ slots ≤ R.slots) (hdg : decode cc pc = .ok (.invokestatic index, 3)) (kk : jW p l e R s m args below meth c D A n Q cells slots (pc + 3) lv (.int (if 0 ≤ x then x else 0 - x) :: st) ws) : jW p l e R s m args below meth c D A n Q cells slots (pc) lv (.int x :: st) ws :=
  fun H locs ls hP hD hS h => va_mabs X.1 X.2.1 (X.2.2.1.trans h.1.symm) X.ow (X.hts _ hl) (X.hts _ hs1) (X.hts _ hi) (X.hts _ hco) hR.1 hR.2.1 hR.2.2.1 hR.2.2.2 hdg (kk H locs ls hP hD hS h)
theorem j_copyl {index a0 a : Nat} {c0 c1 : ClassId} {n0 n1 : Nat} {f g g2 : Nat → Int64} {sp dp k : Int32} {ws2 : va_W} (X : jC p s m args meth c cc own D tys tt A n) (q0 q1 t0 t1 : Nat) (hl : Cond.methodLink own index arraycopyName ∈ GG) (hna : Cond.native arraycopyName ∈ GG) (hs1 : Cond.static arraycopyName ∈ GG) (hi : Cond.initialized "java/lang/System" ∈ GG) (ha0 : ws[q0]? = some (a0, .inl (c0, n0, .inr (.inl f)))) (ha1 : ws[q1]? = some (a, .inl (c1, n1, .inr (.inl g)))) (ht0 : tys[t0]? = some (c0, .long)) (ht1 : tys[t1]? = some (c1, .long)) (h1 : ¬ sp < 0) (h2 : ¬ dp < 0) (h3 : ¬ k < 0) (h4 : sp.toNatClampNeg + k.toNatClampNeg ≤ n0) (h5 : dp.toNatClampNeg + k.toNatClampNeg ≤ n1) (hR : 1 ≤ R.frames ∧ (st.map fun v => v.category).sum + (nativeFrameWords "java/lang/System" "arraycopy" 5 + 11) ≤ R.locals) (hdg : decode cc pc = .ok (.invokestatic index, 3)) (hf : va_cpy f g sp.toNatClampNeg dp.toNatClampNeg k.toNatClampNeg = g2) (hws : ws.set q1 (a, .inl (c1, n1, .inr (.inl g2))) = ws2) (kk : jW p l e R s m args below meth c D A n Q cells slots (pc + 3) lv (st) ws2) : jW p l e R s m args below meth c D A n Q cells slots (pc) lv (.int k :: .int dp :: .ref a :: .int sp :: .ref a0 :: st) ws :=
  by
  subst hf; subst hws
  exact fun H locs ls hP hD hS h => va_copyl X.1 X.2.1 (X.2.2.1.trans h.1.symm) X.ow (X.hts _ hl) (X.hts _ hna) (X.hts _ hs1) (X.hts _ hi) X.K hP hD hS q0 q1 t0 t1 ha0 ha1 ht0 ht1 rfl h1 h2 h3 h4 h5 (fun i _ => rfl) hR.1 hR.2 hdg (fun H1 locs1 hP1 hD1 hS1 => kk H1 locs1 ls hP1 hD1 hS1 h)
theorem j_iret {v : Int32} {o : Option Value} {ws1 : va_W} (X : jC p s m args meth c cc own D tys tt A n) (hr : meth.sig.returnType = some .int) (hdg : decode cc pc = .ok (.ireturn, 1)) (ho : o = some (.int v)) (hw : ws1 = ws) : jW p l e R s m args below meth c D A n (MQ below (jQ D o ws1 A) args s cells slots A) cells slots (pc) lv ([.int v]) ws :=
  by
  subst ho; subst hw
  exact fun H locs ls hP hD hS h => W.iret X.1 X.2.1 hr (fun t ht hW => ⟨⟨rfl, by rw [ht]; exact hP⟩, hS.F ht⟩) hS.2.2 hdg X.lk
theorem j_zret {v : Int32} {o : Option Value} {ws1 : va_W} (X : jC p s m args meth c cc own D tys tt A n) (hr : meth.sig.returnType = some .boolean) (hn : narrow .boolean (.int v) = .int v) (hdg : decode cc pc = .ok (.ireturn, 1)) (ho : o = some (.int v)) (hw : ws1 = ws) : jW p l e R s m args below meth c D A n (MQ below (jQ D o ws1 A) args s cells slots A) cells slots (pc) lv ([.int v]) ws :=
  by
  subst ho; subst hw
  exact fun H locs ls hP hD hS h => W.zret X.1 X.2.1 hr hn (fun t ht hW => ⟨⟨rfl, by rw [ht]; exact hP⟩, hS.F ht⟩) hS.2.2 hdg X.lk
theorem j_lret {v : Int64} {o : Option Value} {ws1 : va_W} (X : jC p s m args meth c cc own D tys tt A n) (hr : meth.sig.returnType = some .long) (hdg : decode cc pc = .ok (.lreturn, 1)) (ho : o = some (.long v)) (hw : ws1 = ws) : jW p l e R s m args below meth c D A n (MQ below (jQ D o ws1 A) args s cells slots A) cells slots (pc) lv ([.long v]) ws :=
  by
  subst ho; subst hw
  exact fun H locs ls hP hD hS h => W.lret X.1 X.2.1 hr (fun t ht hW => ⟨⟨rfl, by rw [ht]; exact hP⟩, hS.F ht⟩) hS.2.2 hdg X.lk
theorem j_vret {o : Option Value} {ws1 : va_W} (X : jC p s m args meth c cc own D tys tt A n) (hr : meth.sig.returnType = none) (hdg : decode cc pc = .ok (.return_, 1)) (ho : o = none) (hw : ws1 = ws) : jW p l e R s m args below meth c D A n (MQ below (jQ D o ws1 A) args s cells slots A) cells slots (pc) lv ([]) ws :=
  by
  subst ho; subst hw
  exact fun H locs ls hP hD hS h => W.vret X.1 X.2.1 hr (fun t ht hW => ⟨⟨rfl, by rw [ht]; exact hP⟩, hS.F ht⟩) hS.2.2 hdg X.lk
theorem j_aret {v : Option Nat} {nm : String} {o : Option Value} {ws1 : va_W} (X : jC p s m args meth c cc own D tys tt A n) (hr : meth.sig.returnType = some (.object nm)) (hdg : decode cc pc = .ok (.areturn, 1)) (ho : o = some (va_rf v)) (hw : ws1 = ws) : jW p l e R s m args below meth c D A n (MQ below (jQ D o ws1 A) args s cells slots A) cells slots (pc) lv ([va_rf v]) ws :=
  by
  subst ho; subst hw
  exact fun H locs ls hP hD hS h => W.aret X.1 X.2.1 hr (Or.inl ⟨_, rfl⟩) (by cases v with | none => exact Or.inl rfl | some a => exact Or.inr ⟨a, rfl⟩) (fun t ht hW => ⟨⟨rfl, by rw [ht]; exact hP⟩, hS.F ht⟩) hS.2.2 hdg X.lk
/-- what a call leaves of the world: by where each cell comes from -/
theorem j_after {H H1 : Heap} {wc w1 ws2 : va_W} (hP : va_P D vwCl ws H) (hD : va_D A ws) (isC : List Nat) (hC : isC.map (fun i => ws[i]?) = wc.map some) (src : List (Nat ⊕ Nat)) (hsrc : src.map (fun q => match q with | .inl i => ws[i]? | .inr j => w1[j]?) = ws2.map some) (hno : src.all (fun q => match q with | .inl i => !(isC.contains i) | .inr _ => true) = true) (hadr : ws2.map Prod.fst = ws.map Prod.fst)
    (hk : ∀ q : Nat, q < H.size → ¬ va_A wc H.size q → H1[q]? = H[q]?) (hP1 : va_P D vwCl w1 H1) : va_P D vwCl ws2 H1 ∧ va_D A ws2 := by
  refine ⟨fun k q hq => ?_, ?_⟩
  · have h1 : (src.map (fun q => match q with | .inl i => ws[i]? | .inr j => w1[j]?))[k]? = some (some q) := by rw [hsrc, List.getElem?_map, hq]; rfl
    rw [List.getElem?_map] at h1
    cases hs : src[k]? with
    | none => rw [hs] at h1; cases h1
    | some z =>
      rw [hs] at h1
      have h2 := Option.some.inj h1
      cases z with
      | inr j => exact hP1 j q h2
      | inl i =>
        have hni := List.all_eq_true.mp hno _ (List.mem_of_getElem? hs)
        have h2 : ws[i]? = some q := h2
        refine (hP i q h2).kept (hk q.1 (hP i q h2).lt (fun hA => ?_))
        rcases hA with ⟨k2, ee, hw⟩ | hw
        · have h3 : (isC.map (fun i => ws[i]?))[k2]? = some (some (q.1, ee)) := by rw [hC, List.getElem?_map, hw]; rfl
          rw [List.getElem?_map] at h3
          cases hi : isC[k2]? with
          | none => rw [hi] at h3; cases h3
          | some i2 =>
            rw [hi] at h3
            have h4 : ws[i2]? = some (q.1, ee) := Option.some.inj h3
            have h5 := hD.1 i i2 q _ h2 h4 rfl
            subst h5
            have h6 : isC.contains i = true := List.contains_iff_mem.mpr (List.mem_of_getElem? hi)
            simp only [h6] at hni
            cases hni
        · have h7 := (hP i q h2).lt
          omega
  · have key : ∀ (k : Nat) (q : Nat × va_E), ws2[k]? = some q → ∃ q0, ws[k]? = some q0 ∧ q0.1 = q.1 := by
      intro k q hq
      have h1 : (ws2.map Prod.fst)[k]? = some q.1 := by rw [List.getElem?_map, hq]; rfl
      rw [hadr, List.getElem?_map] at h1
      cases h0 : ws[k]? with
      | none => rw [h0] at h1; cases h1
      | some q0 => rw [h0] at h1; exact ⟨q0, rfl, Option.some.inj h1⟩
    refine ⟨fun i j x y hi hj hxy => ?_, fun k q hk2 => ?_⟩
    · obtain ⟨x0, a1, a2⟩ := key i x hi
      obtain ⟨y0, b1, b2⟩ := key j y hj
      exact hD.1 i j x0 y0 a1 b1 (a2.trans (hxy.trans b2.symm))
    · obtain ⟨q0, a1, a2⟩ := key k q hk2
      rw [← a2]
      exact hD.2 k q0 a1
theorem j_pre {H : Heap} {locs : List Loc} {wc : va_W} {As : List Value} (X : jC p s m args meth c cc own D tys tt A n) (hP : va_P D vwCl ws H) (hD : va_D A ws) (hS : va_S A s.heap H locs) (isC : List Nat) (hn : va_nd isC = true) (hC : isC.map (fun i => ws[i]?) = wc.map some) :
    FrameBlind (va_Pc As (jPre D tys tt wc H.size)) ∧ ∀ U : State, U.heap = H → s.WarmedH U.vm → va_Pc As (jPre D tys tt wc H.size) As.toArray U := by
  refine ⟨jPre.blind, fun U hU hW => ⟨rfl, by rw [hU], ?_, X.K.moved hW.alike, (hD.sub isC hn hC).weaken (fun _ _ _ _ => trivial), ?_⟩⟩
  · rw [hU]
    intro k q hq
    have h1 : (isC.map (fun i => ws[i]?))[k]? = some (some q) := by rw [hC, List.getElem?_map, hq]; rfl
    rw [List.getElem?_map] at h1
    cases hi : isC[k]? with
    | none => rw [hi] at h1; cases h1
    | some i => rw [hi] at h1; exact hP i q (Option.some.inj h1)
  · rw [hU]
    exact X.Z.to hW (fun a h1 h2 => hS.2.1 a h1 h2) (va_free hD hS X.hA isC hC)
theorem j_run {H : Heap} {locs : List Loc} {ls : Array Slot} {rest : List Value} {wc w1 ws2 : va_W} {o : Option Value} {av : List Value} (X : jC p s m args meth c cc own D tys tt A n) (hP : va_P D vwCl ws H) (hD : va_D A ws) (hS : va_S A s.heap H locs) (h : lv_has ls n lv) (isC : List Nat) (hC : isC.map (fun i => ws[i]?) = wc.map some) (src : List (Nat ⊕ Nat)) (hsrc : src.map (fun q => match q with | .inl i => ws[i]? | .inr j => w1[j]?) = ws2.map some) (hno : src.all (fun q => match q with | .inl i => !(isC.contains i) | .inr _ => true) = true) (hadr : ws2.map Prod.fst = ws.map Prod.fst)
    (hr : va_Run p l e R s m args below meth c H locs cells slots 0 0 (F0 m pc ls st) rest (jQ D o w1 (va_A wc H.size) av.toArray) (va_A wc H.size))
    (kk : jW p l e R s m args below meth c D A n Q cells slots (pc + 3) lv (o.toList ++ rest) ws2) : W p l e R s m args below meth c H locs cells slots Q (F0 m pc ls st) := by
  have hf := va_free hD hS X.hA isC hC
  intro T hT XS
  obtain ⟨v, st₀, t, T', L, h0, X', hL, e1, e2, ⟨⟨hv, hp⟩, hz, hk⟩, stp⟩ := hr T hT XS
  cases hv
  rw [h0] at hz hk
  have hk1 : ∀ q : Nat, q < H.size → ¬ va_A wc H.size q → T'.heap[q]? = H[q]? := fun q h1 h2 => by rw [e1]; exact hk q h1 h2
  obtain ⟨hP2, hD2⟩ := j_after hP hD isC hC src hsrc hno hadr hk1 (by rw [e1]; exact hp)
  obtain ⟨t2, a1, b1⟩ := kk T'.heap (locs ++ L) ls hP2 hD2 ⟨Nat.le_trans hS.1 (by rw [e1]; exact hz), fun q h1 h2 => by rw [hk1 q (Nat.lt_of_lt_of_le h1 hS.1) (fun z => h2 (hf q z))]; exact hS.2.1 q h1 h2, fun q hq => by
      rcases List.mem_append.mp hq with h | h
      · exact hS.2.2 q h
      · exact hf _ (hL q h)⟩ h T' rfl X'
  exact ⟨t2, stp t2 a1, b1⟩
set_option maxHeartbeats 4000000 in
theorem j_callV {y : MethodName} {bytes : ByteArray} {maxL : Nat} {ret : Option FieldType} {rm : Room} {index : Nat} {As rest : List Value} {wc w1 ws2 : va_W} {o : Option Value} {b q0 ci : Nat} {fs : List Value} {T : u_T} {N : Nat} (X : jC p s m args meth c cc own D tys tt A n) (hM : jM l y (.code y bytes maxL ret) rm D tys tt (.ref b :: As) wc o w1) (isC : List Nat) (src : List (Nat ⊕ Nat)) (hcode : Cond.code y bytes maxL ret ∈ GG) (hl : Cond.methodLink own index y ∈ GG) (hin : Cond.instanceMethod y ∈ GG) (hsel : Cond.selects y.cls y y ∈ GG) (he : ws[q0]? = some (b, .inr (ci, fs))) (hcl : vwCl[ci]? = some (y.cls, T, N)) (hini : Cond.initialized y.cls ∈ GG) (hd : y.cls ≠ "java/lang/invoke/MethodHandle" ∧ y.cls ≠ "java/lang/invoke/VarHandle" ∧ (parseMethodDescriptor y.desc).map (fun d => d.parameters.length) = some As.length) (hR : rm.cells = 0 ∧ rm.slots = 0 ∧ rm.frames + 1 ≤ R.frames ∧ 8 + (maxL + 11) + rm.locals ≤ R.locals ∧ cells ≤ R.cells ∧ slots ≤ R.slots) (hcat : (rest.map fun v => v.category).sum ≤ 8) (hdg : decode cc pc = .ok (.invokevirtual index, 3)) (hn1 : va_nd isC = true) (hC : isC.map (fun i => ws[i]?) = wc.map some) (hsrc : src.map (fun q => match q with | .inl i => ws[i]? | .inr j => w1[j]?) = ws2.map some) (hno : src.all (fun q => match q with | .inl i => !(isC.contains i) | .inr _ => true) = true) (hadr : ws2.map Prod.fst = ws.map Prod.fst) (hst : st = As.reverse ++ .ref b :: rest) (kk : jW p l e R s m args below meth c D A n Q cells slots (pc + 3) lv (o.toList ++ rest) ws2) : jW p l e R s m args below meth c D A n Q cells slots (pc) lv (st) ws := by
  subst hst
  intro H locs ls hP hD hS h
  exact j_run X hP hD hS h isC hC src hsrc hno hadr (va_runV (As := As) (rest := rest) (C := y.cls) ⟨X.1, X.2.1, X.2.2.1, X.ow, X.hts⟩ (hM H.size) ⟨callB_of As.length X.hts (GG_self hcode) rfl hR.1 hR.2.1 (X.hts _ hini) (X.hts _ hl) hd ⟨hR.2.2.1, hR.2.2.2.1⟩, X.hts _ hin, X.hts _ hsel⟩ ⟨(j_pre X hP hD hS isC hn1 hC).1, va_recv X.K hP hcl he, (j_pre X hP hD hS isC hn1 hC).2⟩ rfl rfl h.1 rfl (lv_room hcat) hdg ⟨hR.2.2.2.2.1, hR.2.2.2.2.2⟩) kk
set_option maxHeartbeats 4000000 in
theorem j_callS {y : MethodName} {bytes : ByteArray} {maxL : Nat} {ret : Option FieldType} {rm : Room} {index : Nat} {As rest : List Value} {wc w1 ws2 : va_W} {o : Option Value} (X : jC p s m args meth c cc own D tys tt A n) (hM : jM l y (.code y bytes maxL ret) rm D tys tt As wc o w1) (isC : List Nat) (src : List (Nat ⊕ Nat)) (hcode : Cond.code y bytes maxL ret ∈ GG) (hl : Cond.methodLink own index y ∈ GG) (hsta : Cond.static y ∈ GG) (hini : Cond.initialized y.cls ∈ GG) (hd : y.cls ≠ "java/lang/invoke/MethodHandle" ∧ y.cls ≠ "java/lang/invoke/VarHandle" ∧ (parseMethodDescriptor y.desc).map (fun d => d.parameters.length) = some As.length) (hR : rm.cells = 0 ∧ rm.slots = 0 ∧ rm.frames + 1 ≤ R.frames ∧ 8 + (maxL + 11) + rm.locals ≤ R.locals ∧ cells ≤ R.cells ∧ slots ≤ R.slots) (hcat : (rest.map fun v => v.category).sum ≤ 8) (hdg : decode cc pc = .ok (.invokestatic index, 3)) (hn1 : va_nd isC = true) (hC : isC.map (fun i => ws[i]?) = wc.map some) (hsrc : src.map (fun q => match q with | .inl i => ws[i]? | .inr j => w1[j]?) = ws2.map some) (hno : src.all (fun q => match q with | .inl i => !(isC.contains i) | .inr _ => true) = true) (hadr : ws2.map Prod.fst = ws.map Prod.fst) (hst : st = As.reverse ++ rest) (kk : jW p l e R s m args below meth c D A n Q cells slots (pc + 3) lv (o.toList ++ rest) ws2) : jW p l e R s m args below meth c D A n Q cells slots (pc) lv (st) ws := by
  subst hst
  intro H locs ls hP hD hS h
  exact j_run X hP hD hS h isC hC src hsrc hno hadr (va_runS (As := As) (rest := rest) ⟨X.1, X.2.1, X.2.2.1, X.ow, X.hts⟩ (hM H.size) ⟨callB_of As.length X.hts (GG_self hcode) rfl hR.1 hR.2.1 (X.hts _ hini) (X.hts _ hl) hd ⟨hR.2.2.1, hR.2.2.2.1⟩, X.hts _ hsta⟩ (j_pre X hP hD hS isC hn1 hC) rfl rfl h.1 rfl (lv_room hcat) hdg ⟨hR.2.2.2.2.1, hR.2.2.2.2.2⟩) kk
set_option maxHeartbeats 4000000 in
theorem j_callSN {y : MethodName} {bytes : ByteArray} {maxL : Nat} {ret : Option FieldType} {rm : Room} {index : Nat} {As rest : List Value} {wc w1 ws2 : va_W} {o : Option Value} {host : String} (X : jC p s m args meth c cc own D tys tt A n) (hM : jM l y (.code y bytes maxL ret) rm D tys tt As wc o w1) (isC : List Nat) (src : List (Nat ⊕ Nat)) (hcode : Cond.code y bytes maxL ret ∈ GG) (hl : va_Nw (.methodLinkNest own index y host) s) (hsta : Cond.static y ∈ GG) (hini : Cond.initialized y.cls ∈ GG) (hd : y.cls ≠ "java/lang/invoke/MethodHandle" ∧ y.cls ≠ "java/lang/invoke/VarHandle" ∧ (parseMethodDescriptor y.desc).map (fun d => d.parameters.length) = some As.length) (hR : rm.cells = 0 ∧ rm.slots = 0 ∧ rm.frames + 1 ≤ R.frames ∧ 8 + (maxL + 11) + rm.locals ≤ R.locals ∧ cells ≤ R.cells ∧ slots ≤ R.slots) (hcat : (rest.map fun v => v.category).sum ≤ 8) (hdg : decode cc pc = .ok (.invokestatic index, 3)) (hn1 : va_nd isC = true) (hC : isC.map (fun i => ws[i]?) = wc.map some) (hsrc : src.map (fun q => match q with | .inl i => ws[i]? | .inr j => w1[j]?) = ws2.map some) (hno : src.all (fun q => match q with | .inl i => !(isC.contains i) | .inr _ => true) = true) (hadr : ws2.map Prod.fst = ws.map Prod.fst) (hst : st = As.reverse ++ rest) (kk : jW p l e R s m args below meth c D A n Q cells slots (pc + 3) lv (o.toList ++ rest) ws2) : jW p l e R s m args below meth c D A n Q cells slots (pc) lv (st) ws := by
  subst hst
  intro H locs ls hP hD hS h
  exact j_run X hP hD hS h isC hC src hsrc hno hadr (va_runSN (As := As) (rest := rest) ⟨X.1, X.2.1, X.2.2.1, X.ow, X.hts⟩ (hM H.size) ⟨va_cnB As.length X.hts (GG_self hcode) rfl hR.1 hR.2.1 hl (X.hts _ hini) hd ⟨hR.2.2.1, hR.2.2.2.1⟩, X.hts _ hsta, trivial⟩ (j_pre X hP hD hS isC hn1 hC) rfl rfl h.1 rfl (lv_room hcat) hdg ⟨hR.2.2.2.2.1, hR.2.2.2.2.2⟩) kk
end JROWS
theorem hiX0_k : ∀ k, k < 15 → u_lay RX0 TX0 k ∈ GG := lt_s (p := fun k => u_lay RX0 TX0 k ∈ GG) (lt_s (p := fun k => u_lay RX0 TX0 k ∈ GG) (lt_s (p := fun k => u_lay RX0 TX0 k ∈ GG) (lt_s (p := fun k => u_lay RX0 TX0 k ∈ GG) (lt_s (p := fun k => u_lay RX0 TX0 k ∈ GG) (lt_s (p := fun k => u_lay RX0 TX0 k ∈ GG) (lt_s (p := fun k => u_lay RX0 TX0 k ∈ GG) (lt_s (p := fun k => u_lay RX0 TX0 k ∈ GG) (lt_s (p := fun k => u_lay RX0 TX0 k ∈ GG) (lt_s (p := fun k => u_lay RX0 TX0 k ∈ GG) (lt_s (p := fun k => u_lay RX0 TX0 k ∈ GG) (lt_s (p := fun k => u_lay RX0 TX0 k ∈ GG) (lt_s (p := fun k => u_lay RX0 TX0 k ∈ GG) (lt_s (p := fun k => u_lay RX0 TX0 k ∈ GG) (lt_s (p := fun k => u_lay RX0 TX0 k ∈ GG) (lt_0) k_119) k_121) k_123) k_125) k_127) k_129) k_131) k_133) k_135) k_137) k_139) k_141) k_143) k_145) k_147
theorem hiX0 : ∀ w ∈ u_ws RX0 TX0 15, w ∈ GG := by
  intro w hw
  obtain ⟨k, hk, rfl⟩ := List.mem_map.mp hw
  exact hiX0_k k (List.mem_range.mp hk)
theorem hiX1_k : ∀ k, k < 2 → u_lay RX1 TX1 k ∈ GG := lt_s (p := fun k => u_lay RX1 TX1 k ∈ GG) (lt_s (p := fun k => u_lay RX1 TX1 k ∈ GG) (lt_0) k_212) k_214
theorem hiX1 : ∀ w ∈ u_ws RX1 TX1 2, w ∈ GG := by
  intro w hw
  obtain ⟨k, hk, rfl⟩ := List.mem_map.mp hw
  exact hiX1_k k (List.mem_range.mp hk)
theorem hiX2_k : ∀ k, k < 4 → u_lay RX2 TX2 k ∈ GG := lt_s (p := fun k => u_lay RX2 TX2 k ∈ GG) (lt_s (p := fun k => u_lay RX2 TX2 k ∈ GG) (lt_s (p := fun k => u_lay RX2 TX2 k ∈ GG) (lt_s (p := fun k => u_lay RX2 TX2 k ∈ GG) (lt_0) k_88) k_90) k_92) k_94
theorem hiX2 : ∀ w ∈ u_ws RX2 TX2 4, w ∈ GG := by
  intro w hw
  obtain ⟨k, hk, rfl⟩ := List.mem_map.mp hw
  exact hiX2_k k (List.mem_range.mp hk)
theorem hiX3_k : ∀ k, k < 3 → u_lay RX3 TX3 k ∈ GG := lt_s (p := fun k => u_lay RX3 TX3 k ∈ GG) (lt_s (p := fun k => u_lay RX3 TX3 k ∈ GG) (lt_s (p := fun k => u_lay RX3 TX3 k ∈ GG) (lt_0) k_177) k_179) k_181
theorem hiX3 : ∀ w ∈ u_ws RX3 TX3 3, w ∈ GG := by
  intro w hw
  obtain ⟨k, hk, rfl⟩ := List.mem_map.mp hw
  exact hiX3_k k (List.mem_range.mp hk)
theorem hiX4_k : ∀ k, k < 3 → u_lay RX4 TX4 k ∈ GG := lt_s (p := fun k => u_lay RX4 TX4 k ∈ GG) (lt_s (p := fun k => u_lay RX4 TX4 k ∈ GG) (lt_s (p := fun k => u_lay RX4 TX4 k ∈ GG) (lt_0) k_257) k_259) k_261
theorem hiX4 : ∀ w ∈ u_ws RX4 TX4 3, w ∈ GG := by
  intro w hw
  obtain ⟨k, hk, rfl⟩ := List.mem_map.mp hw
  exact hiX4_k k (List.mem_range.mp hk)
theorem hiX5_k : ∀ k, k < 5 → u_lay RX5 TX5 k ∈ GG := lt_s (p := fun k => u_lay RX5 TX5 k ∈ GG) (lt_s (p := fun k => u_lay RX5 TX5 k ∈ GG) (lt_s (p := fun k => u_lay RX5 TX5 k ∈ GG) (lt_s (p := fun k => u_lay RX5 TX5 k ∈ GG) (lt_s (p := fun k => u_lay RX5 TX5 k ∈ GG) (lt_0) k_232) k_234) k_236) k_238) k_240
theorem hiX5 : ∀ w ∈ u_ws RX5 TX5 5, w ∈ GG := by
  intro w hw
  obtain ⟨k, hk, rfl⟩ := List.mem_map.mp hw
  exact hiX5_k k (List.mem_range.mp hk)
theorem hiX6_k : ∀ k, k < 2 → u_lay RX6 TX6 k ∈ GG := lt_s (p := fun k => u_lay RX6 TX6 k ∈ GG) (lt_s (p := fun k => u_lay RX6 TX6 k ∈ GG) (lt_0) k_160) k_162
theorem hiX6 : ∀ w ∈ u_ws RX6 TX6 2, w ∈ GG := by
  intro w hw
  obtain ⟨k, hk, rfl⟩ := List.mem_map.mp hw
  exact hiX6_k k (List.mem_range.mp hk)
theorem hiX7_k : ∀ k, k < 4 → u_lay RX7 TX7 k ∈ GG := lt_s (p := fun k => u_lay RX7 TX7 k ∈ GG) (lt_s (p := fun k => u_lay RX7 TX7 k ∈ GG) (lt_s (p := fun k => u_lay RX7 TX7 k ∈ GG) (lt_s (p := fun k => u_lay RX7 TX7 k ∈ GG) (lt_0) k_192) k_194) k_196) k_198
theorem hiX7 : ∀ w ∈ u_ws RX7 TX7 4, w ∈ GG := by
  intro w hw
  obtain ⟨k, hk, rfl⟩ := List.mem_map.mp hw
  exact hiX7_k k (List.mem_range.mp hk)
theorem hiX8_k : ∀ k, k < 7 → u_lay RX8 TX8 k ∈ GG := lt_s (p := fun k => u_lay RX8 TX8 k ∈ GG) (lt_s (p := fun k => u_lay RX8 TX8 k ∈ GG) (lt_s (p := fun k => u_lay RX8 TX8 k ∈ GG) (lt_s (p := fun k => u_lay RX8 TX8 k ∈ GG) (lt_s (p := fun k => u_lay RX8 TX8 k ∈ GG) (lt_s (p := fun k => u_lay RX8 TX8 k ∈ GG) (lt_s (p := fun k => u_lay RX8 TX8 k ∈ GG) (lt_0) k_271) k_273) k_275) k_277) k_279) k_281) k_283
theorem hiX8 : ∀ w ∈ u_ws RX8 TX8 7, w ∈ GG := by
  intro w hw
  obtain ⟨k, hk, rfl⟩ := List.mem_map.mp hw
  exact hiX8_k k (List.mem_range.mp hk)
theorem hiX9_k : ∀ k, k < 21 → u_lay RX9 TX9 k ∈ GG := lt_s (p := fun k => u_lay RX9 TX9 k ∈ GG) (lt_s (p := fun k => u_lay RX9 TX9 k ∈ GG) (lt_s (p := fun k => u_lay RX9 TX9 k ∈ GG) (lt_s (p := fun k => u_lay RX9 TX9 k ∈ GG) (lt_s (p := fun k => u_lay RX9 TX9 k ∈ GG) (lt_s (p := fun k => u_lay RX9 TX9 k ∈ GG) (lt_s (p := fun k => u_lay RX9 TX9 k ∈ GG) (lt_s (p := fun k => u_lay RX9 TX9 k ∈ GG) (lt_s (p := fun k => u_lay RX9 TX9 k ∈ GG) (lt_s (p := fun k => u_lay RX9 TX9 k ∈ GG) (lt_s (p := fun k => u_lay RX9 TX9 k ∈ GG) (lt_s (p := fun k => u_lay RX9 TX9 k ∈ GG) (lt_s (p := fun k => u_lay RX9 TX9 k ∈ GG) (lt_s (p := fun k => u_lay RX9 TX9 k ∈ GG) (lt_s (p := fun k => u_lay RX9 TX9 k ∈ GG) (lt_s (p := fun k => u_lay RX9 TX9 k ∈ GG) (lt_s (p := fun k => u_lay RX9 TX9 k ∈ GG) (lt_s (p := fun k => u_lay RX9 TX9 k ∈ GG) (lt_s (p := fun k => u_lay RX9 TX9 k ∈ GG) (lt_s (p := fun k => u_lay RX9 TX9 k ∈ GG) (lt_s (p := fun k => u_lay RX9 TX9 k ∈ GG) (lt_0) k_686) k_688) k_690) k_692) k_694) k_696) k_698) k_700) k_702) k_704) k_706) k_708) k_710) k_712) k_714) k_716) k_718) k_720) k_722) k_724) k_726
theorem hiX9 : ∀ w ∈ u_ws RX9 TX9 21, w ∈ GG := by
  intro w hw
  obtain ⟨k, hk, rfl⟩ := List.mem_map.mp hw
  exact hiX9_k k (List.mem_range.mp hk)
abbrev wTy (cI cJ cB cT : ClassId) : List (ClassId × FieldType) := [(cI, .int), (cJ, .long), (cB, .byte), (cT, .object "WatchBeats$Tape")]
