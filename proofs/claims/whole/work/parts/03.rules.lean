/-! the judgement: from here the method comes to its end with what o says -/
abbrev mD : Type := MethodName × ByteArray × Nat × Option FieldType
def mRm (d : Nat) : Room := { frames := d + 1, cells := 0, slots := 0, locals := 40 * (d + 1) }
def mCx (y : mD) (p : Program) (s : State) (m : MethodId) (args : Array Value) (meth : Method) (c : Code) : Prop :=
  p.tables.exec = Jvm.exec ∧ c.code = y.2.1 ∧ meth.sig.returnType = y.2.2.2 ∧ meth.locks = false ∧ c.maxLocals = y.2.2.1 ∧ s.vm.findClass y.1.cls = some m.cls ∧ ∀ w ∈ mTb, w.before args s = true
def mNest (U : State) : Prop := ∀ a i x hh, Cond.methodLinkNest a i x hh ∈ tables_1 → va_Nw (.methodLinkNest a i x hh) U
def mFirst (j : Nat) : Int32 := [0, 1, 6, 16, 26, 31, 32].getD j 0
def mRows (j : Nat) : Int32 := [0, 1, 2, 4, 8, 16, 3, 5, 6, 9, 10, 12, 17, 18, 20, 24, 7, 11, 13, 14, 19, 21, 22, 25, 26, 28, 15, 23, 27, 29, 30, 31].getD j 0
def mUnits (j : Nat) : Int64 := [1, 100000, 10000000000, 1000000000000000].getD j 0
def mStat (g : mG) (U : State) (H : Heap) : Prop :=
  (va_Z "TwoViews$Answers" "FIRST_WITH_YES" "[I" (.ref g.2.2.2.2.1) (mA g) U H ∧ va_T .int g.2.2.2.2.1 7 (fun j => .int (mFirst j)) (mA g) U H) ∧
  (va_Z "TwoViews$Answers" "ROWS_BY_YES" "[I" (.ref g.2.2.2.2.2.1) (mA g) U H ∧ va_T .int g.2.2.2.2.2.1 32 (fun j => .int (mRows j)) (mA g) U H) ∧
  (va_Z "TwoViews" "DOING_UNITS" "[J" (.ref g.2.2.2.2.2.2) (mA g) U H ∧ va_T .long g.2.2.2.2.2.2 4 (fun j => .long (mUnits j)) (mA g) U H)
def mTys (g : mG) : List (ClassId × FieldType) := [(g.2.1.1, .int), (g.2.1.2.1, .boolean), (g.2.1.2.2, .object "TwoViews$Sheet")]
def mSt (g : mG) (U : State) (H : Heap) : Prop := va_K g.1 vwCl (mTys g) U ∧ mInj g ∧ mNest U ∧ mStat g U H
def mP (g : mG) (h : mH) (U : State) : Prop := va_P g.1 vwCl (mWd g h) U.heap ∧ mSt g U U.heap
def mQ (g : mG) (r : Option Value × mH) : Array Value → State → Outcome → State → Prop := fun _ st oc t => oc = .returned r.1 ∧ va_P g.1 vwCl (mWd g r.2) t.heap ∧ va_F (mA g) st t
def mw (g : mG) (l : Launch) (d : Nat) (y : mD) {β : Type} (em : β → Option Value × mH) (pc : Nat) (lv : List (Nat × Value)) (st : List Value) (h : mH) (o : Option β) : Prop :=
  ∀ b, o = some b → ∀ (p : Program) (e : Env) (s : State) (m : MethodId) (args : Array Value) (below : List Frame) (meth : Method) (c : Code) (H : Heap) (locs : List Loc) (ls : Array Slot),
    mCx y p s m args meth c → mSt g s s.heap → va_P g.1 vwCl (mWd g h) H → va_S (mA g) s.heap H locs → lv_has ls y.2.2.1 lv →
    W p l e (mRm d) s m args below meth c H locs 0 0 (MQ below (mQ g (em b)) args s 0 0 (mA g)) (F0 m pc ls st)
def mf (g : mG) (l : Launch) (d : Nat) (y : mD) {β : Type} (em : β → Option Value × mH) (as : List Value) (h : mH) (o : Option β) : Prop :=
  ∀ b, o = some b → Met l y.1 (Cond.code y.1 y.2.1 y.2.2.1 y.2.2.2 :: mTb) (mRm d) (va_Pc as (mP g h)) (mQ g (em b)) 0 0 (mA g)
/-! what goes along -/
theorem mStat.moved {g : mG} {u U : State} {H H1 : Heap} (hvm : u.vm.Alike U.vm) (hz : H.size ≤ H1.size) (hq : ∀ a : Nat, a < H.size → ¬ mA g a → H1[a]? = H[a]?) (h : mStat g u H) : mStat g U H1 := by
  obtain ⟨⟨a1, a2⟩, ⟨b1, b2⟩, c1, c2⟩ := h
  exact ⟨⟨(a1.kept hq).moved hvm, (a2.kept hq).moved hvm⟩, ⟨(b1.kept hq).moved hvm, (b2.kept hq).moved hvm⟩, (c1.kept hq).moved hvm, (c2.kept hq).moved hvm⟩
theorem mSt.warm {g : mG} {s U : State} {H : Heap} {locs : List Loc} (hW : s.WarmedH U.vm) (hS : va_S (mA g) s.heap H locs) (h : mSt g s s.heap) : mSt g U H :=
  ⟨va_K.moved hW.alike h.1, h.2.1, fun a i x hh hm => va_Nw.warmM hW (h.2.2.1 a i x hh hm), h.2.2.2.moved hW.alike hS.1 hS.2.1⟩
theorem mSt.vm {g : mG} {s U : State} {H : Heap} (hv : s.vm = U.vm) (h : mSt g s H) : mSt g U H :=
  have hA : s.vm.Alike U.vm := by rw [hv]; exact Vm.Alike.refl U.vm
  ⟨va_K.moved hA h.1, h.2.1, fun a i x hh hm => va_Nw.same rfl hv (h.2.2.1 a i x hh hm), h.2.2.2.moved hA (Nat.le_refl _) (fun _ _ _ => rfl)⟩
theorem mP.blind {g : mG} {h : mH} (as : List Value) : FrameBlind (va_Pc as (mP g h)) := by
  intro a U f mk q
  obtain ⟨q1, q2, q3⟩ := q
  exact ⟨q1, q2, mSt.vm (s := U) (U := U.calling f mk a) rfl q3⟩
theorem mf_of {g : mG} {l : Launch} {d : Nat} {y : mD} {β : Type} {em : β → Option Value × mH} {as : List Value} {h : mH} {o : Option β} (hy : plainName y.1.cls = true) (hl : (lg_sl as).length ≤ y.2.2.1)
    (k : mw g l d y em 0 (lv_args 0 as) [] h o) : mf g l d y em as h o := by
  intro b hb
  refine Met.ofW (cc := y.2.1) (maxL := y.2.2.1) (ret := y.2.2.2) hy rfl ?_
  intro p e s m args below meth c s₁ B hml hv
  obtain ⟨rfl, hP, hS⟩ := hv
  have hts := atoms_spec (ws := Cond.code y.1 y.2.1 y.2.2.1 y.2.2.2 :: mTb) B.pre
  have hown : s.vm.findClass y.1.cls = some m.cls := findClass_of_methodNamed B.named
  have hl' := lv_entry as (n := y.2.2.1) hl
  rw [lg_entry_eq]
  exact k b hb p e s m _ below meth c s.heap [] _ ⟨B.exec, B.bytes, B.returns, B.notSynchronized, hml, hown, fun w hw => hts w (List.mem_cons_of_mem _ hw)⟩ hS hP va_S.rf hl'
def xrem (x z : Int32) : Int32 := x - x / z * z
def xlrem (x z : Int64) : Int64 := x - x / z * z
section MR
variable {g : mG} {l : Launch} {d : Nat} {y : mD} {β : Type} {em : β → Option Value × mH} {pc n : Nat} {lv : List (Nat × Value)} {st : List Value} {h : mH} {o : Option β}
theorem mw_sub {lv' : List (Nat × Value)} (ks : List Nat) (hk : lv_pick lv ks = lv') (k : mw g l d y em pc lv' st h o) : mw g l d y em pc lv st h o :=
  fun b hb p e s m args below meth c H locs ls C S P F hl => k b hb p e s m args below meth c H locs ls C S P F (lv_sub hl ks hk)
theorem mw_none : mw g l d y em pc lv st h (none : Option β) := fun b hb => by cases hb
theorem mw_eq {o' : Option β} (e : o = o') (k : mw g l d y em pc lv st h o') : mw g l d y em pc lv st h o := e ▸ k
theorem mw_iconst {i : Int} {v : Int32} (hd : decode y.2.1 pc = .ok (.iconst i, 1)) (hn : pc + 1 = n) (hv : Int32.ofInt i = v) (k : mw g l d y em n lv (.int v :: st) h o) : mw g l d y em pc lv st h o := by
  subst hn
  exact fun b hb p e s m args below meth c H locs ls C S P F hl => lv_iconst C.1 C.2.1 hd hv (k b hb p e s m args below meth c H locs ls C S P F hl)
theorem mw_bipush {i : Int} {v : Int32} (hd : decode y.2.1 pc = .ok (.bipush i, 2)) (hn : pc + 2 = n) (hv : (Int8.ofInt i).toInt32 = v) (k : mw g l d y em n lv (.int v :: st) h o) : mw g l d y em pc lv st h o := by
  subst hn
  exact fun b hb p e s m args below meth c H locs ls C S P F hl => lv_bipush C.1 C.2.1 hd hv (k b hb p e s m args below meth c H locs ls C S P F hl)
theorem mw_sipush {i : Int} {v : Int32} (hd : decode y.2.1 pc = .ok (.sipush i, 3)) (hn : pc + 3 = n) (hv : (Int16.ofInt i).toInt32 = v) (k : mw g l d y em n lv (.int v :: st) h o) : mw g l d y em pc lv st h o := by
  subst hn
  exact fun b hb p e s m args below meth c H locs ls C S P F hl => lv_sipush C.1 C.2.1 hd hv (k b hb p e s m args below meth c H locs ls C S P F hl)
theorem mw_lconst {i : Fin 2} {v : Int64} (hd : decode y.2.1 pc = .ok (.lconst i, 1)) (hn : pc + 1 = n) (hv : Int64.ofNat i = v) (k : mw g l d y em n lv (.long v :: st) h o) : mw g l d y em pc lv st h o := by
  subst hn
  exact fun b hb p e s m args below meth c H locs ls C S P F hl => lv_lconst C.1 C.2.1 hd hv (k b hb p e s m args below meth c H locs ls C S P F hl)
theorem mw_ldcw {i : Nat} {v : Int32} (hd : decode y.2.1 pc = .ok (.ldc_w i, 3)) (hn : pc + 3 = n) (hc : Cond.constant y.1.cls i v ∈ mTb) (k : mw g l d y em n lv (.int v :: st) h o) : mw g l d y em pc lv st h o := by
  subst hn
  exact fun b hb p e s m args below meth c H locs ls C S P F hl => lv_ldcw C.1 C.2.1 C.2.2.2.2.2.1 (C.2.2.2.2.2.2 _ hc) hd (k b hb p e s m args below meth c H locs ls C S P F hl)
theorem mw_ldc2 {i : Nat} {v : Int64} (hd : decode y.2.1 pc = .ok (.ldc2_w i, 3)) (hn : pc + 3 = n) (hc : Cond.constantLong y.1.cls i v ∈ mTb) (k : mw g l d y em n lv (.long v :: st) h o) : mw g l d y em pc lv st h o := by
  subst hn
  exact fun b hb p e s m args below meth c H locs ls C S P F hl => lv_ldc2 C.1 C.2.1 C.2.2.2.2.2.1 (C.2.2.2.2.2.2 _ hc) hd (k b hb p e s m args below meth c H locs ls C S P F hl)
theorem mw_iload_n {q : Nat} {i : Fin 4} {j : Nat} {x : Int32} (hd : decode y.2.1 pc = .ok (.iload_n i, 1)) (hn : pc + 1 = n) (hi : (i : Nat) = j) (hq : lv[q]? = some (j, .int x)) (k : mw g l d y em n lv (.int x :: st) h o) : mw g l d y em pc lv st h o := by
  subst hn
  exact fun b hb p e s m args below meth c H locs ls C S P F hl => lv_iload_n C.1 C.2.1 hd hi (lv_at hl q hq) (k b hb p e s m args below meth c H locs ls C S P F hl)
theorem mw_iload {q : Nat} {j : Nat} {x : Int32} (hd : decode y.2.1 pc = .ok (.iload j, 2)) (hn : pc + 2 = n) (hq : lv[q]? = some (j, .int x)) (k : mw g l d y em n lv (.int x :: st) h o) : mw g l d y em pc lv st h o := by
  subst hn
  exact fun b hb p e s m args below meth c H locs ls C S P F hl => lv_iload C.1 C.2.1 hd (lv_at hl q hq) (k b hb p e s m args below meth c H locs ls C S P F hl)
theorem mw_lload_n {q : Nat} {i : Fin 4} {j : Nat} {x : Int64} (hd : decode y.2.1 pc = .ok (.lload_n i, 1)) (hn : pc + 1 = n) (hi : (i : Nat) = j) (hq : lv[q]? = some (j, .long x)) (k : mw g l d y em n lv (.long x :: st) h o) : mw g l d y em pc lv st h o := by
  subst hn
  exact fun b hb p e s m args below meth c H locs ls C S P F hl => lv_lload_n C.1 C.2.1 hd hi (lv_at hl q hq) (k b hb p e s m args below meth c H locs ls C S P F hl)
theorem mw_lload {q : Nat} {j : Nat} {x : Int64} (hd : decode y.2.1 pc = .ok (.lload j, 2)) (hn : pc + 2 = n) (hq : lv[q]? = some (j, .long x)) (k : mw g l d y em n lv (.long x :: st) h o) : mw g l d y em pc lv st h o := by
  subst hn
  exact fun b hb p e s m args below meth c H locs ls C S P F hl => lv_lload C.1 C.2.1 hd (lv_at hl q hq) (k b hb p e s m args below meth c H locs ls C S P F hl)
theorem mw_aload_n {q : Nat} {i : Fin 4} {j : Nat} {x : Nat} (hd : decode y.2.1 pc = .ok (.aload_n i, 1)) (hn : pc + 1 = n) (hi : (i : Nat) = j) (hq : lv[q]? = some (j, .ref x)) (k : mw g l d y em n lv (.ref x :: st) h o) : mw g l d y em pc lv st h o := by
  subst hn
  exact fun b hb p e s m args below meth c H locs ls C S P F hl => lv_aload_n C.1 C.2.1 hd hi (lv_at hl q hq) (k b hb p e s m args below meth c H locs ls C S P F hl)
theorem mw_aload {q : Nat} {j : Nat} {x : Nat} (hd : decode y.2.1 pc = .ok (.aload j, 2)) (hn : pc + 2 = n) (hq : lv[q]? = some (j, .ref x)) (k : mw g l d y em n lv (.ref x :: st) h o) : mw g l d y em pc lv st h o := by
  subst hn
  exact fun b hb p e s m args below meth c H locs ls C S P F hl => lv_aload C.1 C.2.1 hd (lv_at hl q hq) (k b hb p e s m args below meth c H locs ls C S P F hl)
theorem mw_istore_n {i : Fin 4} {j : Nat} {x : Int32} {lv' : List (Nat × Value)} (hd : decode y.2.1 pc = .ok (.istore_n i, 1)) (hn : pc + 1 = n) (hi : (i : Nat) = j) (hj : j < y.2.2.1) (hl' : (j, Value.int x) :: lv.filter (fun q => !(q.1 == j) && !(q.1 + 1 == j && q.2.category == 2)) = lv') (k : mw g l d y em n lv' st h o) : mw g l d y em pc lv (.int x :: st) h o := by
  subst hn
  exact fun b hb p e s m args below meth c H locs ls C S P F hl => lv_istore_n C.1 C.2.1 hd hi hl hj hl' (fun ls' hl2 => k b hb p e s m args below meth c H locs ls' C S P F hl2)
theorem mw_istore {j : Nat} {x : Int32} {lv' : List (Nat × Value)} (hd : decode y.2.1 pc = .ok (.istore j, 2)) (hn : pc + 2 = n) (hj : j < y.2.2.1) (hl' : (j, Value.int x) :: lv.filter (fun q => !(q.1 == j) && !(q.1 + 1 == j && q.2.category == 2)) = lv') (k : mw g l d y em n lv' st h o) : mw g l d y em pc lv (.int x :: st) h o := by
  subst hn
  exact fun b hb p e s m args below meth c H locs ls C S P F hl => lv_istore C.1 C.2.1 hd hl hj hl' (fun ls' hl2 => k b hb p e s m args below meth c H locs ls' C S P F hl2)
theorem mw_astore_n {i : Fin 4} {j : Nat} {x : Nat} {lv' : List (Nat × Value)} (hd : decode y.2.1 pc = .ok (.astore_n i, 1)) (hn : pc + 1 = n) (hi : (i : Nat) = j) (hj : j < y.2.2.1) (hl' : (j, Value.ref x) :: lv.filter (fun q => !(q.1 == j) && !(q.1 + 1 == j && q.2.category == 2)) = lv') (k : mw g l d y em n lv' st h o) : mw g l d y em pc lv (.ref x :: st) h o := by
  subst hn
  exact fun b hb p e s m args below meth c H locs ls C S P F hl => lv_astore_n C.1 C.2.1 hd hi hl hj hl' (fun ls' hl2 => k b hb p e s m args below meth c H locs ls' C S P F hl2)
theorem mw_astore {j : Nat} {x : Nat} {lv' : List (Nat × Value)} (hd : decode y.2.1 pc = .ok (.astore j, 2)) (hn : pc + 2 = n) (hj : j < y.2.2.1) (hl' : (j, Value.ref x) :: lv.filter (fun q => !(q.1 == j) && !(q.1 + 1 == j && q.2.category == 2)) = lv') (k : mw g l d y em n lv' st h o) : mw g l d y em pc lv (.ref x :: st) h o := by
  subst hn
  exact fun b hb p e s m args below meth c H locs ls C S P F hl => lv_astore C.1 C.2.1 hd hl hj hl' (fun ls' hl2 => k b hb p e s m args below meth c H locs ls' C S P F hl2)
theorem mw_lstore_n {i : Fin 4} {j : Nat} {x : Int64} {lv' : List (Nat × Value)} (hd : decode y.2.1 pc = .ok (.lstore_n i, 1)) (hn : pc + 1 = n) (hi : (i : Nat) = j) (hj : j + 1 < y.2.2.1) (hl' : (j, Value.long x) :: lv.filter (fun q => !(q.1 == j) && (!(q.1 == j + 1) && !(q.1 + 1 == j && q.2.category == 2))) = lv') (k : mw g l d y em n lv' st h o) : mw g l d y em pc lv (.long x :: st) h o := by
  subst hn
  exact fun b hb p e s m args below meth c H locs ls C S P F hl => lv_lstore_n C.1 C.2.1 hd hi hl hj hl' (fun ls' hl2 => k b hb p e s m args below meth c H locs ls' C S P F hl2)
theorem mw_lstore {j : Nat} {x : Int64} {lv' : List (Nat × Value)} (hd : decode y.2.1 pc = .ok (.lstore j, 2)) (hn : pc + 2 = n) (hj : j + 1 < y.2.2.1) (hl' : (j, Value.long x) :: lv.filter (fun q => !(q.1 == j) && (!(q.1 == j + 1) && !(q.1 + 1 == j && q.2.category == 2))) = lv') (k : mw g l d y em n lv' st h o) : mw g l d y em pc lv (.long x :: st) h o := by
  subst hn
  exact fun b hb p e s m args below meth c H locs ls C S P F hl => lv_lstore C.1 C.2.1 hd hl hj hl' (fun ls' hl2 => k b hb p e s m args below meth c H locs ls' C S P F hl2)
theorem mw_iinc {q j : Nat} {i : Int} {x v : Int32} {lv' : List (Nat × Value)} (hd : decode y.2.1 pc = .ok (.iinc j i, 3)) (hn : pc + 3 = n) (hq : lv[q]? = some (j, .int x)) (hv : x + Int32.ofInt i = v) (hj : j < y.2.2.1) (hl' : (j, Value.int v) :: lv.filter (fun q => !(q.1 == j) && !(q.1 + 1 == j && q.2.category == 2)) = lv') (k : mw g l d y em n lv' st h o) : mw g l d y em pc lv st h o := by
  subst hn
  exact fun b hb p e s m args below meth c H locs ls C S P F hl => lv_iinc C.1 C.2.1 hd hl hq hv hj hl' (fun ls' hl2 => k b hb p e s m args below meth c H locs ls' C S P F hl2)
theorem mw_goto {off : Int} (hd : decode y.2.1 pc = .ok (.goto off, 3)) (hn : (pc : Int) + off = (n : Int)) (k : mw g l d y em n lv st h o) : mw g l d y em pc lv st h o :=
  fun b hb p e s m args below meth c H locs ls C S P F hl => lv_goto C.1 C.2.1 hd hn (k b hb p e s m args below meth c H locs ls C S P F hl)
theorem mw_dup {va : Value} (hd : decode y.2.1 pc = .ok (.dup, 1)) (hn : pc + 1 = n) (hva : va.category = 1) (k : mw g l d y em n lv (va :: va :: st) h o) : mw g l d y em pc lv (va :: st) h o := by
  subst hn
  exact fun b hb p e s m args below meth c H locs ls C S P F hl => lv_dup C.1 C.2.1 hd hva (k b hb p e s m args below meth c H locs ls C S P F hl)
theorem mw_pop {va : Value} (hd : decode y.2.1 pc = .ok (.pop, 1)) (hn : pc + 1 = n) (hva : va.category = 1) (k : mw g l d y em n lv (st) h o) : mw g l d y em pc lv (va :: st) h o := by
  subst hn
  exact fun b hb p e s m args below meth c H locs ls C S P F hl => lv_pop C.1 C.2.1 hd hva (k b hb p e s m args below meth c H locs ls C S P F hl)
theorem mw_dup2 {va vb : Value} (hd : decode y.2.1 pc = .ok (.dup2, 1)) (hn : pc + 1 = n) (hva : va.category = 1) (hvb : vb.category = 1) (k : mw g l d y em n lv (va :: vb :: va :: vb :: st) h o) : mw g l d y em pc lv (va :: vb :: st) h o := by
  subst hn
  exact fun b hb p e s m args below meth c H locs ls C S P F hl => lv_dup2_11 C.1 C.2.1 hd hva hvb (k b hb p e s m args below meth c H locs ls C S P F hl)
theorem mw_idiv {x z : Int32} (hd : decode y.2.1 pc = .ok (.idiv, 1)) (hn : pc + 1 = n) (hz : ¬ z = 0) (k : mw g l d y em n lv (.int (x / z) :: st) h o) : mw g l d y em pc lv (.int z :: .int x :: st) h o := by
  subst hn
  exact fun b hb p e s m args below meth c H locs ls C S P F hl => lv_idiv C.1 C.2.1 hd hz (k b hb p e s m args below meth c H locs ls C S P F hl)
theorem mw_irem {x z : Int32} (hd : decode y.2.1 pc = .ok (.irem, 1)) (hn : pc + 1 = n) (hz : ¬ z = 0) (k : mw g l d y em n lv (.int (xrem x z) :: st) h o) : mw g l d y em pc lv (.int z :: .int x :: st) h o := by
  subst hn
  exact fun b hb p e s m args below meth c H locs ls C S P F hl => lv_irem C.1 C.2.1 hd hz (k b hb p e s m args below meth c H locs ls C S P F hl)
theorem mw_ldiv {x z : Int64} (hd : decode y.2.1 pc = .ok (.ldiv, 1)) (hn : pc + 1 = n) (hz : ¬ z = 0) (k : mw g l d y em n lv (.long (x / z) :: st) h o) : mw g l d y em pc lv (.long z :: .long x :: st) h o := by
  subst hn
  exact fun b hb p e s m args below meth c H locs ls C S P F hl => lv_ldiv C.1 C.2.1 hd hz (k b hb p e s m args below meth c H locs ls C S P F hl)
theorem mw_lrem {x z : Int64} (hd : decode y.2.1 pc = .ok (.lrem, 1)) (hn : pc + 1 = n) (hz : ¬ z = 0) (k : mw g l d y em n lv (.long (xlrem x z) :: st) h o) : mw g l d y em pc lv (.long z :: .long x :: st) h o := by
  subst hn
  exact fun b hb p e s m args below meth c H locs ls C S P F hl => lv_lrem C.1 C.2.1 hd hz (k b hb p e s m args below meth c H locs ls C S P F hl)
theorem mw_iadd {x z : Int32} (hd : decode y.2.1 pc = .ok (.iadd, 1)) (hn : pc + 1 = n) (k : mw g l d y em n lv (.int (x + z) :: st) h o) : mw g l d y em pc lv (.int z :: .int x :: st) h o := by
  subst hn
  exact fun b hb p e s m args below meth c H locs ls C S P F hl => lv_iadd C.1 C.2.1 hd (k b hb p e s m args below meth c H locs ls C S P F hl)
theorem mw_isub {x z : Int32} (hd : decode y.2.1 pc = .ok (.isub, 1)) (hn : pc + 1 = n) (k : mw g l d y em n lv (.int (x - z) :: st) h o) : mw g l d y em pc lv (.int z :: .int x :: st) h o := by
  subst hn
  exact fun b hb p e s m args below meth c H locs ls C S P F hl => lv_isub C.1 C.2.1 hd (k b hb p e s m args below meth c H locs ls C S P F hl)
theorem mw_imul {x z : Int32} (hd : decode y.2.1 pc = .ok (.imul, 1)) (hn : pc + 1 = n) (k : mw g l d y em n lv (.int (x * z) :: st) h o) : mw g l d y em pc lv (.int z :: .int x :: st) h o := by
  subst hn
  exact fun b hb p e s m args below meth c H locs ls C S P F hl => lv_imul C.1 C.2.1 hd (k b hb p e s m args below meth c H locs ls C S P F hl)
theorem mw_iand {x z : Int32} (hd : decode y.2.1 pc = .ok (.iand, 1)) (hn : pc + 1 = n) (k : mw g l d y em n lv (.int (x &&& z) :: st) h o) : mw g l d y em pc lv (.int z :: .int x :: st) h o := by
  subst hn
  exact fun b hb p e s m args below meth c H locs ls C S P F hl => lv_iand C.1 C.2.1 hd (k b hb p e s m args below meth c H locs ls C S P F hl)
theorem mw_ior {x z : Int32} (hd : decode y.2.1 pc = .ok (.ior, 1)) (hn : pc + 1 = n) (k : mw g l d y em n lv (.int (x ||| z) :: st) h o) : mw g l d y em pc lv (.int z :: .int x :: st) h o := by
  subst hn
  exact fun b hb p e s m args below meth c H locs ls C S P F hl => lv_ior C.1 C.2.1 hd (k b hb p e s m args below meth c H locs ls C S P F hl)
theorem mw_ixor {x z : Int32} (hd : decode y.2.1 pc = .ok (.ixor, 1)) (hn : pc + 1 = n) (k : mw g l d y em n lv (.int (x ^^^ z) :: st) h o) : mw g l d y em pc lv (.int z :: .int x :: st) h o := by
  subst hn
  exact fun b hb p e s m args below meth c H locs ls C S P F hl => lv_ixor C.1 C.2.1 hd (k b hb p e s m args below meth c H locs ls C S P F hl)
theorem mw_ishl {x z : Int32} (hd : decode y.2.1 pc = .ok (.ishl, 1)) (hn : pc + 1 = n) (k : mw g l d y em n lv (.int (x <<< (z &&& 31)) :: st) h o) : mw g l d y em pc lv (.int z :: .int x :: st) h o := by
  subst hn
  exact fun b hb p e s m args below meth c H locs ls C S P F hl => lv_ishl C.1 C.2.1 hd (k b hb p e s m args below meth c H locs ls C S P F hl)
theorem mw_ishr {x z : Int32} (hd : decode y.2.1 pc = .ok (.ishr, 1)) (hn : pc + 1 = n) (k : mw g l d y em n lv (.int (x >>> (z &&& 31)) :: st) h o) : mw g l d y em pc lv (.int z :: .int x :: st) h o := by
  subst hn
  exact fun b hb p e s m args below meth c H locs ls C S P F hl => lv_ishr C.1 C.2.1 hd (k b hb p e s m args below meth c H locs ls C S P F hl)
theorem mw_ladd {x z : Int64} (hd : decode y.2.1 pc = .ok (.ladd, 1)) (hn : pc + 1 = n) (k : mw g l d y em n lv (.long (x + z) :: st) h o) : mw g l d y em pc lv (.long z :: .long x :: st) h o := by
  subst hn
  exact fun b hb p e s m args below meth c H locs ls C S P F hl => lv_ladd C.1 C.2.1 hd (k b hb p e s m args below meth c H locs ls C S P F hl)
theorem mw_lsub {x z : Int64} (hd : decode y.2.1 pc = .ok (.lsub, 1)) (hn : pc + 1 = n) (k : mw g l d y em n lv (.long (x - z) :: st) h o) : mw g l d y em pc lv (.long z :: .long x :: st) h o := by
  subst hn
  exact fun b hb p e s m args below meth c H locs ls C S P F hl => lv_lsub C.1 C.2.1 hd (k b hb p e s m args below meth c H locs ls C S P F hl)
theorem mw_lmul {x z : Int64} (hd : decode y.2.1 pc = .ok (.lmul, 1)) (hn : pc + 1 = n) (k : mw g l d y em n lv (.long (x * z) :: st) h o) : mw g l d y em pc lv (.long z :: .long x :: st) h o := by
  subst hn
  exact fun b hb p e s m args below meth c H locs ls C S P F hl => lv_lmul C.1 C.2.1 hd (k b hb p e s m args below meth c H locs ls C S P F hl)
theorem mw_land {x z : Int64} (hd : decode y.2.1 pc = .ok (.land, 1)) (hn : pc + 1 = n) (k : mw g l d y em n lv (.long (x &&& z) :: st) h o) : mw g l d y em pc lv (.long z :: .long x :: st) h o := by
  subst hn
  exact fun b hb p e s m args below meth c H locs ls C S P F hl => lv_land C.1 C.2.1 hd (k b hb p e s m args below meth c H locs ls C S P F hl)
theorem mw_lor {x z : Int64} (hd : decode y.2.1 pc = .ok (.lor, 1)) (hn : pc + 1 = n) (k : mw g l d y em n lv (.long (x ||| z) :: st) h o) : mw g l d y em pc lv (.long z :: .long x :: st) h o := by
  subst hn
  exact fun b hb p e s m args below meth c H locs ls C S P F hl => lv_lor C.1 C.2.1 hd (k b hb p e s m args below meth c H locs ls C S P F hl)
def xushr (x z : Int32) : Int32 := (x.toUInt32 >>> (z.toUInt32 &&& Int32.toUInt32 31)).toInt32
theorem mw_iushr {x z : Int32} (hd : decode y.2.1 pc = .ok (.iushr, 1)) (hn : pc + 1 = n) (k : mw g l d y em n lv (.int (xushr x z) :: st) h o) : mw g l d y em pc lv (.int z :: .int x :: st) h o := by
  subst hn
  exact fun b hb p e s m args below meth c H locs ls C S P F hl => lv_iushr C.1 C.2.1 hd rfl (k b hb p e s m args below meth c H locs ls C S P F hl)
def xlushr (x : Int64) (z : Int32) : Int64 := (x.toUInt64 >>> (z.toInt64.toUInt64 &&& Int64.toUInt64 63)).toInt64
theorem mw_lushr {x : Int64} {z : Int32} (hd : decode y.2.1 pc = .ok (.lushr, 1)) (hn : pc + 1 = n) (k : mw g l d y em n lv (.long (xlushr x z) :: st) h o) : mw g l d y em pc lv (.int z :: .long x :: st) h o := by
  subst hn
  exact fun b hb p e s m args below meth c H locs ls C S P F hl => lv_lushr C.1 C.2.1 hd rfl (k b hb p e s m args below meth c H locs ls C S P F hl)
def xlshl (x : Int64) (z : Int32) : Int64 := x <<< (z.toInt64 &&& 63)
theorem mw_lshl {x : Int64} {z : Int32} (hd : decode y.2.1 pc = .ok (.lshl, 1)) (hn : pc + 1 = n) (k : mw g l d y em n lv (.long (xlshl x z) :: st) h o) : mw g l d y em pc lv (.int z :: .long x :: st) h o := by
  subst hn
  exact fun b hb p e s m args below meth c H locs ls C S P F hl => lv_lshl C.1 C.2.1 hd rfl (k b hb p e s m args below meth c H locs ls C S P F hl)
theorem mw_i2l {x : Int32} (hd : decode y.2.1 pc = .ok (.i2l, 1)) (hn : pc + 1 = n) (k : mw g l d y em n lv (.long x.toInt64 :: st) h o) : mw g l d y em pc lv (.int x :: st) h o := by
  subst hn
  exact fun b hb p e s m args below meth c H locs ls C S P F hl => lv_i2l C.1 C.2.1 hd rfl (k b hb p e s m args below meth c H locs ls C S P F hl)
theorem mw_l2i {x : Int64} (hd : decode y.2.1 pc = .ok (.l2i, 1)) (hn : pc + 1 = n) (k : mw g l d y em n lv (.int x.toInt32 :: st) h o) : mw g l d y em pc lv (.long x :: st) h o := by
  subst hn
  exact fun b hb p e s m args below meth c H locs ls C S P F hl => lv_l2i C.1 C.2.1 hd rfl (k b hb p e s m args below meth c H locs ls C S P F hl)
theorem mw_lcmp {x z : Int64} (hd : decode y.2.1 pc = .ok (.lcmp, 1)) (hn : pc + 1 = n) (k : mw g l d y em n lv (.int (lg_cmp x z) :: st) h o) : mw g l d y em pc lv (.long z :: .long x :: st) h o := by
  subst hn
  exact fun b hb p e s m args below meth c H locs ls C S P F hl => W.lcmp C.1 C.2.1 hd (k b hb p e s m args below meth c H locs ls C S P F hl)
theorem mw_if_eq {x : Int32} {off : Int} {t : Nat} {P : Prop} [Decidable P] {o1 o2 : Option β} (hd : decode y.2.1 pc = .ok (.ifCond .eq off, 3)) (hn : pc + 3 = n) (ht : (pc : Int) + off = (t : Int)) (hP : P ↔ x = 0) (kt : P → mw g l d y em t lv st h o1) (kf : ¬ P → mw g l d y em n lv st h o2) : mw g l d y em pc lv (.int x :: st) h (if P then o1 else o2) := by
  subst hn
  intro b hb p e s m args below meth c H locs ls C S P' F hl
  by_cases q : P
  · rw [if_pos q] at hb
    exact lv_if_eq C.1 C.2.1 hd ht (fun _ => kt q b hb p e s m args below meth c H locs ls C S P' F hl) (fun r => absurd (hP.mp q) (by first | exact r | simpa using r))
  · rw [if_neg q] at hb
    exact lv_if_eq C.1 C.2.1 hd ht (fun r => absurd (hP.mpr (by first | exact r | simpa using r)) q) (fun _ => kf q b hb p e s m args below meth c H locs ls C S P' F hl)
theorem mw_icmp_eq {x z : Int32} {off : Int} {t : Nat} {P : Prop} [Decidable P] {o1 o2 : Option β} (hd : decode y.2.1 pc = .ok (.if_icmp .eq off, 3)) (hn : pc + 3 = n) (ht : (pc : Int) + off = (t : Int)) (hP : P ↔ x = z) (kt : P → mw g l d y em t lv st h o1) (kf : ¬ P → mw g l d y em n lv st h o2) : mw g l d y em pc lv (.int z :: .int x :: st) h (if P then o1 else o2) := by
  subst hn
  intro b hb p e s m args below meth c H locs ls C S P' F hl
  by_cases q : P
  · rw [if_pos q] at hb
    exact lv_icmp_eq C.1 C.2.1 hd ht (fun _ => kt q b hb p e s m args below meth c H locs ls C S P' F hl) (fun r => absurd (hP.mp q) (by first | exact r | simpa using r))
  · rw [if_neg q] at hb
    exact lv_icmp_eq C.1 C.2.1 hd ht (fun r => absurd (hP.mpr (by first | exact r | simpa using r)) q) (fun _ => kf q b hb p e s m args below meth c H locs ls C S P' F hl)
theorem mw_if_ne {x : Int32} {off : Int} {t : Nat} {P : Prop} [Decidable P] {o1 o2 : Option β} (hd : decode y.2.1 pc = .ok (.ifCond .ne off, 3)) (hn : pc + 3 = n) (ht : (pc : Int) + off = (t : Int)) (hP : P ↔ ¬ x = 0) (kt : P → mw g l d y em t lv st h o1) (kf : ¬ P → mw g l d y em n lv st h o2) : mw g l d y em pc lv (.int x :: st) h (if P then o1 else o2) := by
  subst hn
  intro b hb p e s m args below meth c H locs ls C S P' F hl
  by_cases q : P
  · rw [if_pos q] at hb
    exact lv_if_ne C.1 C.2.1 hd ht (fun _ => kt q b hb p e s m args below meth c H locs ls C S P' F hl) (fun r => absurd (hP.mp q) (by first | exact r | simpa using r))
  · rw [if_neg q] at hb
    exact lv_if_ne C.1 C.2.1 hd ht (fun r => absurd (hP.mpr (by first | exact r | simpa using r)) q) (fun _ => kf q b hb p e s m args below meth c H locs ls C S P' F hl)
theorem mw_icmp_ne {x z : Int32} {off : Int} {t : Nat} {P : Prop} [Decidable P] {o1 o2 : Option β} (hd : decode y.2.1 pc = .ok (.if_icmp .ne off, 3)) (hn : pc + 3 = n) (ht : (pc : Int) + off = (t : Int)) (hP : P ↔ ¬ x = z) (kt : P → mw g l d y em t lv st h o1) (kf : ¬ P → mw g l d y em n lv st h o2) : mw g l d y em pc lv (.int z :: .int x :: st) h (if P then o1 else o2) := by
  subst hn
  intro b hb p e s m args below meth c H locs ls C S P' F hl
  by_cases q : P
  · rw [if_pos q] at hb
    exact lv_icmp_ne C.1 C.2.1 hd ht (fun _ => kt q b hb p e s m args below meth c H locs ls C S P' F hl) (fun r => absurd (hP.mp q) (by first | exact r | simpa using r))
  · rw [if_neg q] at hb
    exact lv_icmp_ne C.1 C.2.1 hd ht (fun r => absurd (hP.mpr (by first | exact r | simpa using r)) q) (fun _ => kf q b hb p e s m args below meth c H locs ls C S P' F hl)
theorem mw_if_lt {x : Int32} {off : Int} {t : Nat} {P : Prop} [Decidable P] {o1 o2 : Option β} (hd : decode y.2.1 pc = .ok (.ifCond .lt off, 3)) (hn : pc + 3 = n) (ht : (pc : Int) + off = (t : Int)) (hP : P ↔ x < 0) (kt : P → mw g l d y em t lv st h o1) (kf : ¬ P → mw g l d y em n lv st h o2) : mw g l d y em pc lv (.int x :: st) h (if P then o1 else o2) := by
  subst hn
  intro b hb p e s m args below meth c H locs ls C S P' F hl
  by_cases q : P
  · rw [if_pos q] at hb
    exact lv_if_lt C.1 C.2.1 hd ht (fun _ => kt q b hb p e s m args below meth c H locs ls C S P' F hl) (fun r => absurd (hP.mp q) (by first | exact r | simpa using r))
  · rw [if_neg q] at hb
    exact lv_if_lt C.1 C.2.1 hd ht (fun r => absurd (hP.mpr (by first | exact r | simpa using r)) q) (fun _ => kf q b hb p e s m args below meth c H locs ls C S P' F hl)
theorem mw_icmp_lt {x z : Int32} {off : Int} {t : Nat} {P : Prop} [Decidable P] {o1 o2 : Option β} (hd : decode y.2.1 pc = .ok (.if_icmp .lt off, 3)) (hn : pc + 3 = n) (ht : (pc : Int) + off = (t : Int)) (hP : P ↔ x < z) (kt : P → mw g l d y em t lv st h o1) (kf : ¬ P → mw g l d y em n lv st h o2) : mw g l d y em pc lv (.int z :: .int x :: st) h (if P then o1 else o2) := by
  subst hn
  intro b hb p e s m args below meth c H locs ls C S P' F hl
  by_cases q : P
  · rw [if_pos q] at hb
    exact lv_icmp_lt C.1 C.2.1 hd ht (fun _ => kt q b hb p e s m args below meth c H locs ls C S P' F hl) (fun r => absurd (hP.mp q) (by first | exact r | simpa using r))
  · rw [if_neg q] at hb
    exact lv_icmp_lt C.1 C.2.1 hd ht (fun r => absurd (hP.mpr (by first | exact r | simpa using r)) q) (fun _ => kf q b hb p e s m args below meth c H locs ls C S P' F hl)
theorem mw_if_ge {x : Int32} {off : Int} {t : Nat} {P : Prop} [Decidable P] {o1 o2 : Option β} (hd : decode y.2.1 pc = .ok (.ifCond .ge off, 3)) (hn : pc + 3 = n) (ht : (pc : Int) + off = (t : Int)) (hP : P ↔ 0 ≤ x) (kt : P → mw g l d y em t lv st h o1) (kf : ¬ P → mw g l d y em n lv st h o2) : mw g l d y em pc lv (.int x :: st) h (if P then o1 else o2) := by
  subst hn
  intro b hb p e s m args below meth c H locs ls C S P' F hl
  by_cases q : P
  · rw [if_pos q] at hb
    exact lv_if_ge C.1 C.2.1 hd ht (fun _ => kt q b hb p e s m args below meth c H locs ls C S P' F hl) (fun r => absurd (hP.mp q) (by first | exact r | simpa using r))
  · rw [if_neg q] at hb
    exact lv_if_ge C.1 C.2.1 hd ht (fun r => absurd (hP.mpr (by first | exact r | simpa using r)) q) (fun _ => kf q b hb p e s m args below meth c H locs ls C S P' F hl)
theorem mw_icmp_ge {x z : Int32} {off : Int} {t : Nat} {P : Prop} [Decidable P] {o1 o2 : Option β} (hd : decode y.2.1 pc = .ok (.if_icmp .ge off, 3)) (hn : pc + 3 = n) (ht : (pc : Int) + off = (t : Int)) (hP : P ↔ z ≤ x) (kt : P → mw g l d y em t lv st h o1) (kf : ¬ P → mw g l d y em n lv st h o2) : mw g l d y em pc lv (.int z :: .int x :: st) h (if P then o1 else o2) := by
  subst hn
  intro b hb p e s m args below meth c H locs ls C S P' F hl
  by_cases q : P
  · rw [if_pos q] at hb
    exact lv_icmp_ge C.1 C.2.1 hd ht (fun _ => kt q b hb p e s m args below meth c H locs ls C S P' F hl) (fun r => absurd (hP.mp q) (by first | exact r | simpa using r))
  · rw [if_neg q] at hb
    exact lv_icmp_ge C.1 C.2.1 hd ht (fun r => absurd (hP.mpr (by first | exact r | simpa using r)) q) (fun _ => kf q b hb p e s m args below meth c H locs ls C S P' F hl)
theorem mw_if_gt {x : Int32} {off : Int} {t : Nat} {P : Prop} [Decidable P] {o1 o2 : Option β} (hd : decode y.2.1 pc = .ok (.ifCond .gt off, 3)) (hn : pc + 3 = n) (ht : (pc : Int) + off = (t : Int)) (hP : P ↔ 0 < x) (kt : P → mw g l d y em t lv st h o1) (kf : ¬ P → mw g l d y em n lv st h o2) : mw g l d y em pc lv (.int x :: st) h (if P then o1 else o2) := by
  subst hn
  intro b hb p e s m args below meth c H locs ls C S P' F hl
  by_cases q : P
  · rw [if_pos q] at hb
    exact lv_if_gt C.1 C.2.1 hd ht (fun _ => kt q b hb p e s m args below meth c H locs ls C S P' F hl) (fun r => absurd (hP.mp q) (by first | exact r | simpa using r))
  · rw [if_neg q] at hb
    exact lv_if_gt C.1 C.2.1 hd ht (fun r => absurd (hP.mpr (by first | exact r | simpa using r)) q) (fun _ => kf q b hb p e s m args below meth c H locs ls C S P' F hl)
theorem mw_icmp_gt {x z : Int32} {off : Int} {t : Nat} {P : Prop} [Decidable P] {o1 o2 : Option β} (hd : decode y.2.1 pc = .ok (.if_icmp .gt off, 3)) (hn : pc + 3 = n) (ht : (pc : Int) + off = (t : Int)) (hP : P ↔ z < x) (kt : P → mw g l d y em t lv st h o1) (kf : ¬ P → mw g l d y em n lv st h o2) : mw g l d y em pc lv (.int z :: .int x :: st) h (if P then o1 else o2) := by
  subst hn
  intro b hb p e s m args below meth c H locs ls C S P' F hl
  by_cases q : P
  · rw [if_pos q] at hb
    exact lv_icmp_gt C.1 C.2.1 hd ht (fun _ => kt q b hb p e s m args below meth c H locs ls C S P' F hl) (fun r => absurd (hP.mp q) (by first | exact r | simpa using r))
  · rw [if_neg q] at hb
    exact lv_icmp_gt C.1 C.2.1 hd ht (fun r => absurd (hP.mpr (by first | exact r | simpa using r)) q) (fun _ => kf q b hb p e s m args below meth c H locs ls C S P' F hl)
theorem mw_if_le {x : Int32} {off : Int} {t : Nat} {P : Prop} [Decidable P] {o1 o2 : Option β} (hd : decode y.2.1 pc = .ok (.ifCond .le off, 3)) (hn : pc + 3 = n) (ht : (pc : Int) + off = (t : Int)) (hP : P ↔ x ≤ 0) (kt : P → mw g l d y em t lv st h o1) (kf : ¬ P → mw g l d y em n lv st h o2) : mw g l d y em pc lv (.int x :: st) h (if P then o1 else o2) := by
  subst hn
  intro b hb p e s m args below meth c H locs ls C S P' F hl
  by_cases q : P
  · rw [if_pos q] at hb
    exact lv_if_le C.1 C.2.1 hd ht (fun _ => kt q b hb p e s m args below meth c H locs ls C S P' F hl) (fun r => absurd (hP.mp q) (by first | exact r | simpa using r))
  · rw [if_neg q] at hb
    exact lv_if_le C.1 C.2.1 hd ht (fun r => absurd (hP.mpr (by first | exact r | simpa using r)) q) (fun _ => kf q b hb p e s m args below meth c H locs ls C S P' F hl)
theorem mw_icmp_le {x z : Int32} {off : Int} {t : Nat} {P : Prop} [Decidable P] {o1 o2 : Option β} (hd : decode y.2.1 pc = .ok (.if_icmp .le off, 3)) (hn : pc + 3 = n) (ht : (pc : Int) + off = (t : Int)) (hP : P ↔ x ≤ z) (kt : P → mw g l d y em t lv st h o1) (kf : ¬ P → mw g l d y em n lv st h o2) : mw g l d y em pc lv (.int z :: .int x :: st) h (if P then o1 else o2) := by
  subst hn
  intro b hb p e s m args below meth c H locs ls C S P' F hl
  by_cases q : P
  · rw [if_pos q] at hb
    exact lv_icmp_le C.1 C.2.1 hd ht (fun _ => kt q b hb p e s m args below meth c H locs ls C S P' F hl) (fun r => absurd (hP.mp q) (by first | exact r | simpa using r))
  · rw [if_neg q] at hb
    exact lv_icmp_le C.1 C.2.1 hd ht (fun r => absurd (hP.mpr (by first | exact r | simpa using r)) q) (fun _ => kf q b hb p e s m args below meth c H locs ls C S P' F hl)
theorem mw_iret {x : Int32} {b : β} (hd : decode y.2.1 pc = .ok (.ireturn, 1)) (hr : y.2.2.2 = some .int) (he : em b = (some (.int x), h)) : mw g l d y em pc lv [.int x] h (some b) := by
  intro b' hb p e s m args below meth c H locs ls C S P F hl
  cases hb
  exact W.iret C.1 C.2.1 (C.2.2.1.trans hr) (fun t ht hW => by rw [he]; exact ⟨rfl, by rw [ht]; exact P, F.F ht⟩) F.2.2 hd (hlocks := C.2.2.2.1)
theorem mw_zret {x : Int32} {b : β} (hd : decode y.2.1 pc = .ok (.ireturn, 1)) (hr : y.2.2.2 = some .boolean) (hx : x = 0 ∨ x = 1) (he : em b = (some (.int x), h)) : mw g l d y em pc lv [.int x] h (some b) := by
  intro b' hb p e s m args below meth c H locs ls C S P F hl
  cases hb
  exact W.zret C.1 C.2.1 (C.2.2.1.trans hr) (by rcases hx with rfl | rfl <;> rfl) (fun t ht hW => by rw [he]; exact ⟨rfl, by rw [ht]; exact P, F.F ht⟩) F.2.2 hd (hlocks := C.2.2.2.1)
theorem mw_lret {x : Int64} {b : β} (hd : decode y.2.1 pc = .ok (.lreturn, 1)) (hr : y.2.2.2 = some .long) (he : em b = (some (.long x), h)) : mw g l d y em pc lv [.long x] h (some b) := by
  intro b' hb p e s m args below meth c H locs ls C S P F hl
  cases hb
  exact W.lret C.1 C.2.1 (C.2.2.1.trans hr) (fun t ht hW => by rw [he]; exact ⟨rfl, by rw [ht]; exact P, F.F ht⟩) F.2.2 hd (hlocks := C.2.2.2.1)
theorem mw_vret {b : β} (hd : decode y.2.1 pc = .ok (.return_, 1)) (hr : y.2.2.2 = none) (he : em b = (none, h)) : mw g l d y em pc lv [] h (some b) := by
  intro b' hb p e s m args below meth c H locs ls C S P F hl
  cases hb
  exact W.vret C.1 C.2.1 (C.2.2.1.trans hr) (fun t ht hW => by rw [he]; exact ⟨rfl, by rw [ht]; exact P, F.F ht⟩) F.2.2 hd (hlocks := C.2.2.2.1)
end MR
