/-! making the objects: n cells stand, S says which references are set -/
abbrev mB : Type := Nat → Nat → Bool
def mss (S : mB) (a k : Nat) : mB := fun i j => if i = a ∧ j = k then true else S i j
def mfs (g : mG) (S : mB) (h : mH) (i c k : Nat) : Value := match mfk c k with
  | 0 => .int (mgi h i k)
  | 1 => .long (mgl h i k)
  | t + 2 => if S i k = true then .ref (mad g (i + t)) else .null
def mFS (g : mG) (S : mB) (h : mH) (i c : Nat) : List Value := (List.range (mNf c)).map (mfs g S h i c)
def mEs (g : mG) (S : mB) (h : mH) (i : Nat) : va_E :=
  if mk i < 10 then .inr (mk i, mFS g S h i (mk i))
  else if mk i = 50 then .inl (g.2.1.2.1, 2, .inl (mgi h i))
  else if mk i = 60 then .inl (g.2.1.2.2, 14, .inr (.inr (.inr (.inr fun j => if S i j = true then some (mad g (22 + 3 * j)) else none))))
  else if mk i = 61 then .inl (g.2.1.2.2, 2, .inr (.inr (.inr (.inr fun j => if S i j = true then some (mad g (76 + 3 * j)) else none))))
  else .inl (g.2.1.1, mk i - 100, .inl (mgi h i))
def mWs (g : mG) (n : Nat) (S : mB) (h : mH) : va_W := (List.range n).map fun i => (mad g i, mEs g S h i)
def mFr (n : Nat) (S : mB) (h : mH) : Prop := ∀ i, n ≤ i → (∀ k, mgi h i k = 0) ∧ (∀ k, mgl h i k = 0) ∧ ∀ k, S i k = false
def mSn (g : mG) (U : State) (H : Heap) : Prop := mSt g U H ∧ va_AO "TwoViews$Sheet" U ∧ (∀ i, mad g i = mad g 0 + i) ∧ mnn g = 101
def mPn (g : mG) (n : Nat) (S : mB) (h : mH) (U : State) : Prop := va_P g.1 vwCl (mWs g n S h) U.heap ∧ U.heap.size = mad g n ∧ mSn g U U.heap
def mQn (g : mG) (n : Nat) (S : mB) (h : mH) : Array Value → State → Outcome → State → Prop := fun _ st oc t => oc = .returned none ∧ va_P g.1 vwCl (mWs g n S h) t.heap ∧ t.heap.size = mad g n ∧ va_F (mA g) st t
def mRc (d mc ms : Nat) : Room := { frames := d + 1, cells := mc, slots := ms, locals := 40 * (d + 1) }
def mv (g : mG) (l : Launch) (R : Room) (y : mD) (n2 : Nat) (S2 : mB) (h2 : mH) (c2 s2 : Nat) (pc : Nat) (lv : List (Nat × Value)) (st : List Value) (n : Nat) (S : mB) (h : mH) (cells slots : Nat) : Prop :=
  ∀ (p : Program) (e : Env) (s : State) (m : MethodId) (args : Array Value) (below : List Frame) (meth : Method) (c : Code) (H : Heap) (locs : List Loc) (ls : Array Slot),
    mCx y p s m args meth c → meth.name = "<init>" → mSn g s s.heap → va_P g.1 vwCl (mWs g n S h) H → H.size = mad g n → va_S (mA g) s.heap H locs → lv_has ls y.2.2.1 lv →
    W p l e R s m args below meth c H locs cells slots (MQ below (mQn g n2 S2 h2) args s c2 s2 (mA g)) (F0 m pc ls st)
def mcn (g : mG) (l : Launch) (d : Nat) (y : mD) (i n : Nat) (S : mB) (h : mH) (n2 : Nat) (S2 : mB) (h2 : mH) (mc ms : Nat) : Prop :=
  Met l y.1 (Cond.code y.1 y.2.1 y.2.2.1 y.2.2.2 :: mTb) (mRc d mc ms) (va_Pc [.ref (mad g i)] (mPn g n S h)) (mQn g n2 S2 h2) mc ms (mA g)
theorem mWs_at {g : mG} {n : Nat} {S : mB} {h : mH} {i : Nat} (hi : i < n) : (mWs g n S h)[i]? = some (mad g i, mEs g S h i) := by
  simp [mWs, hi]
theorem mWs_get {g : mG} {n : Nat} {S : mB} {h : mH} {i : Nat} {q : Nat × va_E} (hq : (mWs g n S h)[i]? = some q) : i < n ∧ q = (mad g i, mEs g S h i) := by
  have hi : i < n := by
    have := (List.getElem?_eq_some_iff.mp hq).1
    simpa [mWs] using this
  rw [mWs_at hi] at hq
  exact ⟨hi, (Option.some.inj hq).symm⟩
theorem mWs_D {g : mG} {n : Nat} {S : mB} {h : mH} (ha : ∀ i, mad g i = mad g 0 + i) (hn : n ≤ mnn g) : va_D (mA g) (mWs g n S h) := by
  refine ⟨fun i j p q hp hq e => ?_, fun k q hq => ?_⟩
  · obtain ⟨h1, rfl⟩ := mWs_get hp
    obtain ⟨h2, rfl⟩ := mWs_get hq
    have e' : mad g i = mad g j := e
    rw [ha i, ha j] at e'
    omega
  · obtain ⟨h1, rfl⟩ := mWs_get hq
    exact ⟨k, by omega, rfl⟩
theorem mWs_set {g : mG} {n : Nat} {S S' : mB} {h h' : mH} {i : Nat} {x : va_E} (hx : x = mEs g S' h' i) (ho : ∀ j, j ≠ i → mEs g S' h' j = mEs g S h j) : (mWs g n S h).set i (mad g i, x) = mWs g n S' h' := by
  subst hx
  refine List.ext_getElem? fun j => ?_
  by_cases hj : j < n
  · rw [mWs_at hj, List.getElem?_set]
    by_cases e : i = j
    · subst e
      rw [if_pos rfl, if_pos (by simpa [mWs] using hj)]
    · rw [if_neg e, mWs_at hj, ho j (fun q => e q.symm)]
  · have e1 : ((mWs g n S h).set i (mad g i, mEs g S' h' i))[j]? = none := by
      rw [List.getElem?_eq_none_iff]; simp [mWs]; omega
    have e2 : (mWs g n S' h')[j]? = none := by
      rw [List.getElem?_eq_none_iff]; simp [mWs]; omega
    rw [e1, e2]
theorem mFS_at {g : mG} {S : mB} {h : mH} {i c k : Nat} (hk : k < mNf c) : (mFS g S h i c)[k]? = some (mfs g S h i c k) := by
  simp [mFS, hk]
theorem mFS_len {g : mG} {S : mB} {h : mH} {i c : Nat} : (mFS g S h i c).length = mNf c := by simp [mFS]
theorem mFS_set {g : mG} {S S' : mB} {h h' : mH} {i c k : Nat} (ho : ∀ j, j ≠ k → mfs g S' h' i c j = mfs g S h i c j) : (mFS g S h i c).set k (mfs g S' h' i c k) = mFS g S' h' i c := by
  refine List.ext_getElem? fun j => ?_
  by_cases hj : j < mNf c
  · rw [mFS_at hj, List.getElem?_set]
    by_cases e : k = j
    · subst e
      rw [if_pos rfl, if_pos (by rw [mFS_len]; exact hj)]
    · rw [if_neg e, mFS_at hj, ho j (fun q => e q.symm)]
  · rw [List.getElem?_eq_none_iff.mpr (by rw [List.length_set, mFS_len]; omega), List.getElem?_eq_none_iff.mpr (by rw [mFS_len]; omega)]
theorem mfs_eq {g : mG} {S S' : mB} {h h' : mH} {i c k : Nat} (h1 : mgi h' i k = mgi h i k) (h2 : mgl h' i k = mgl h i k) (h3 : S' i k = S i k) : mfs g S' h' i c k = mfs g S h i c k := by
  unfold mfs
  split
  · rw [h1]
  · rw [h2]
  · rw [h3]
theorem mEs_eq {g : mG} {S S' : mB} {h h' : mH} {i : Nat} (h1 : ∀ k, mgi h' i k = mgi h i k) (h2 : ∀ k, mgl h' i k = mgl h i k) (h3 : ∀ k, S' i k = S i k) : mEs g S' h' i = mEs g S h i := by
  have e1 : mgi h' i = mgi h i := funext h1
  have e2 : ∀ c, mFS g S' h' i c = mFS g S h i c := fun c => List.map_congr_left fun q _ => mfs_eq (h1 q) (h2 q) (h3 q)
  have e3 : S' i = S i := funext h3
  unfold mEs
  rw [e1, e2, e3]
theorem mEs_obj {g : mG} {S : mB} {h : mH} {a c : Nat} (ha : mk a = c) (hc : c < 10) : mEs g S h a = .inr (c, mFS g S h a c) := by
  subst ha
  simp [mEs, hc]
theorem mEs_int {g : mG} {S : mB} {h : mH} {a N : Nat} (ha : mk a = 100 + N) : mEs g S h a = .inl (g.2.1.1, N, .inl (mgi h a)) := by
  unfold mEs
  rw [ha, if_neg (by omega), if_neg (by omega), if_neg (by omega), if_neg (by omega)]
  congr 2
  rw [Nat.add_sub_cancel_left]
theorem mSn.warm {g : mG} {s U : State} {H : Heap} {locs : List Loc} (hW : s.WarmedH U.vm) (hS : va_S (mA g) s.heap H locs) (h : mSn g s s.heap) : mSn g U H := ⟨mSt.warm hW hS h.1, va_AO.moved hW.alike h.2.1, h.2.2⟩
theorem mPn.blind {g : mG} {n : Nat} {S : mB} {h : mH} (as : List Value) : FrameBlind (va_Pc as (mPn g n S h)) := by
  intro a U f mk q
  obtain ⟨q1, q2, q3, q4, q5, q6⟩ := q
  exact ⟨q1, q2, q3, mSt.vm (s := U) (U := U.calling f mk a) rfl q4, va_AO.moved (u := U) (U := U.calling f mk a) (Vm.Alike.refl U.vm) q5, q6⟩
theorem mcn_of {g : mG} {l : Launch} {d : Nat} {y : mD} {i n n2 mc ms : Nat} {S S2 : mB} {h h2 : mH} (hy : plainName y.1.cls = true) (hn : y.1.name = "<init>") (hl : 1 ≤ y.2.2.1)
    (k : mv g l (mRc d mc ms) y n2 S2 h2 mc ms 0 [(0, .ref (mad g i))] [] n S h 0 0) : mcn g l d y i n S h n2 S2 h2 mc ms := by
  refine Met.ofW (cc := y.2.1) (maxL := y.2.2.1) (ret := y.2.2.2) hy rfl ?_
  intro p e s m args below meth c s₁ B hml hv
  obtain ⟨rfl, hP, hz, hS⟩ := hv
  have hts := atoms_spec (ws := Cond.code y.1 y.2.1 y.2.2.1 y.2.2.2 :: mTb) B.pre
  have hown : s.vm.findClass y.1.cls = some m.cls := findClass_of_methodNamed B.named
  have hin : meth.name = "<init>" := ((name_of_methodNamed B.named B.method).1).trans hn
  have hl' := lv_entry [.ref (mad g i)] (n := y.2.2.1) hl
  rw [lg_entry_eq]
  exact k p e s m _ below meth c s.heap [] _ ⟨B.exec, B.bytes, B.returns, B.notSynchronized, hml, hown, fun w hw => hts w (List.mem_cons_of_mem _ hw)⟩ hin hS hP hz va_S.rf hl'
section MV
variable {g : mG} {l : Launch} {R : Room} {y : mD} {n2 : Nat} {S2 : mB} {h2 : mH} {c2 s2 pc n' : Nat} {lv : List (Nat × Value)} {st : List Value} {n : Nat} {S : mB} {h : mH} {cells slots : Nat}
theorem mv_iconst {i : Int} {v : Int32} (hd : decode y.2.1 pc = .ok (.iconst i, 1)) (hn : pc + 1 = n') (hv : Int32.ofInt i = v) (k : mv g l R y n2 S2 h2 c2 s2 n' lv (.int v :: st) n S h cells slots) : mv g l R y n2 S2 h2 c2 s2 pc lv st n S h cells slots := by
  subst hn
  exact fun p e s m args below meth c H locs ls C I Sn P Z F hl => lv_iconst C.1 C.2.1 hd hv (k p e s m args below meth c H locs ls C I Sn P Z F hl)
theorem mv_bipush {i : Int} {v : Int32} (hd : decode y.2.1 pc = .ok (.bipush i, 2)) (hn : pc + 2 = n') (hv : (Int8.ofInt i).toInt32 = v) (k : mv g l R y n2 S2 h2 c2 s2 n' lv (.int v :: st) n S h cells slots) : mv g l R y n2 S2 h2 c2 s2 pc lv st n S h cells slots := by
  subst hn
  exact fun p e s m args below meth c H locs ls C I Sn P Z F hl => lv_bipush C.1 C.2.1 hd hv (k p e s m args below meth c H locs ls C I Sn P Z F hl)
theorem mv_sipush {i : Int} {v : Int32} (hd : decode y.2.1 pc = .ok (.sipush i, 3)) (hn : pc + 3 = n') (hv : (Int16.ofInt i).toInt32 = v) (k : mv g l R y n2 S2 h2 c2 s2 n' lv (.int v :: st) n S h cells slots) : mv g l R y n2 S2 h2 c2 s2 pc lv st n S h cells slots := by
  subst hn
  exact fun p e s m args below meth c H locs ls C I Sn P Z F hl => lv_sipush C.1 C.2.1 hd hv (k p e s m args below meth c H locs ls C I Sn P Z F hl)
theorem mv_ldc2_w {i : Nat} {v : Int64} (hd : decode y.2.1 pc = .ok (.ldc2_w i, 3)) (hn : pc + 3 = n') (hc : Cond.constantLong y.1.cls i v ∈ mTb) (k : mv g l R y n2 S2 h2 c2 s2 n' lv (.long v :: st) n S h cells slots) : mv g l R y n2 S2 h2 c2 s2 pc lv st n S h cells slots := by
  subst hn
  exact fun p e s m args below meth c H locs ls C I Sn P Z F hl => lv_ldc2 C.1 C.2.1 C.2.2.2.2.2.1 (C.2.2.2.2.2.2 _ hc) hd (k p e s m args below meth c H locs ls C I Sn P Z F hl)
theorem mv_iload_n {q : Nat} {i : Fin 4} {j : Nat} {x : Int32} (hd : decode y.2.1 pc = .ok (.iload_n i, 1)) (hn : pc + 1 = n') (hi : (i : Nat) = j) (hq : lv[q]? = some (j, .int x)) (k : mv g l R y n2 S2 h2 c2 s2 n' lv (.int x :: st) n S h cells slots) : mv g l R y n2 S2 h2 c2 s2 pc lv st n S h cells slots := by
  subst hn
  exact fun p e s m args below meth c H locs ls C I Sn P Z F hl => lv_iload_n C.1 C.2.1 hd hi (lv_at hl q hq) (k p e s m args below meth c H locs ls C I Sn P Z F hl)
theorem mv_aload_n {q : Nat} {i : Fin 4} {j : Nat} {x : Nat} (hd : decode y.2.1 pc = .ok (.aload_n i, 1)) (hn : pc + 1 = n') (hi : (i : Nat) = j) (hq : lv[q]? = some (j, .ref x)) (k : mv g l R y n2 S2 h2 c2 s2 n' lv (.ref x :: st) n S h cells slots) : mv g l R y n2 S2 h2 c2 s2 pc lv st n S h cells slots := by
  subst hn
  exact fun p e s m args below meth c H locs ls C I Sn P Z F hl => lv_aload_n C.1 C.2.1 hd hi (lv_at hl q hq) (k p e s m args below meth c H locs ls C I Sn P Z F hl)
theorem mv_istore_n {i : Fin 4} {j : Nat} {x : Int32} {lv' : List (Nat × Value)} (hd : decode y.2.1 pc = .ok (.istore_n i, 1)) (hn : pc + 1 = n') (hi : (i : Nat) = j) (hj : j < y.2.2.1) (hl' : (j, Value.int x) :: lv.filter (fun q => !(q.1 == j) && !(q.1 + 1 == j && q.2.category == 2)) = lv') (k : mv g l R y n2 S2 h2 c2 s2 n' lv' st n S h cells slots) : mv g l R y n2 S2 h2 c2 s2 pc lv (.int x :: st) n S h cells slots := by
  subst hn
  exact fun p e s m args below meth c H locs ls C I Sn P Z F hl => lv_istore_n C.1 C.2.1 hd hi hl hj hl' (fun ls' hl2 => k p e s m args below meth c H locs ls' C I Sn P Z F hl2)
theorem mv_iinc {q j : Nat} {i : Int} {x v : Int32} {lv' : List (Nat × Value)} (hd : decode y.2.1 pc = .ok (.iinc j i, 3)) (hn : pc + 3 = n') (hq : lv[q]? = some (j, .int x)) (hv : x + Int32.ofInt i = v) (hj : j < y.2.2.1) (hl' : (j, Value.int v) :: lv.filter (fun q => !(q.1 == j) && !(q.1 + 1 == j && q.2.category == 2)) = lv') (k : mv g l R y n2 S2 h2 c2 s2 n' lv' st n S h cells slots) : mv g l R y n2 S2 h2 c2 s2 pc lv st n S h cells slots := by
  subst hn
  exact fun p e s m args below meth c H locs ls C I Sn P Z F hl => lv_iinc C.1 C.2.1 hd hl hq hv hj hl' (fun ls' hl2 => k p e s m args below meth c H locs ls' C I Sn P Z F hl2)
theorem mv_goto {off : Int} (hd : decode y.2.1 pc = .ok (.goto off, 3)) (hn : (pc : Int) + off = (n' : Int)) (k : mv g l R y n2 S2 h2 c2 s2 n' lv st n S h cells slots) : mv g l R y n2 S2 h2 c2 s2 pc lv st n S h cells slots :=
  fun p e s m args below meth c H locs ls C I Sn P Z F hl => lv_goto C.1 C.2.1 hd hn (k p e s m args below meth c H locs ls C I Sn P Z F hl)
theorem mv_dup {va : Value} (hd : decode y.2.1 pc = .ok (.dup, 1)) (hn : pc + 1 = n') (hva : va.category = 1) (k : mv g l R y n2 S2 h2 c2 s2 n' lv (va :: va :: st) n S h cells slots) : mv g l R y n2 S2 h2 c2 s2 pc lv (va :: st) n S h cells slots := by
  subst hn
  exact fun p e s m args below meth c H locs ls C I Sn P Z F hl => lv_dup C.1 C.2.1 hd hva (k p e s m args below meth c H locs ls C I Sn P Z F hl)
theorem mv_ge_t {x z : Int32} {off : Int} {t : Nat} (hd : decode y.2.1 pc = .ok (.if_icmp .ge off, 3)) (ht : (pc : Int) + off = (t : Int)) (hc : z ≤ x) (k : mv g l R y n2 S2 h2 c2 s2 t lv st n S h cells slots) : mv g l R y n2 S2 h2 c2 s2 pc lv (.int z :: .int x :: st) n S h cells slots :=
  fun p e s m args below meth c H locs ls C I Sn P Z F hl => lv_icmp_ge C.1 C.2.1 hd ht (fun _ => k p e s m args below meth c H locs ls C I Sn P Z F hl) (fun q => absurd hc q)
theorem mv_ge_f {x z : Int32} {off : Int} {t : Nat} (hd : decode y.2.1 pc = .ok (.if_icmp .ge off, 3)) (hn : pc + 3 = n') (ht : (pc : Int) + off = (t : Int)) (hc : ¬ z ≤ x) (k : mv g l R y n2 S2 h2 c2 s2 n' lv st n S h cells slots) : mv g l R y n2 S2 h2 c2 s2 pc lv (.int z :: .int x :: st) n S h cells slots := by
  subst hn
  exact fun p e s m args below meth c H locs ls C I Sn P Z F hl => lv_icmp_ge C.1 C.2.1 hd ht (fun q => absurd q hc) (fun _ => k p e s m args below meth c H locs ls C I Sn P Z F hl)
theorem mv_objInit {i a : Nat} (h1 : Cond.methodLink y.1.cls i Lib.objectInit ∈ mTb) (h2' : Cond.instanceMethod Lib.objectInit ∈ mTb) (h3 : Cond.code Lib.objectInit ⟨#[0xb1]⟩ 1 none ∈ mTb) (hd : decode y.2.1 pc = .ok (.invokespecial i, 3)) (hn : pc + 3 = n') (hR : 1 ≤ R.frames ∧ (st.map fun v => v.category).sum + 12 ≤ R.locals) (k : mv g l R y n2 S2 h2 c2 s2 n' lv st n S h cells slots) : mv g l R y n2 S2 h2 c2 s2 pc lv (.ref a :: st) n S h cells slots := by
  subst hn
  intro p e s m args below meth c H locs ls C I Sn P Z F hl
  refine W.objInit C.1 C.2.1 C.2.2.2.2.2.1 (C.2.2.2.2.2.2 _ h1) (C.2.2.2.2.2.2 _ h2') (C.2.2.2.2.2.2 _ h3) rfl (hl.1.trans C.2.2.2.2.1.symm) rfl hd hR.1 (by show 2 * 0 + _ + 12 ≤ _; omega) (k p e s m args below meth c H locs ls C I Sn P Z F hl)
theorem mv_ret (hd : decode y.2.1 pc = .ok (.return_, 1)) (hr : y.2.2.2 = none) : mv g l R y n S h cells slots pc lv [] n S h cells slots := by
  intro p e s m args below meth c H locs ls C I Sn P Z F hl
  exact W.vret C.1 C.2.1 (C.2.2.1.trans hr) (fun t ht hW => ⟨rfl, by rw [ht]; exact P, by rw [ht]; exact Z, F.F ht⟩) F.2.2 hd (hlocks := C.2.2.2.1)
end MV
