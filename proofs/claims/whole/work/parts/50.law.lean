def R_law : String := "TwoViewsLaw"
def lw_P (b : Addr) (xs : List Int32) (args : Array Value) (s : State) : Prop := args = #[.ref b] ∧ s.IntsAt b xs ∧ xs.length ≤ 2560 ∧ (Jvm.Cond.and given_1 narrow_1).before args s = true
def lw_Q (_ : Array Value) (s : State) (o : Outcome) (t : State) : Prop := o = .returned (some (.int 1)) ∧ Framed s o t [] 600000 7302250
def lw_Z (below : List Frame) (a : Array Value) (s : State) : State → Prop := fun t => ∃ o, t.status = .running ∧ Ended t below o ∧ lw_Q a s o t
/-- the law's own end, with 1 on the stack, nothing written that was there before, its room as the claim has it -/
theorem lw_ret {p : Program} {l : Launch} {e : Env} {s : State} {m : MethodId} {below : List Frame} {meth : Method} {c : Code} {b : Nat} (hx : p.tables.exec = Jvm.exec) (hb : c.code = code) (hr : meth.sig.returnType = ret) (hlocks : meth.locks = false) {pc : Nat} {H : Heap} {ls : Array Slot} (hdg : decode code pc = .ok (.ireturn, 1)) : W p l e room_1 s m #[Value.ref b] below meth c H [] 600000 7302250 (lw_Z below #[Value.ref b] s) (F0 m pc ls [.int 1]) := by
  intro T hT X
  obtain ⟨fs, hret, hrun, hended, hW, hframe⟩ := X.leave (v := some (.int 1)) (hlocks := hlocks) (fun h => by rw [hr] at h; cases h)
  have hmeth' : T.vm.method? m = some meth := X.method'
  refine ⟨T.setFrames fs, ?_, .returned (some (.int 1)), hrun, hended, rfl, ⟨_, rfl⟩, hW, hframe⟩
  jvm_step X.here [X.here.top, hx, hb, hdg, hmeth', hr, ret, narrow_b1]
  (try refine ⟨rfl, ?_⟩); (try refine ⟨rfl, ?_⟩)
  first | (intro acts; rw [hret _ acts rfl rfl rfl]) | rw [hret _ _ rfl rfl rfl]
  exact Steps.refl _
/-- what holds at the law's entry: the machine, the code, the tables' words (any of lw_tbl by 'hts w (by decide +kernel)'), the script of L ints xs at the cell b, what the Statement gives of the start (any of its parts by flat_of_before) -/
def lw_At (p : Program) (s : State) (m : MethodId) (meth : Method) (c : Code) (b L : Nat) (xs : Nat → Int32) : Prop :=
  p.tables.exec = Jvm.exec ∧ c.code = code ∧ meth.sig.returnType = ret ∧ c.maxLocals = 4 ∧ s.vm.findClass R_law = some m.cls ∧ (∀ w ∈ lw_tbl, w.before #[Value.ref b] s = true) ∧ va_X b L xs s s.heap ∧ b < s.heap.size ∧ meth.locks = false ∧ (Jvm.Cond.and given_1 narrow_1).before #[Value.ref b] s = true
/-! the law's own walk -/
def lq (g : mG) (l : Launch) (b L : Nat) (xs : Nat → Int32) (pc : Nat) (lv : List (Nat × Value)) (st : List Value) (h : mH) : Prop :=
  ∀ (p : Program) (e : Env) (s : State) (m : MethodId) (below : List Frame) (meth : Method) (c : Code) (H : Heap) (locs : List Loc) (ls : Array Slot),
    lw_At p s m meth c b L xs → mSt g s s.heap → (∀ i, s.heap.size ≤ mad g i) → va_P g.1 vwCl (mWd g h) H → va_S (fun q => s.heap.size ≤ q) s.heap H locs → lv_has ls 4 lv →
    W p l e room_1 s m #[Value.ref b] below meth c H locs 101 6230 (lw_Z below #[Value.ref b] s) (F0 m pc ls st)
theorem nI_pk (i k : Nat) : nI i + nI k = nI (i + k) := by
  unfold nI
  exact (Int32.ofNat_add i k).symm
theorem lw_mtb {p : Program} {s : State} {m : MethodId} {meth : Method} {c : Code} {b L : Nat} {xs : Nat → Int32} (C : lw_At p s m meth c b L xs) : ∀ w ∈ mTb, w.before #[Value.ref b] s = true := fun w hw => C.2.2.2.2.2.1 w (mTb_good hw).1
section LQ
variable {g : mG} {l : Launch} {b L : Nat} {xs : Nat → Int32} {pc n : Nat} {lv : List (Nat × Value)} {st : List Value} {h : mH}
theorem lq_sub {lv' : List (Nat × Value)} (ks : List Nat) (hk : lv_pick lv ks = lv') (k : lq g l b L xs pc lv' st h) : lq g l b L xs pc lv st h :=
  fun p e s m below meth c H locs ls C S A P F hl => k p e s m below meth c H locs ls C S A P F (lv_sub hl ks hk)
theorem lq_cutJ {pc' : Nat} {lv' : List (Nat × Value)} {st' : List Value} (k : lq g l b L xs pc' lv' st' h → lq g l b L xs pc lv st h) (hJ : lq g l b L xs pc' lv' st' h) : lq g l b L xs pc lv st h := k hJ
theorem lq_topeq {v v' : Int32} (e : v = v') (k : lq g l b L xs pc lv (.int v' :: st) h) : lq g l b L xs pc lv (.int v :: st) h := by rw [e]; exact k
theorem lq_iconst {i : Int} {v : Int32} (hd : decode code pc = .ok (.iconst i, 1)) (hn : pc + 1 = n) (hv : Int32.ofInt i = v) (k : lq g l b L xs n lv (.int v :: st) h) : lq g l b L xs pc lv st h := by
  subst hn
  exact fun p e s m below meth c H locs ls C S A P F hl => lv_iconst C.1 C.2.1 hd hv (k p e s m below meth c H locs ls C S A P F hl)
theorem lq_bipush {i : Int} {v : Int32} (hd : decode code pc = .ok (.bipush i, 2)) (hn : pc + 2 = n) (hv : (Int8.ofInt i).toInt32 = v) (k : lq g l b L xs n lv (.int v :: st) h) : lq g l b L xs pc lv st h := by
  subst hn
  exact fun p e s m below meth c H locs ls C S A P F hl => lv_bipush C.1 C.2.1 hd hv (k p e s m below meth c H locs ls C S A P F hl)
theorem lq_ldc2_w {i : Nat} {v : Int64} (hd : decode code pc = .ok (.ldc2_w i, 3)) (hn : pc + 3 = n) (hc : Cond.constantLong R_law i v ∈ mTb) (k : lq g l b L xs n lv (.long v :: st) h) : lq g l b L xs pc lv st h := by
  subst hn
  exact fun p e s m below meth c H locs ls C S A P F hl => lv_ldc2 C.1 C.2.1 C.2.2.2.2.1 (lw_mtb C _ hc) hd (k p e s m below meth c H locs ls C S A P F hl)
theorem lq_iload_n {q : Nat} {i : Fin 4} {j : Nat} {x : Int32} (hd : decode code pc = .ok (.iload_n i, 1)) (hn : pc + 1 = n) (hi : (i : Nat) = j) (hq : lv[q]? = some (j, .int x)) (k : lq g l b L xs n lv (.int x :: st) h) : lq g l b L xs pc lv st h := by
  subst hn
  exact fun p e s m below meth c H locs ls C S A P F hl => lv_iload_n C.1 C.2.1 hd hi (lv_at hl q hq) (k p e s m below meth c H locs ls C S A P F hl)
theorem lq_aload_n {q : Nat} {i : Fin 4} {j : Nat} {x : Nat} (hd : decode code pc = .ok (.aload_n i, 1)) (hn : pc + 1 = n) (hi : (i : Nat) = j) (hq : lv[q]? = some (j, .ref x)) (k : lq g l b L xs n lv (.ref x :: st) h) : lq g l b L xs pc lv st h := by
  subst hn
  exact fun p e s m below meth c H locs ls C S A P F hl => lv_aload_n C.1 C.2.1 hd hi (lv_at hl q hq) (k p e s m below meth c H locs ls C S A P F hl)
theorem lq_iadd {x z : Int32} (hd : decode code pc = .ok (.iadd, 1)) (hn : pc + 1 = n) (k : lq g l b L xs n lv (.int (x + z) :: st) h) : lq g l b L xs pc lv (.int z :: .int x :: st) h := by
  subst hn
  exact fun p e s m below meth c H locs ls C S A P F hl => lv_iadd C.1 C.2.1 hd (k p e s m below meth c H locs ls C S A P F hl)
theorem lq_isub {x z : Int32} (hd : decode code pc = .ok (.isub, 1)) (hn : pc + 1 = n) (k : lq g l b L xs n lv (.int (x - z) :: st) h) : lq g l b L xs pc lv (.int z :: .int x :: st) h := by
  subst hn
  exact fun p e s m below meth c H locs ls C S A P F hl => lv_isub C.1 C.2.1 hd (k p e s m below meth c H locs ls C S A P F hl)
theorem lq_iand {x z : Int32} (hd : decode code pc = .ok (.iand, 1)) (hn : pc + 1 = n) (k : lq g l b L xs n lv (.int (x &&& z) :: st) h) : lq g l b L xs pc lv (.int z :: .int x :: st) h := by
  subst hn
  exact fun p e s m below meth c H locs ls C S A P F hl => lv_iand C.1 C.2.1 hd (k p e s m below meth c H locs ls C S A P F hl)
theorem lq_land {x z : Int64} (hd : decode code pc = .ok (.land, 1)) (hn : pc + 1 = n) (k : lq g l b L xs n lv (.long (x &&& z) :: st) h) : lq g l b L xs pc lv (.long z :: .long x :: st) h := by
  subst hn
  exact fun p e s m below meth c H locs ls C S A P F hl => lv_land C.1 C.2.1 hd (k p e s m below meth c H locs ls C S A P F hl)
theorem lq_lor {x z : Int64} (hd : decode code pc = .ok (.lor, 1)) (hn : pc + 1 = n) (k : lq g l b L xs n lv (.long (x ||| z) :: st) h) : lq g l b L xs pc lv (.long z :: .long x :: st) h := by
  subst hn
  exact fun p e s m below meth c H locs ls C S A P F hl => lv_lor C.1 C.2.1 hd (k p e s m below meth c H locs ls C S A P F hl)
theorem lq_i2l {x : Int32} (hd : decode code pc = .ok (.i2l, 1)) (hn : pc + 1 = n) (k : lq g l b L xs n lv (.long x.toInt64 :: st) h) : lq g l b L xs pc lv (.int x :: st) h := by
  subst hn
  exact fun p e s m below meth c H locs ls C S A P F hl => lv_i2l C.1 C.2.1 hd rfl (k p e s m below meth c H locs ls C S A P F hl)
theorem lq_lshl {x : Int64} {z : Int32} (hd : decode code pc = .ok (.lshl, 1)) (hn : pc + 1 = n) (k : lq g l b L xs n lv (.long (xlshl x z) :: st) h) : lq g l b L xs pc lv (.int z :: .long x :: st) h := by
  subst hn
  exact fun p e s m below meth c H locs ls C S A P F hl => lv_lshl C.1 C.2.1 hd rfl (k p e s m below meth c H locs ls C S A P F hl)
theorem lq_goto {off : Int} (hd : decode code pc = .ok (.goto off, 3)) (hn : (pc : Int) + off = (n : Int)) (k : lq g l b L xs n lv st h) : lq g l b L xs pc lv st h :=
  fun p e s m below meth c H locs ls C S A P F hl => lv_goto C.1 C.2.1 hd hn (k p e s m below meth c H locs ls C S A P F hl)
theorem lq_iinc {q j : Nat} {i : Int} {x v : Int32} {lv' : List (Nat × Value)} (hd : decode code pc = .ok (.iinc j i, 3)) (hn : pc + 3 = n) (hq : lv[q]? = some (j, .int x)) (hv : x + Int32.ofInt i = v) (hj : j < 4) (hl' : (j, Value.int v) :: lv.filter (fun q => !(q.1 == j) && !(q.1 + 1 == j && q.2.category == 2)) = lv') (k : lq g l b L xs n lv' st h) : lq g l b L xs pc lv st h := by
  subst hn
  exact fun p e s m below meth c H locs ls C S A P F hl => lv_iinc C.1 C.2.1 hd hl hq hv hj hl' (fun ls' hl2 => k p e s m below meth c H locs ls' C S A P F hl2)
theorem lq_sld {j : Nat} {v : Int32} (hv : v = nI j) (hj : j < L) (hL : L ≤ 2560) (hd : decode code pc = .ok (.iaload, 1)) (hn : pc + 1 = n) (k : lq g l b L xs n lv (.int (xs j) :: st) h) : lq g l b L xs pc lv (.int v :: .ref b :: st) h := by
  subst hn
  subst hv
  intro p e s m below meth c H locs ls C S A P F hl
  obtain ⟨hx, hb, hr, hml, hown, hts, hX, hbl, hlocks, hgv⟩ := id C
  refine va_sld hx hb hX hbl (Nat.not_le.mpr hbl) F (vp_in_nI hj (by omega)) hd ?_
  rw [nI_clamp (by omega)]
  exact k p e s m below meth c H locs ls C S A P F hl
theorem lq_slen (hd : decode code pc = .ok (.arraylength, 1)) (hn : pc + 1 = n) (k : lq g l b L xs n lv (.int (nI L) :: st) h) : lq g l b L xs pc lv (.ref b :: st) h := by
  subst hn
  intro p e s m below meth c H locs ls C S A P F hl
  obtain ⟨hx, hb, hr, hml, hown, hts, hX, hbl, hlocks, hgv⟩ := id C
  exact va_slen hx hb hX hbl (Nat.not_le.mpr hbl) F hd (k p e s m below meth c H locs ls C S A P F hl)
theorem lq_gt {x z : Int32} {off : Int} {t : Nat} (hd : decode code pc = .ok (.if_icmp .gt off, 3)) (hn : pc + 3 = n) (ht : (pc : Int) + off = (t : Int)) (kt : z < x → lq g l b L xs t lv st h) (kf : ¬ z < x → lq g l b L xs n lv st h) : lq g l b L xs pc lv (.int z :: .int x :: st) h := by
  subst hn
  exact fun p e s m below meth c H locs ls C S A P F hl => lv_icmp_gt C.1 C.2.1 hd ht (fun q => kt q p e s m below meth c H locs ls C S A P F hl) (fun q => kf q p e s m below meth c H locs ls C S A P F hl)
theorem lq_same {x z : Int32} {off : Int} {t : Nat} (hd : decode code pc = .ok (.if_icmp .eq off, 3)) (ht : (pc : Int) + off = (t : Int)) (he : x = z) (kt : lq g l b L xs t lv st h) : lq g l b L xs pc lv (.int z :: .int x :: st) h :=
  fun p e s m below meth c H locs ls C S A P F hl => lv_icmp_eq C.1 C.2.1 hd ht (fun _ => kt p e s m below meth c H locs ls C S A P F hl) (fun q => absurd he q)
theorem lq_lcmp {x z : Int64} (hd : decode code pc = .ok (.lcmp, 1)) (hn : pc + 1 = n) (he : x = z) (k : lq g l b L xs n lv (.int 0 :: st) h) : lq g l b L xs pc lv (.long z :: .long x :: st) h := by
  subst hn
  subst he
  intro p e s m below meth c H locs ls C S A P F hl
  refine W.lcmp C.1 C.2.1 hd ?_
  rw [show lg_cmp x x = 0 by simp [lg_cmp]]
  exact k p e s m below meth c H locs ls C S A P F hl
theorem lq_ifeq0 {off : Int} {t : Nat} (hd : decode code pc = .ok (.ifCond .eq off, 3)) (ht : (pc : Int) + off = (t : Int)) (kt : lq g l b L xs t lv st h) : lq g l b L xs pc lv (.int 0 :: st) h :=
  fun p e s m below meth c H locs ls C S A P F hl => lv_if_eq C.1 C.2.1 hd ht (fun _ => kt p e s m below meth c H locs ls C S A P F hl) (fun q => absurd rfl q)
theorem lq_if_eq {x : Int32} {off : Int} {t : Nat} (hd : decode code pc = .ok (.ifCond .eq off, 3)) (hn : pc + 3 = n) (ht : (pc : Int) + off = (t : Int)) (kt : x = 0 → lq g l b L xs t lv st h) (kf : ¬ x = 0 → lq g l b L xs n lv st h) : lq g l b L xs pc lv (.int x :: st) h := by
  subst hn
  exact fun p e s m below meth c H locs ls C S A P F hl => lv_if_eq C.1 C.2.1 hd ht (fun q => kt q p e s m below meth c H locs ls C S A P F hl) (fun q => kf q p e s m below meth c H locs ls C S A P F hl)
theorem lq_tIn {x : Int32} {v : Int} {dflt lo hi off : Int} {offs : Array Int} {len t : Nat} (hd : decode code pc = .ok (.tableswitch dflt lo hi offs, len)) (hx : x.toInt = v) (h1 : ¬ v < lo) (h2 : ¬ hi < v) (ho : offs[(v - lo).toNat]? = some off) (ht : (pc : Int) + off = (t : Int)) (k : lq g l b L xs t lv st h) : lq g l b L xs pc lv (.int x :: st) h := by
  subst hx
  exact fun p e s m below meth c H locs ls C S A P F hl => lv_tableIn C.1 C.2.1 hd h1 h2 ho ht (k p e s m below meth c H locs ls C S A P F hl)
theorem lq_tOut {x : Int32} {dflt lo hi : Int} {offs : Array Int} {len t : Nat} (hd : decode code pc = .ok (.tableswitch dflt lo hi offs, len)) (hx : x.toInt < lo ∨ hi < x.toInt) (ht : (pc : Int) + dflt = (t : Int)) (k : lq g l b L xs t lv st h) : lq g l b L xs pc lv (.int x :: st) h :=
  fun p e s m below meth c H locs ls C S A P F hl => lv_tableOut C.1 C.2.1 hd hx ht (k p e s m below meth c H locs ls C S A P F hl)
theorem lq_ret (hd : decode code pc = .ok (.ireturn, 1)) : lq g l b L xs pc lv [.int 1] h := by
  intro p e s m below meth c H locs ls C S A P F hl
  obtain ⟨hx, hb, hr, hml, hown, hts, hX, hbl, hlocks, hgv⟩ := id C
  refine va_forget (fun q hq => F.2.2 q hq) ?_
  refine W.widen (k := 600000) (n := 7302250) (Nat.le_of_ble_eq_true rfl) (Nat.le_of_ble_eq_true rfl) ?_
  exact lw_ret hx hb hr hlocks hd
theorem lq_callV {γ : Type} {em' : γ → Option Value × mH} {y' : mD} {d' a i ci N : Nat} {As st' : List Value} {o' : Option γ} {b' : γ} {C : String} {T : u_T} (hC : mCl ci C T) (ha : mkn g a ci) (hM : mf g l d' y' em' (.ref (mad g a) :: As) h o') (hb' : o' = some b') (hdd : d' < 100) (hO : mOk y' N) (hN : As.length = N) (hcls : y'.1.cls = C)
    (h1 : Cond.methodLink R_law i y'.1 ∈ mTb) (h2 : Cond.instanceMethod y'.1 ∈ mTb) (h3 : Cond.selects C y'.1 y'.1 ∈ mTb) (hd : decode code pc = .ok (.invokevirtual i, 3)) (hn : pc + 3 = n) (hst : st' = As.reverse ++ .ref (mad g a) :: st) (hroom : (st.map fun v => v.category).sum ≤ 8)
    (kk : lq g l b L xs n lv ((em' b').1.toList ++ st) (em' b').2) : lq g l b L xs pc lv st' h := by
  subst hn
  subst hcls
  intro p e s m below meth c H locs ls C0 S A P F hl T' hT X
  have hts := lw_mtb C0
  have F0' : va_S (mA g) s.heap H [] := ⟨F.1, fun q h1 h2 => F.2.1 q h1 (Nat.not_le.mpr h1), fun _ h => by cases h⟩
  have hw : GoodIn mTb (wsV R_law i y'.1.cls y'.1 (Cond.code y'.1 y'.2.1 y'.2.2.1 y'.2.2.2 :: mTb)) := fun w hw => by
    rcases List.mem_append.mp (show w ∈ ([.methodLink R_law i y'.1, .instanceMethod y'.1, .selects y'.1.cls y'.1 y'.1, .initialized y'.1.cls] : List Cond) ++ _ from hw) with hw | hw
    · simp only [List.mem_cons, List.not_mem_nil, or_false] at hw
      rcases hw with rfl | rfl | rfl | rfl
      · exact ⟨h1, good_of_word (mTb_good h1).2⟩
      · exact ⟨h2, good_of_word (mTb_good h2).2⟩
      · exact ⟨h3, good_of_word (mTb_good h3).2⟩
      · exact ⟨hO.2.2.2, good_of_word (mTb_good hO.2.2.2).2⟩
    · exact mGood hO.2.2.1 w hw
  have hRoom : (mRm d').frames + 1 ≤ room_1.frames ∧ 8 + (y'.2.2.1 + 11) + (mRm d').locals ≤ room_1.locals := by
    have := hO.2.1
    constructor
    · show d' + 1 + 1 ≤ 2048
      omega
    · show 8 + (y'.2.2.1 + 11) + 40 * (d' + 1) ≤ 84000
      omega
  have run := va_runV (As := As) (rest := st) (g := F0 m pc ls st') (below := below) (meth := meth) (e := e) (locs := locs) (cells := 101) (slots := 6230) (H := H) (R := room_1) ⟨C0.1, C0.2.1, C0.2.2.2.1, C0.2.2.2.2.1, hts⟩ (hM b' hb') (cwV N hts hw rfl rfl rfl ⟨rfl, hO.1⟩ hRoom) ⟨(mPre S P F0').1, va_recv S.1 P hC.2.1 (mWd_obj ha hC.1), (mPre S P F0').2⟩ rfl hN hl.1 hst (lv_room hroom) hd ⟨Nat.le_of_ble_eq_true rfl, Nat.le_of_ble_eq_true rfl⟩
  obtain ⟨v, st₀, t, T2, L2, h0, X', hL, e1, e2, ⟨hv, hP1, hz, hq⟩, stp⟩ := run T' hT X
  cases hv
  rw [h0] at hz hq
  rw [← e1] at hP1 hz hq
  have hAA : ∀ q, mA g q → s.heap.size ≤ q := fun q ⟨j, _, hj⟩ => by rw [hj]; exact A j
  have F' : va_S (fun q => s.heap.size ≤ q) s.heap T2.heap (locs ++ L2) := by
    refine ⟨Nat.le_trans F.1 hz, fun q h1 h2 => ?_, fun q hm => ?_⟩
    · rw [hq q (Nat.lt_of_lt_of_le h1 F.1) (fun z => h2 (hAA q z))]
      exact F.2.1 q h1 h2
    · rcases List.mem_append.mp hm with hm | hm
      · exact F.2.2 q hm
      · exact hAA _ (hL q hm)
  obtain ⟨t2, a1, b1⟩ := kk p e s m below meth c T2.heap (locs ++ L2) ls C0 S A hP1 F' hl T2 rfl X'
  exact ⟨t2, stp t2 a1, b1⟩
end LQ
