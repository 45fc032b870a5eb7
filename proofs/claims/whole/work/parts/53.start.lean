/-! the law from its entry, over what the pure step says -/
def mz0 : mH := (fun _ _ => 0, fun _ _ => 0)
theorem frz (n : Nat) : mFr n (fun _ _ => false) mz0 := fun _ _ => ⟨fun _ => rfl, fun _ => rfl, fun _ => rfl⟩
theorem arr_of {args : Array Value} {s : State} {ty : FieldType} (h : (Cond.arrayClass ty).before args s = true) (hr : ∀ C, ty ≠ .object C) : ∃ cA : ClassId, ArrOfT s cA ty ∧ va_RA s cA ty := by
  obtain ⟨c, k, comp, h1, h2, h3⟩ := Cond.arrayClass_spec h
  refine ⟨c, fun n z => ⟨fun k h => (by cases h), k, h2, comp, h3⟩, ?_⟩
  unfold va_RA
  split
  · rename_i C; exact absurd rfl (hr C)
  · exact h1
theorem arr_ofS {s : State} {C : String} (h : va_AO C s) : ∃ cA : ClassId, ArrOfT s cA (.object C) ∧ va_RA s cA (.object C) := by
  obtain ⟨comp, c, k, h1, -, h2, h3, h4⟩ := Cond.arrayOver_spec h
  exact ⟨c, fun n z => ⟨fun k h => (by cases h), k, h2, comp, h3⟩, k, comp, h2, h3, h1, h4⟩
/-- the pure half of the claim -/
def pureOK (N : Nat) : Prop := ∃ (h3 : mH) (Inv : Nat → mH → Prop), x_X2_settle N 1 (kH8 mz0) = some h3 ∧ (∀ i, 82 ≤ i → (∀ k, mgi h3 i k = 0) ∧ ∀ k, mgl h3 i k = 0) ∧ Inv 0 (kH9 h3) ∧ ∀ t h, t < 512 → Inv t h → ∀ op a b c d, ∃ h2, xl N op a b c d h = some h2 ∧ Inv (t + 1) h2
theorem w_ao : Cond.arrayOver (.object "TwoViews$Sheet") ∈ tables_1 := List.mem_of_getElem? (i := 163) (by decide +kernel)
theorem w_ls_FIRST_WITH_YES : Cond.laysStatic "TwoViews$Answers" "FIRST_WITH_YES" "[I" ∈ tables_1 := List.mem_of_getElem? (i := 274) (by decide +kernel)
theorem w_ls_ROWS_BY_YES : Cond.laysStatic "TwoViews$Answers" "ROWS_BY_YES" "[I" ∈ tables_1 := List.mem_of_getElem? (i := 276) (by decide +kernel)
theorem w_ls_DOING_UNITS : Cond.laysStatic "TwoViews" "DOING_UNITS" "[J" ∈ tables_1 := List.mem_of_getElem? (i := 683) (by decide +kernel)
theorem w_in0 : Cond.instantiable RX0 3 ∈ mTb := mt (i := 157) (by decide +kernel) rfl
theorem w_in1 : Cond.instantiable RX1 10 ∈ mTb := mt (i := 77) (by decide +kernel) rfl
theorem w_in2 : Cond.instantiable RX2 2 ∈ mTb := mt (i := 23) (by decide +kernel) rfl
theorem w_in3 : Cond.instantiable RX3 2 ∈ mTb := mt (i := 177) (by decide +kernel) rfl
theorem w_in4 : Cond.instantiable RX4 3 ∈ mTb := mt (i := 137) (by decide +kernel) rfl
theorem w_in5 : Cond.instantiable RX5 4 ∈ mTb := mt (i := 213) (by decide +kernel) rfl
theorem w_in6 : Cond.instantiable RX6 7 ∈ mTb := mt (i := 29) (by decide +kernel) rfl
theorem w_in7 : Cond.instantiable RX7 5 ∈ mTb := mt (i := 190) (by decide +kernel) rfl
theorem w_in8 : Cond.instantiable RX8 13 ∈ mTb := mt (i := 15) (by decide +kernel) rfl
theorem w_in9 : Cond.instantiable RX9 26 ∈ mTb := mt (i := 797) (by decide +kernel) rfl
theorem w_ck7 : Cond.classLink R_law 7 RX8 ∈ mTb := mt (i := 14) (by decide +kernel) rfl
theorem w_ck10 : Cond.classLink R_law 10 RX9 ∈ mTb := mt (i := 796) (by decide +kernel) rfl
theorem w_lk9 : Cond.methodLink R_law 9 yX8_init ∈ mTb := mt (i := 16) (by decide +kernel) rfl
theorem w_imX8 : Cond.instanceMethod yX8_init ∈ mTb := mt (i := 17) (by decide +kernel) rfl
theorem w_okX8 : mOk mX8_init 0 := ⟨by decide +kernel, by decide, mt (i := 18) (by decide +kernel) rfl, mt (i := 1) (by decide +kernel) rfl⟩
theorem w_lk12 : Cond.methodLink R_law 12 yX9_init ∈ mTb := mt (i := 798) (by decide +kernel) rfl
theorem w_imX9 : Cond.instanceMethod yX9_init ∈ mTb := mt (i := 799) (by decide +kernel) rfl
theorem w_okX9 : mOk mX9_init 0 := ⟨by decide +kernel, by decide, mt (i := 800) (by decide +kernel) rfl, mt (i := 10) (by decide +kernel) rfl⟩
theorem st_F {args : Array Value} {s : State} {A : Nat → Prop} (hs : ∀ c ∈ flatC (Jvm.Cond.and given_1 narrow_1), c.before args s = true) (hts : ∀ w ∈ lw_tbl, w.before args s = true) (hini : (Cond.initialized "TwoViews$Answers").before args s = true) (hA : ∀ a : Nat, a < s.heap.size → ¬ A a) : ∃ t : Nat, va_Z "TwoViews$Answers" "FIRST_WITH_YES" "[I" (.ref t) A s s.heap ∧ va_T .int t 7 (fun j => .int (mFirst j)) A s s.heap := by
  have e0 := va_eqt (hs (Cond.eq (.elem (.static "TwoViews$Answers" "FIRST_WITH_YES" "[I") (.int 0)) (.int 0)) (by decide +kernel))
  have e1 := va_eqt (hs (Cond.eq (.elem (.static "TwoViews$Answers" "FIRST_WITH_YES" "[I") (.int 1)) (.int 1)) (by decide +kernel))
  have e2 := va_eqt (hs (Cond.eq (.elem (.static "TwoViews$Answers" "FIRST_WITH_YES" "[I") (.int 2)) (.int 6)) (by decide +kernel))
  have e3 := va_eqt (hs (Cond.eq (.elem (.static "TwoViews$Answers" "FIRST_WITH_YES" "[I") (.int 3)) (.int 16)) (by decide +kernel))
  have e4 := va_eqt (hs (Cond.eq (.elem (.static "TwoViews$Answers" "FIRST_WITH_YES" "[I") (.int 4)) (.int 26)) (by decide +kernel))
  have e5 := va_eqt (hs (Cond.eq (.elem (.static "TwoViews$Answers" "FIRST_WITH_YES" "[I") (.int 5)) (.int 31)) (by decide +kernel))
  have e6 := va_eqt (hs (Cond.eq (.elem (.static "TwoViews$Answers" "FIRST_WITH_YES" "[I") (.int 6)) (.int 32)) (by decide +kernel))
  obtain ⟨t, h1, h2⟩ := va_Tof (A := A) (tm := (.static "TwoViews$Answers" "FIRST_WITH_YES" "[I")) (ty := .int) (N := 7) (f := fun j => .int (mFirst j)) (by decide) (hs (Cond.arrayOf (.static "TwoViews$Answers" "FIRST_WITH_YES" "[I") .int) (by decide +kernel)) (va_eqt (hs (Cond.eq (.length (.static "TwoViews$Answers" "FIRST_WITH_YES" "[I")) (.int 7)) (by decide +kernel))) (fun j hj => by
    match j, hj with
    | 0, _ => exact e0
    | 1, _ => exact e1
    | 2, _ => exact e2
    | 3, _ => exact e3
    | 4, _ => exact e4
    | 5, _ => exact e5
    | 6, _ => exact e6
    | j + 7, hj => omega) hA
  exact ⟨t, va_Zof (hts _ (List.mem_append_right _ w_ls_FIRST_WITH_YES)) hini h1 hA, h2⟩
theorem st_R {args : Array Value} {s : State} {A : Nat → Prop} (hs : ∀ c ∈ flatC (Jvm.Cond.and given_1 narrow_1), c.before args s = true) (hts : ∀ w ∈ lw_tbl, w.before args s = true) (hini : (Cond.initialized "TwoViews$Answers").before args s = true) (hA : ∀ a : Nat, a < s.heap.size → ¬ A a) : ∃ t : Nat, va_Z "TwoViews$Answers" "ROWS_BY_YES" "[I" (.ref t) A s s.heap ∧ va_T .int t 32 (fun j => .int (mRows j)) A s s.heap := by
  have e0 := va_eqt (hs (Cond.eq (.elem (.static "TwoViews$Answers" "ROWS_BY_YES" "[I") (.int 0)) (.int 0)) (by decide +kernel))
  have e1 := va_eqt (hs (Cond.eq (.elem (.static "TwoViews$Answers" "ROWS_BY_YES" "[I") (.int 1)) (.int 1)) (by decide +kernel))
  have e2 := va_eqt (hs (Cond.eq (.elem (.static "TwoViews$Answers" "ROWS_BY_YES" "[I") (.int 2)) (.int 2)) (by decide +kernel))
  have e3 := va_eqt (hs (Cond.eq (.elem (.static "TwoViews$Answers" "ROWS_BY_YES" "[I") (.int 3)) (.int 4)) (by decide +kernel))
  have e4 := va_eqt (hs (Cond.eq (.elem (.static "TwoViews$Answers" "ROWS_BY_YES" "[I") (.int 4)) (.int 8)) (by decide +kernel))
  have e5 := va_eqt (hs (Cond.eq (.elem (.static "TwoViews$Answers" "ROWS_BY_YES" "[I") (.int 5)) (.int 16)) (by decide +kernel))
  have e6 := va_eqt (hs (Cond.eq (.elem (.static "TwoViews$Answers" "ROWS_BY_YES" "[I") (.int 6)) (.int 3)) (by decide +kernel))
  have e7 := va_eqt (hs (Cond.eq (.elem (.static "TwoViews$Answers" "ROWS_BY_YES" "[I") (.int 7)) (.int 5)) (by decide +kernel))
  have e8 := va_eqt (hs (Cond.eq (.elem (.static "TwoViews$Answers" "ROWS_BY_YES" "[I") (.int 8)) (.int 6)) (by decide +kernel))
  have e9 := va_eqt (hs (Cond.eq (.elem (.static "TwoViews$Answers" "ROWS_BY_YES" "[I") (.int 9)) (.int 9)) (by decide +kernel))
  have e10 := va_eqt (hs (Cond.eq (.elem (.static "TwoViews$Answers" "ROWS_BY_YES" "[I") (.int 10)) (.int 10)) (by decide +kernel))
  have e11 := va_eqt (hs (Cond.eq (.elem (.static "TwoViews$Answers" "ROWS_BY_YES" "[I") (.int 11)) (.int 12)) (by decide +kernel))
  have e12 := va_eqt (hs (Cond.eq (.elem (.static "TwoViews$Answers" "ROWS_BY_YES" "[I") (.int 12)) (.int 17)) (by decide +kernel))
  have e13 := va_eqt (hs (Cond.eq (.elem (.static "TwoViews$Answers" "ROWS_BY_YES" "[I") (.int 13)) (.int 18)) (by decide +kernel))
  have e14 := va_eqt (hs (Cond.eq (.elem (.static "TwoViews$Answers" "ROWS_BY_YES" "[I") (.int 14)) (.int 20)) (by decide +kernel))
  have e15 := va_eqt (hs (Cond.eq (.elem (.static "TwoViews$Answers" "ROWS_BY_YES" "[I") (.int 15)) (.int 24)) (by decide +kernel))
  have e16 := va_eqt (hs (Cond.eq (.elem (.static "TwoViews$Answers" "ROWS_BY_YES" "[I") (.int 16)) (.int 7)) (by decide +kernel))
  have e17 := va_eqt (hs (Cond.eq (.elem (.static "TwoViews$Answers" "ROWS_BY_YES" "[I") (.int 17)) (.int 11)) (by decide +kernel))
  have e18 := va_eqt (hs (Cond.eq (.elem (.static "TwoViews$Answers" "ROWS_BY_YES" "[I") (.int 18)) (.int 13)) (by decide +kernel))
  have e19 := va_eqt (hs (Cond.eq (.elem (.static "TwoViews$Answers" "ROWS_BY_YES" "[I") (.int 19)) (.int 14)) (by decide +kernel))
  have e20 := va_eqt (hs (Cond.eq (.elem (.static "TwoViews$Answers" "ROWS_BY_YES" "[I") (.int 20)) (.int 19)) (by decide +kernel))
  have e21 := va_eqt (hs (Cond.eq (.elem (.static "TwoViews$Answers" "ROWS_BY_YES" "[I") (.int 21)) (.int 21)) (by decide +kernel))
  have e22 := va_eqt (hs (Cond.eq (.elem (.static "TwoViews$Answers" "ROWS_BY_YES" "[I") (.int 22)) (.int 22)) (by decide +kernel))
  have e23 := va_eqt (hs (Cond.eq (.elem (.static "TwoViews$Answers" "ROWS_BY_YES" "[I") (.int 23)) (.int 25)) (by decide +kernel))
  have e24 := va_eqt (hs (Cond.eq (.elem (.static "TwoViews$Answers" "ROWS_BY_YES" "[I") (.int 24)) (.int 26)) (by decide +kernel))
  have e25 := va_eqt (hs (Cond.eq (.elem (.static "TwoViews$Answers" "ROWS_BY_YES" "[I") (.int 25)) (.int 28)) (by decide +kernel))
  have e26 := va_eqt (hs (Cond.eq (.elem (.static "TwoViews$Answers" "ROWS_BY_YES" "[I") (.int 26)) (.int 15)) (by decide +kernel))
  have e27 := va_eqt (hs (Cond.eq (.elem (.static "TwoViews$Answers" "ROWS_BY_YES" "[I") (.int 27)) (.int 23)) (by decide +kernel))
  have e28 := va_eqt (hs (Cond.eq (.elem (.static "TwoViews$Answers" "ROWS_BY_YES" "[I") (.int 28)) (.int 27)) (by decide +kernel))
  have e29 := va_eqt (hs (Cond.eq (.elem (.static "TwoViews$Answers" "ROWS_BY_YES" "[I") (.int 29)) (.int 29)) (by decide +kernel))
  have e30 := va_eqt (hs (Cond.eq (.elem (.static "TwoViews$Answers" "ROWS_BY_YES" "[I") (.int 30)) (.int 30)) (by decide +kernel))
  have e31 := va_eqt (hs (Cond.eq (.elem (.static "TwoViews$Answers" "ROWS_BY_YES" "[I") (.int 31)) (.int 31)) (by decide +kernel))
  obtain ⟨t, h1, h2⟩ := va_Tof (A := A) (tm := (.static "TwoViews$Answers" "ROWS_BY_YES" "[I")) (ty := .int) (N := 32) (f := fun j => .int (mRows j)) (by decide) (hs (Cond.arrayOf (.static "TwoViews$Answers" "ROWS_BY_YES" "[I") .int) (by decide +kernel)) (va_eqt (hs (Cond.eq (.length (.static "TwoViews$Answers" "ROWS_BY_YES" "[I")) (.int 32)) (by decide +kernel))) (fun j hj => by
    match j, hj with
    | 0, _ => exact e0
    | 1, _ => exact e1
    | 2, _ => exact e2
    | 3, _ => exact e3
    | 4, _ => exact e4
    | 5, _ => exact e5
    | 6, _ => exact e6
    | 7, _ => exact e7
    | 8, _ => exact e8
    | 9, _ => exact e9
    | 10, _ => exact e10
    | 11, _ => exact e11
    | 12, _ => exact e12
    | 13, _ => exact e13
    | 14, _ => exact e14
    | 15, _ => exact e15
    | 16, _ => exact e16
    | 17, _ => exact e17
    | 18, _ => exact e18
    | 19, _ => exact e19
    | 20, _ => exact e20
    | 21, _ => exact e21
    | 22, _ => exact e22
    | 23, _ => exact e23
    | 24, _ => exact e24
    | 25, _ => exact e25
    | 26, _ => exact e26
    | 27, _ => exact e27
    | 28, _ => exact e28
    | 29, _ => exact e29
    | 30, _ => exact e30
    | 31, _ => exact e31
    | j + 32, hj => omega) hA
  exact ⟨t, va_Zof (hts _ (List.mem_append_right _ w_ls_ROWS_BY_YES)) hini h1 hA, h2⟩
theorem st_U {args : Array Value} {s : State} {A : Nat → Prop} (hs : ∀ c ∈ flatC (Jvm.Cond.and given_1 narrow_1), c.before args s = true) (hts : ∀ w ∈ lw_tbl, w.before args s = true) (hini : (Cond.initialized "TwoViews").before args s = true) (hA : ∀ a : Nat, a < s.heap.size → ¬ A a) : ∃ t : Nat, va_Z "TwoViews" "DOING_UNITS" "[J" (.ref t) A s s.heap ∧ va_T .long t 4 (fun j => .long (mUnits j)) A s s.heap := by
  have e0 := va_eqtl (hs (Cond.eq (.elem (.static "TwoViews" "DOING_UNITS" "[J") (.int 0)) (.long 1)) (by decide +kernel))
  have e1 := va_eqtl (hs (Cond.eq (.elem (.static "TwoViews" "DOING_UNITS" "[J") (.int 1)) (.long 100000)) (by decide +kernel))
  have e2 := va_eqtl (hs (Cond.eq (.elem (.static "TwoViews" "DOING_UNITS" "[J") (.int 2)) (.long 10000000000)) (by decide +kernel))
  have e3 := va_eqtl (hs (Cond.eq (.elem (.static "TwoViews" "DOING_UNITS" "[J") (.int 3)) (.long 1000000000000000)) (by decide +kernel))
  obtain ⟨t, h1, h2⟩ := va_Tof (A := A) (tm := (.static "TwoViews" "DOING_UNITS" "[J")) (ty := .long) (N := 4) (f := fun j => .long (mUnits j)) (by decide) (hs (Cond.arrayOf (.static "TwoViews" "DOING_UNITS" "[J") .long) (by decide +kernel)) (va_eqt (hs (Cond.eq (.length (.static "TwoViews" "DOING_UNITS" "[J")) (.int 4)) (by decide +kernel))) (fun j hj => by
    match j, hj with
    | 0, _ => exact e0
    | 1, _ => exact e1
    | 2, _ => exact e2
    | 3, _ => exact e3
    | j + 4, hj => omega) hA
  exact ⟨t, va_Zof (hts _ (List.mem_append_right _ w_ls_DOING_UNITS)) hini h1 hA, h2⟩
section GW
variable {p : Program} {l : Launch} {e : Env} {R : Room} {s : State} {m : MethodId} {args : Array Value} {below : List Frame} {meth : Method} {c : Code} {H : Heap} {locs : List Loc} {cells slots : Nat} {Q : State → Prop}
variable {cc : ByteArray} {pc : Nat} {ls : Array Slot} {st : List Value} {g : mG} {n : Nat} {S : mB} {h : mH} {own : String}
theorem gw_new {ci i : Nat} {C : String} {T : u_T} {ty : Nat → FieldType} (hx : p.tables.exec = Jvm.exec) (hb : c.code = cc) (hown : s.vm.findClass own = some m.cls) (hts : ∀ w ∈ mTb, w.before args s = true) (Sn : mSn g s s.heap) (P : va_P g.1 vwCl (mWs g n S h) H) (Z : H.size = mad g n) (F : va_S (mA g) s.heap H locs) (hC : mCl ci C T) (hty : ∀ k, k < mNf ci → parseFieldDescriptor (T k).2.2.1 = some (ty k)) (hdv : ∀ j, j < mNf ci → defaultValue (ty j) = mdv ci j) (hk : mk n = ci) (hF : mFr n S h) (h1 : Cond.classLink own i C ∈ mTb) (h3 : Cond.instantiable C (mNf ci) ∈ mTb) (h4 : Cond.initialized C ∈ mTb) (hd : decode cc pc = .ok (.new i, 3)) (hR : cells + 1 ≤ R.cells ∧ slots + mNf ci ≤ R.slots)
    (k : ∀ H1, va_P g.1 vwCl (mWs g (n + 1) S h) H1 → H1.size = mad g (n + 1) → va_S (mA g) s.heap H1 locs → W p l e R s m args below meth c H1 locs (cells + 1) (slots + mNf ci) Q (F0 m (pc + 3) ls (.ref (mad g n) :: st))) : W p l e R s m args below meth c H locs cells slots Q (F0 m pc ls st) := by
  have ha := Sn.2.2.1
  have hKn := Sn.1.1.1 ci _ hC.2.1
  refine W.newcK hx hb hown (hts _ h1) (hts _ h3) (hts _ h4) rfl hd hR.1 hR.2 hKn.2.1 Z fun H1 kC hkC e1 z1 o1 => ?_
  refine k H1 (mWs_P ha P o1 ?_) (by rw [z1, ha (n + 1), ha n]; omega) (mS_grow F Z z1 o1)
  rw [mEs_obj hk hC.1]
  refine ⟨_, hC.2.1, (u_born ty hts hC.2.2 hKn hkC e1 hty).to fun j hj => ?_⟩
  rw [hdv j hj, ← mfs_dv (g := g) hF]
  simp [vp_V, mFS_at hj]
theorem gw_callI {y' : mD} {d' a i n3 mc ms nL : Nat} {S3 : mB} {h3 : mH} (hx : p.tables.exec = Jvm.exec) (hb : c.code = cc) (hml : c.maxLocals = nL) (hown : s.vm.findClass own = some m.cls) (hts : ∀ w ∈ mTb, w.before args s = true) (hls : ls.size = nL) (Sn : mSn g s s.heap) (P : va_P g.1 vwCl (mWs g n S h) H) (Z : H.size = mad g n) (F : va_S (mA g) s.heap H locs) (hM : mcn g l d' y' a n S h n3 S3 h3 mc ms) (hO : mOk y' 0) (hy : y'.1.name = "<init>") (hr : y'.2.2.2 = none) (hR : (mRc d' mc ms).frames + 1 ≤ R.frames ∧ 8 + (y'.2.2.1 + 11) + (mRc d' mc ms).locals ≤ R.locals) (hRc : cells + mc ≤ R.cells ∧ slots + ms ≤ R.slots)
    (h1 : Cond.methodLink own i y'.1 ∈ mTb) (h4 : Cond.instanceMethod y'.1 ∈ mTb) (hd : decode cc pc = .ok (.invokespecial i, 3)) (hroom : (st.map fun v => v.category).sum ≤ 8)
    (kk : ∀ (H1 : Heap) (locs1 : List Loc), va_P g.1 vwCl (mWs g n3 S3 h3) H1 → H1.size = mad g n3 → va_S (mA g) s.heap H1 locs1 → W p l e R s m args below meth c H1 locs1 (cells + mc) (slots + ms) Q (F0 m (pc + 3) ls st)) : W p l e R s m args below meth c H locs cells slots Q (F0 m pc ls (.ref (mad g a) :: st)) := by
  obtain ⟨y1, yc, yl, yr⟩ := y'
  obtain rfl : yr = none := hr
  have run := va_runI (p := p) (e := e) (below := below) (meth := meth) (locs := locs) (cells := cells) (slots := slots) (R := R) (g := F0 m pc ls (.ref (mad g a) :: st)) (As := []) (rest := st) (H := H) (b := mad g a) ⟨hx, hb, hml, hown, hts⟩ hM (cwI 0 hts (mGood hO.2.2.1) rfl rfl rfl (hts _ hO.2.2.2) (hts _ h1) (hts _ h4) hy hO.1 hR) (mPreN Sn P Z F) rfl rfl hls rfl (lv_room hroom) hd hRc
  intro T hT X
  obtain ⟨v, st₀, t, T', L, h0, X', hL, e1, e2, ⟨hv, hP1, hz1, hz, hq⟩, stp⟩ := run T hT X
  cases hv
  rw [h0] at hz hq
  rw [← e1] at hP1 hz1 hz hq
  have F' : va_S (mA g) s.heap T'.heap (locs ++ L) := by
    refine ⟨Nat.le_trans F.1 hz, fun q h1 h2 => ?_, fun q hm => ?_⟩
    · rw [hq q (Nat.lt_of_lt_of_le h1 F.1) h2]
      exact F.2.1 q h1 h2
    · rcases List.mem_append.mp hm with hm | hm
      · exact F.2.2 q hm
      · exact hL q hm
  obtain ⟨t2, a1, b1⟩ := kk T'.heap (locs ++ L) hP1 hz1 F' T' rfl X'
  exact ⟨t2, stp t2 a1, b1⟩
end GW
set_option maxRecDepth 20000 in
set_option maxHeartbeats 4000000 in
theorem whole_pure {N : Nat} (hN : pureOK N) {p : Program} {e : Env} {s : State} {m : MethodId} {below : List Frame} {meth : Method} {c : Code} (l : Launch) {b L : Nat} {xs : Nat → Int32} (hL : L ≤ 2560) (C0 : lw_At p s m meth c b L xs) : W p l e room_1 s m #[Value.ref b] below meth c s.heap [] 0 0 (lw_Z below #[Value.ref b] s) (entryFrame m ([Value.ref b] : List Value).toArray 4) := by
  obtain ⟨hx, hb, hr, hml, hown, hts, hX, hbl, hlocks, hgv⟩ := id C0
  obtain ⟨h3, Inv, hset, hzz, hinv, hstep⟩ := hN
  have hm := lw_mtb C0
  obtain ⟨c0, iS0, hKn0⟩ := u_known (C := RX0) (T := TX0) (N := 3) (n := 3) hm inT0 (hm _ w_in0)
  obtain ⟨c1, iS1, hKn1⟩ := u_known (C := RX1) (T := TX1) (N := 10) (n := 10) hm inT1 (hm _ w_in1)
  obtain ⟨c2, iS2, hKn2⟩ := u_known (C := RX2) (T := TX2) (N := 2) (n := 2) hm inT2 (hm _ w_in2)
  obtain ⟨c3, iS3, hKn3⟩ := u_known (C := RX3) (T := TX3) (N := 2) (n := 2) hm inT3 (hm _ w_in3)
  obtain ⟨c4, iS4, hKn4⟩ := u_known (C := RX4) (T := TX4) (N := 3) (n := 3) hm inT4 (hm _ w_in4)
  obtain ⟨c5, iS5, hKn5⟩ := u_known (C := RX5) (T := TX5) (N := 4) (n := 4) hm inT5 (hm _ w_in5)
  obtain ⟨c6, iS6, hKn6⟩ := u_known (C := RX6) (T := TX6) (N := 7) (n := 7) hm inT6 (hm _ w_in6)
  obtain ⟨c7, iS7, hKn7⟩ := u_known (C := RX7) (T := TX7) (N := 5) (n := 5) hm inT7 (hm _ w_in7)
  obtain ⟨c8, iS8, hKn8⟩ := u_known (C := RX8) (T := TX8) (N := 13) (n := 13) hm inT8 (hm _ w_in8)
  obtain ⟨c9, iS9, hKn9⟩ := u_known (C := RX9) (T := TX9) (N := 26) (n := 26) hm inT9 (hm _ w_in9)
  obtain ⟨dC, dI, hKc⟩ : ∃ (dC : Nat → ClassId) (dI : Nat → Nat → Nat), ∀ (k : Nat) (q : vw_C), vwCl[k]? = some q → u_Kn s q.1 q.2.1 q.2.2 (dC k) (dI k) := by
    refine ⟨fun k => match k with | 0 => c0 | 1 => c1 | 2 => c2 | 3 => c3 | 4 => c4 | 5 => c5 | 6 => c6 | 7 => c7 | 8 => c8 | _ => c9, fun k => match k with | 0 => iS0 | 1 => iS1 | 2 => iS2 | 3 => iS3 | 4 => iS4 | 5 => iS5 | 6 => iS6 | 7 => iS7 | 8 => iS8 | _ => iS9, ?_⟩
    intro k q hq
    match k, hq with
    | 0, hq => cases hq; exact hKn0
    | 1, hq => cases hq; exact hKn1
    | 2, hq => cases hq; exact hKn2
    | 3, hq => cases hq; exact hKn3
    | 4, hq => cases hq; exact hKn4
    | 5, hq => cases hq; exact hKn5
    | 6, hq => cases hq; exact hKn6
    | 7, hq => cases hq; exact hKn7
    | 8, hq => cases hq; exact hKn8
    | 9, hq => cases hq; exact hKn9
    | k + 10, hq => simp [vwCl] at hq
  obtain ⟨cI, i1, i2⟩ := arr_of (hm _ ac_int) (fun C h => by cases h)
  obtain ⟨cZ, z1, z2⟩ := arr_of (hm _ ac_bool) (fun C h => by cases h)
  have hAO : va_AO "TwoViews$Sheet" s := va_AO.of (hts _ (List.mem_append_right _ w_ao))
  obtain ⟨cS, s1, s2⟩ := arr_ofS hAO
  have hs := flat_of_before _ hgv
  have hA0 : ∀ a : Nat, a < s.heap.size → ¬ (fun q : Nat => s.heap.size ≤ q) a := fun a h => Nat.not_le.mpr h
  obtain ⟨t1, f1, f2⟩ := st_F hs hts (hm (Cond.initialized "TwoViews$Answers") ini_X1) hA0
  obtain ⟨t2, g1, g2⟩ := st_R hs hts (hm (Cond.initialized "TwoViews$Answers") ini_X1) hA0
  obtain ⟨t3, k1, k2⟩ := st_U hs hts (hm (Cond.initialized "TwoViews") w_okX8.2.2.2) hA0
  obtain ⟨g, hge⟩ : ∃ g : mG, g = ((dC, dI), (cI, cZ, cS), (fun i => s.heap.size + i), 101, (t1, t2, t3)) := ⟨_, rfl⟩
  have hgn : mnn g = 101 := by rw [hge]
  have hgad : ∀ i, mad g i = s.heap.size + i := fun i => by rw [hge]
  have hAg : ∀ q, mA g q → s.heap.size ≤ q := fun q ⟨i, _, hi⟩ => by rw [hi, hgad]; omega
  have hSt : mSt g s s.heap := by
    refine ⟨⟨?_, ?_⟩, ?_, ?_, ?_⟩
    · rw [hge]; exact hKc
    · rw [hge]
      intro k q hq
      match k, hq with
      | 0, hq => cases hq; exact ⟨i1, i2⟩
      | 1, hq => cases hq; exact ⟨z1, z2⟩
      | 2, hq => cases hq; exact ⟨s1, s2⟩
      | k + 3, hq => simp [mTys] at hq
    · intro i j _ _ hij
      rw [hgad, hgad] at hij
      omega
    · exact fun a i x hh hmem => va_Nw.of rfl (hts _ (List.mem_append_right _ hmem))
    · have f1 := f1.narrow hAg
      have f2 := f2.narrow hAg
      have g1 := g1.narrow hAg
      have g2 := g2.narrow hAg
      have k1 := k1.narrow hAg
      have k2 := k2.narrow hAg
      rw [hge] at f1 f2 g1 g2 k1 k2 ⊢
      exact ⟨⟨f1, f2⟩, ⟨g1, g2⟩, k1, k2⟩
  have Sn : mSn g s s.heap := ⟨hSt, hAO, fun i => by rw [hgad, hgad]; omega, hgn⟩
  have hl := lv_entry ([.ref b]) (n := 4) (Nat.le_of_ble_eq_true rfl)
  rw [lg_entry_eq]
  generalize (lg_sl ([.ref b]) ++ List.replicate (4 - (lg_sl ([.ref b])).length) Slot.unset).toArray = ls at hl ⊢
  have hl : lv_has ls 4 [(0, .ref b)] := hl
  have P0 : va_P g.1 vwCl (mWs g 0 (fun _ _ => false) mz0) s.heap := fun k q h => by simp [mWs] at h
  refine gw_new (ci := 8) (cells := 0) (slots := 0) hx hb hown hm Sn P0 (by rw [hgad]; rfl) va_S.rf cl8 tyX8_ok dv8 rfl (frz 0) w_ck7 w_in8 w_okX8.2.2.2 dL_law_0 ⟨Nat.le_of_ble_eq_true rfl, Nat.le_of_ble_eq_true rfl⟩ (fun H1 P1 Z1 F1 => ?_)
  refine lv_dup hx hb dL_law_3 rfl ?_
  refine gw_callI hx hb hml hown hm hl.1 Sn P1 Z1 F1 (k_8 g l N mz0 h3 (frz 1) hset) w_okX8 rfl rfl ⟨Nat.le_of_ble_eq_true rfl, Nat.le_of_ble_eq_true rfl⟩ ⟨Nat.le_of_ble_eq_true rfl, Nat.le_of_ble_eq_true rfl⟩ w_lk9 w_imX8 dL_law_4 (Nat.le_of_ble_eq_true rfl) (fun H2 locs2 P2 Z2 F2 => ?_)
  refine lv_astore_n (lv' := [(1, .ref (mad g 0)), (0, .ref b)]) hx hb dL_law_7 rfl hl (by decide) rfl (fun ls hl => ?_)
  have hF82 : mFr 82 (kS8 (fun _ _ => false)) h3 := fun i hi => ⟨(hzz i hi).1, (hzz i hi).2, (fr_8 (fun _ _ => false) mz0 (frz 1) i hi).2.2⟩
  refine gw_new (ci := 9) hx hb hown hm Sn P2 Z2 F2 cl9 tyX9_ok dv9 rfl hF82 w_ck10 w_in9 w_okX9.2.2.2 dL_law_8 ⟨Nat.le_of_ble_eq_true rfl, Nat.le_of_ble_eq_true rfl⟩ (fun H3 P3 Z3 F3 => ?_)
  refine lv_dup hx hb dL_law_11 rfl ?_
  refine gw_callI hx hb hml hown hm hl.1 Sn P3 Z3 F3 (k_9 g l _ _ (mFr_n hF82 (by decide))) w_okX9 rfl rfl ⟨Nat.le_of_ble_eq_true rfl, Nat.le_of_ble_eq_true rfl⟩ ⟨Nat.le_of_ble_eq_true rfl, Nat.le_of_ble_eq_true rfl⟩ w_lk12 w_imX9 dL_law_12 (Nat.le_of_ble_eq_true rfl) (fun H4 locs4 P4 Z4 F4 => ?_)
  refine lv_astore_n (lv' := [(2, .ref (mad g 82)), (1, .ref (mad g 0)), (0, .ref b)]) hx hb dL_law_15 rfl hl (by decide) rfl (fun ls hl => ?_)
  refine lv_iconst (v := 0) hx hb dL_law_16 (by decide) ?_
  refine lv_istore_n (lv' := [(3, .int 0), (2, .ref (mad g 82)), (1, .ref (mad g 0)), (0, .ref b)]) hx hb dL_law_17 rfl hl (by decide) rfl (fun ls hl => ?_)
  have hP : va_P g.1 vwCl (mWd g (kH9 h3)) H4 := by
    have e : mgn g 101 = g := by rw [hge]; rfl
    have := (mWs_full full_9).mp P4
    rw [e] at this
    exact this
  have F5 : va_S (fun q => s.heap.size ≤ q) s.heap H4 locs4 := ⟨F4.1, fun q h1 h2 => F4.2.1 q h1 (fun z => h2 (hAg q z)), fun q hq => hAg _ (F4.2.2 q hq)⟩
  exact law_loop hgn N hL Inv hstep (L + 1) 0 0 rfl (Nat.zero_le L) (by omega) _ hinv p e s m below meth c H4 locs4 ls C0 hSt (fun i => by rw [hgad]; omega) hP F5 (lv_sub hl [3, 2, 1, 0] rfl)
