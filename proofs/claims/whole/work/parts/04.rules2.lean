/-- a cell that is there, of a kind -/
def mkn (g : mG) (a c : Nat) : Prop := a < mnn g ∧ mk a = c
def vwN : List Nat := [3, 10, 2, 2, 3, 4, 7, 5, 13, 26]
theorem mEn_obj {g : mG} {h : mH} {a c : Nat} (ha : mk a = c) (hc : c < 10) : mEn g h a = .inr (c, mFs g h a c) := by
  subst ha
  simp [mEn, hc]
theorem mEn_int {g : mG} {h : mH} {a N : Nat} (ha : mk a = 100 + N) : mEn g h a = .inl (g.2.1.1, N, .inl (mgi h a)) := by
  unfold mEn
  rw [ha, if_neg (by omega), if_neg (by omega), if_neg (by omega), if_neg (by omega)]
  congr 2
  rw [Nat.add_sub_cancel_left]
theorem mEn_bool {g : mG} {h : mH} {a : Nat} (ha : mk a = 50) : mEn g h a = .inl (g.2.1.2.1, 2, .inl (mgi h a)) := by simp [mEn, ha]
theorem mEn_60 {g : mG} {h : mH} {a : Nat} (ha : mk a = 60) : mEn g h a = .inl (g.2.1.2.2, 14, .inr (.inr (.inr (.inr fun j => some (mad g (22 + 3 * j)))))) := by simp [mEn, ha]
theorem mEn_61 {g : mG} {h : mH} {a : Nat} (ha : mk a = 61) : mEn g h a = .inl (g.2.1.2.2, 2, .inr (.inr (.inr (.inr fun j => some (mad g (76 + 3 * j)))))) := by simp [mEn, ha]
theorem mWd_obj {g : mG} {h : mH} {a c : Nat} (ha : mkn g a c) (hc : c < 10) : (mWd g h)[a]? = some (mad g a, .inr (c, mFs g h a c)) := by rw [mWd_at ha.1, mEn_obj ha.2 hc]
theorem mWd_int {g : mG} {h : mH} {a N : Nat} (ha : mkn g a (100 + N)) : (mWd g h)[a]? = some (mad g a, .inl (g.2.1.1, N, .inl (mgi h a))) := by rw [mWd_at ha.1, mEn_int ha.2]
theorem mWd_bool {g : mG} {h : mH} {a : Nat} (ha : mkn g a 50) : (mWd g h)[a]? = some (mad g a, .inl (g.2.1.2.1, 2, .inl (mgi h a))) := by rw [mWd_at ha.1, mEn_bool ha.2]
theorem mWd_60 {g : mG} {h : mH} {a : Nat} (ha : mkn g a 60) : (mWd g h)[a]? = some (mad g a, .inl (g.2.1.2.2, 14, .inr (.inr (.inr (.inr fun j => some (mad g (22 + 3 * j))))))) := by rw [mWd_at ha.1, mEn_60 ha.2]
theorem mWd_61 {g : mG} {h : mH} {a : Nat} (ha : mkn g a 61) : (mWd g h)[a]? = some (mad g a, .inl (g.2.1.2.2, 2, .inr (.inr (.inr (.inr fun j => some (mad g (76 + 3 * j))))))) := by rw [mWd_at ha.1, mEn_61 ha.2]
theorem mfv_int {g : mG} {h : mH} {a c k : Nat} (hk : mfk c k = 0) : mfv g h a c k = .int (mgi h a k) := by unfold mfv; rw [hk]
theorem mfv_long {g : mG} {h : mH} {a c k : Nat} (hk : mfk c k = 1) : mfv g h a c k = .long (mgl h a k) := by unfold mfv; rw [hk]
theorem mfv_ref {g : mG} {h : mH} {a c k t : Nat} (hk : mfk c k = t + 2) : mfv g h a c k = .ref (mad g (a + t)) := by unfold mfv; rw [hk]
theorem mEn_setI {g : mG} {h : mH} {a c k : Nat} {v : Int32} (ha : mk a = c) (hc : c < 10) (hk : mfk c k = 0) : Sum.inr (c, (mFs g h a c).set k (.int v)) = mEn g (msi h a k v) a := by
  have e := mFs_set (g := g) (h := h) (h' := msi h a k v) (i := a) (c := c) (k := k) (fun j hj => by
    unfold mfv
    split
    · rw [mgi_msi, if_neg (fun q => hj q.2)]
    · rfl
    · rfl)
  rw [mfv_int hk, mgi_msi, if_pos ⟨rfl, rfl⟩] at e
  rw [mEn_obj ha hc, e]
theorem mEn_setL {g : mG} {h : mH} {a c k : Nat} {v : Int64} (ha : mk a = c) (hc : c < 10) (hk : mfk c k = 1) : Sum.inr (c, (mFs g h a c).set k (.long v)) = mEn g (msl h a k v) a := by
  have e := mFs_set (g := g) (h := h) (h' := msl h a k v) (i := a) (c := c) (k := k) (fun j hj => by
    unfold mfv
    split
    · rfl
    · rw [mgl_msl, if_neg (fun q => hj q.2)]
    · rfl)
  rw [mfv_long hk, mgl_msl, if_pos ⟨rfl, rfl⟩] at e
  rw [mEn_obj ha hc, e]
/-- a class of ours, with what the tables say of it -/
def mCl (ci : Nat) (C : String) (T : u_T) : Prop := ci < 10 ∧ vwCl[ci]? = some (C, T, mNf ci) ∧ (∀ w ∈ u_ws C T (mNf ci), w ∈ mTb)
def mCt (T : u_T) (ci : Nat) : Prop := ∃ ty0 : Nat → FieldType, (∀ k, k < mNf ci → parseFieldDescriptor (T k).2.2.1 = some (ty0 k)) ∧ (∀ a, a < mNf ci → ∀ b, b < mNf ci → a ≠ b → (T a).2.1 ≠ (T b).2.1)
section MF
variable {g : mG} {l : Launch} {d : Nat} {y : mD} {β : Type} {em : β → Option Value × mH} {pc n : Nat} {lv : List (Nat × Value)} {st : List Value} {h : mH} {o : Option β}
theorem mw_get {ci a k i : Nat} {C : String} {T : u_T} (hC : mCl ci C T) (ha : mkn g a ci) (hk : k < mNf ci) (hT : (T k).1 = C) (hL : Cond.fieldLink y.1.cls i C (T k).2.1 (T k).2.2.1 ∈ mTb) (hd : decode y.2.1 pc = .ok (.getfield i, 3)) (hn : pc + 3 = n) {v : Value} (hv : mfv g h a ci k = v) (kk : mw g l d y em n lv (v :: st) h o) : mw g l d y em pc lv (.ref (mad g a) :: st) h o := by
  subst hn
  intro b hb p e s m args below meth c H locs ls Cx S P F hl
  exact va_get Cx.1 Cx.2.1 Cx.2.2.2.2.2.2 hC.2.2 Cx.2.2.2.2.2.1 S.1 P a (mWd_obj ha hC.1) hC.2.1 k hk (Cx.2.2.2.2.2.2 _ hL) (fun x hx => by rw [← hT]; exact hx) (by rw [mFs_at hk, hv]) hd (kk b hb p e s m args below meth c H locs ls Cx S P F hl)
theorem mw_geti {ci a k i : Nat} {C : String} {T : u_T} (hC : mCl ci C T) (ha : mkn g a ci) (hk : k < mNf ci) (hf : mfk ci k = 0) (hT : (T k).1 = C) (hL : Cond.fieldLink y.1.cls i C (T k).2.1 (T k).2.2.1 ∈ mTb) (hd : decode y.2.1 pc = .ok (.getfield i, 3)) (hn : pc + 3 = n) (kk : mw g l d y em n lv (.int (mgi h a k) :: st) h o) : mw g l d y em pc lv (.ref (mad g a) :: st) h o :=
  mw_get hC ha hk hT hL hd hn (mfv_int hf) kk
theorem mw_getl {ci a k i : Nat} {C : String} {T : u_T} (hC : mCl ci C T) (ha : mkn g a ci) (hk : k < mNf ci) (hf : mfk ci k = 1) (hT : (T k).1 = C) (hL : Cond.fieldLink y.1.cls i C (T k).2.1 (T k).2.2.1 ∈ mTb) (hd : decode y.2.1 pc = .ok (.getfield i, 3)) (hn : pc + 3 = n) (kk : mw g l d y em n lv (.long (mgl h a k) :: st) h o) : mw g l d y em pc lv (.ref (mad g a) :: st) h o :=
  mw_get hC ha hk hT hL hd hn (mfv_long hf) kk
theorem mw_getr {ci a k i t : Nat} {C : String} {T : u_T} (hC : mCl ci C T) (ha : mkn g a ci) (hk : k < mNf ci) (hf : mfk ci k = t + 2) (hT : (T k).1 = C) (hL : Cond.fieldLink y.1.cls i C (T k).2.1 (T k).2.2.1 ∈ mTb) (hd : decode y.2.1 pc = .ok (.getfield i, 3)) (hn : pc + 3 = n) (kk : mw g l d y em n lv (.ref (mad g (a + t)) :: st) h o) : mw g l d y em pc lv (.ref (mad g a) :: st) h o :=
  mw_get hC ha hk hT hL hd hn (mfv_ref hf) kk
theorem mw_puti {ci a k i : Nat} {C : String} {T : u_T} {v : Int32} (hC : mCl ci C T) (hCt : mCt T ci) (ha : mkn g a ci) (hk : k < mNf ci) (hf : mfk ci k = 0) (hT : (T k).1 = C) (hfin : (T k).2.2.2 = false) (hI : (T k).2.2.1 = "I") (hL : Cond.fieldLink y.1.cls i C (T k).2.1 (T k).2.2.1 ∈ mTb) (hd : decode y.2.1 pc = .ok (.putfield i, 3)) (hn : pc + 3 = n) (kk : mw g l d y em n lv st (msi h a k v) o) : mw g l d y em pc lv (.int v :: .ref (mad g a) :: st) h o := by
  subst hn
  intro b hb p e s m args below meth c H locs ls Cx S P F hl
  obtain ⟨ty0, h1, h2⟩ := hCt
  refine va_put Cx.1 Cx.2.1 Cx.2.2.2.2.2.2 hC.2.2 ty0 h1 h2 Cx.2.2.2.2.2.1 S.1 P (mWd_D S.2.1) F a (mWd_obj ha hC.1) hC.2.1 k hk (Cx.2.2.2.2.2.2 _ hL) (fun x hx => by rw [← hT]; exact hx) hfin (ty := .int) (by rw [hI]; decide +kernel) rfl rfl (by rw [mFs_len]; exact hk) hd (fun H1 locs1 P1 D1 F1 => ?_)
  rw [mWd_set (h' := msi h a k v) (mEn_setI ha.2 hC.1 hf) (fun j hj => mEn_ne hj k v)] at P1
  exact kk b hb p e s m args below meth c H1 locs1 ls Cx S P1 F1 hl
theorem mw_putl {ci a k i : Nat} {C : String} {T : u_T} {v : Int64} (hC : mCl ci C T) (hCt : mCt T ci) (ha : mkn g a ci) (hk : k < mNf ci) (hf : mfk ci k = 1) (hT : (T k).1 = C) (hfin : (T k).2.2.2 = false) (hI : (T k).2.2.1 = "J") (hL : Cond.fieldLink y.1.cls i C (T k).2.1 (T k).2.2.1 ∈ mTb) (hd : decode y.2.1 pc = .ok (.putfield i, 3)) (hn : pc + 3 = n) (kk : mw g l d y em n lv st (msl h a k v) o) : mw g l d y em pc lv (.long v :: .ref (mad g a) :: st) h o := by
  subst hn
  intro b hb p e s m args below meth c H locs ls Cx S P F hl
  obtain ⟨ty0, h1, h2⟩ := hCt
  refine va_put Cx.1 Cx.2.1 Cx.2.2.2.2.2.2 hC.2.2 ty0 h1 h2 Cx.2.2.2.2.2.1 S.1 P (mWd_D S.2.1) F a (mWd_obj ha hC.1) hC.2.1 k hk (Cx.2.2.2.2.2.2 _ hL) (fun x hx => by rw [← hT]; exact hx) hfin (ty := .long) (by rw [hI]; decide +kernel) rfl rfl (by rw [mFs_len]; exact hk) hd (fun H1 locs1 P1 D1 F1 => ?_)
  rw [mWd_set (h' := msl h a k v) (mEn_setL ha.2 hC.1 hf) (fun j hj => mEn_neL hj k v)] at P1
  exact kk b hb p e s m args below meth c H1 locs1 ls Cx S P1 F1 hl
/-- an index that is looked at -/
def mck (i : Int32) (N : Nat) (k : Option β) : Option β := if i < 0 ∨ N ≤ i.toNatClampNeg then none else k
theorem mck_ok {i : Int32} {N : Nat} {k : Option β} (hi : vp_in i N) : mck i N k = k := if_neg hi
theorem mw_iald' {a N : Nat} {i : Int32} (ha : mkn g a (100 + N)) (hi : vp_in i N) (hd : decode y.2.1 pc = .ok (.iaload, 1)) (hn : pc + 1 = n) (kk : mw g l d y em n lv (.int (mgi h a i.toNatClampNeg) :: st) h o) : mw g l d y em pc lv (.int i :: .ref (mad g a) :: st) h o := by
  subst hn
  intro b hb p e s m args below meth c H locs ls Cx S P F hl
  exact va_iald Cx.1 Cx.2.1 S.1 P a 0 (mWd_int ha) rfl hi hd (kk b hb p e s m args below meth c H locs ls Cx S P F hl)
theorem mw_iald {a N : Nat} {i : Int32} (ha : mkn g a (100 + N)) (hd : decode y.2.1 pc = .ok (.iaload, 1)) (hn : pc + 1 = n) (kk : mw g l d y em n lv (.int (mgi h a i.toNatClampNeg) :: st) h o) : mw g l d y em pc lv (.int i :: .ref (mad g a) :: st) h (mck i N o) := by
  by_cases hi : vp_in i N
  · rw [mck_ok hi]
    exact mw_iald' ha hi hd hn kk
  · rw [show mck i N o = none from if_pos (Classical.not_not.mp hi)]
    exact mw_none
theorem mw_zald {a : Nat} {i : Int32} (ha : mkn g a 50) (hd : decode y.2.1 pc = .ok (.baload, 1)) (hn : pc + 1 = n) (kk : mw g l d y em n lv (.int (mgi h a i.toNatClampNeg) :: st) h o) : mw g l d y em pc lv (.int i :: .ref (mad g a) :: st) h (mck i 2 o) := by
  subst hn
  by_cases hi : vp_in i 2
  · rw [mck_ok hi]
    intro b hb p e s m args below meth c H locs ls Cx S P F hl
    exact va_zald Cx.1 Cx.2.1 S.1 P a 1 (mWd_bool ha) rfl hi hd (kk b hb p e s m args below meth c H locs ls Cx S P F hl)
  · rw [show mck i 2 o = none from if_pos (Classical.not_not.mp hi)]
    exact mw_none
theorem mEn_setA {g : mG} {h : mH} {a N : Nat} {i : Nat} {v : Int32} (ha : mk a = 100 + N) : Sum.inl (g.2.1.1, N, Sum.inl (upd (mgi h a) i v)) = mEn g (msi h a i v) a := by
  rw [mEn_int ha]
  have e : upd (mgi h a) i v = mgi (msi h a i v) a := by
    funext j
    rw [mgi_msi]
    by_cases e : j = i <;> simp [upd, e]
  rw [e]
theorem mEn_setZ {g : mG} {h : mH} {a : Nat} {i : Nat} {v : Int32} (ha : mk a = 50) : Sum.inl (g.2.1.2.1, 2, Sum.inl (upd (mgi h a) i v)) = mEn g (msi h a i v) a := by
  rw [mEn_bool ha]
  have e : upd (mgi h a) i v = mgi (msi h a i v) a := by
    funext j
    rw [mgi_msi]
    by_cases e : j = i <;> simp [upd, e]
  rw [e]
theorem mw_iast {a N : Nat} {i v : Int32} (ha : mkn g a (100 + N)) (hd : decode y.2.1 pc = .ok (.iastore, 1)) (hn : pc + 1 = n) (kk : mw g l d y em n lv st (msi h a i.toNatClampNeg v) o) : mw g l d y em pc lv (.int v :: .int i :: .ref (mad g a) :: st) h (mck i N o) := by
  subst hn
  by_cases hi : vp_in i N
  · rw [mck_ok hi]
    intro b hb p e s m args below meth c H locs ls Cx S P F hl
    refine va_iast Cx.1 Cx.2.1 S.1 P (mWd_D S.2.1) F a 0 (mWd_int ha) rfl hi hd (fun H1 locs1 P1 D1 F1 => ?_)
    rw [mWd_set (h' := msi h a i.toNatClampNeg v) (mEn_setA ha.2) (fun j hj => mEn_ne hj _ v)] at P1
    exact kk b hb p e s m args below meth c H1 locs1 ls Cx S P1 F1 hl
  · rw [show mck i N o = none from if_pos (Classical.not_not.mp hi)]
    exact mw_none
theorem mw_zast {a : Nat} {i v : Int32} (ha : mkn g a 50) (hv : vp_nar .boolean v = v) (hd : decode y.2.1 pc = .ok (.bastore, 1)) (hn : pc + 1 = n) (kk : mw g l d y em n lv st (msi h a i.toNatClampNeg v) o) : mw g l d y em pc lv (.int v :: .int i :: .ref (mad g a) :: st) h (mck i 2 o) := by
  subst hn
  by_cases hi : vp_in i 2
  · rw [mck_ok hi]
    intro b hb p e s m args below meth c H locs ls Cx S P F hl
    refine va_zast Cx.1 Cx.2.1 S.1 P (mWd_D S.2.1) F a 1 (mWd_bool ha) rfl hi hd (fun H1 locs1 P1 D1 F1 => ?_)
    rw [hv, mWd_set (h' := msi h a i.toNatClampNeg v) (mEn_setZ ha.2) (fun j hj => mEn_ne hj _ v)] at P1
    exact kk b hb p e s m args below meth c H1 locs1 ls Cx S P1 F1 hl
  · rw [show mck i 2 o = none from if_pos (Classical.not_not.mp hi)]
    exact mw_none
theorem mw_aald60 {a : Nat} {i : Int32} (ha : mkn g a 60) (hd : decode y.2.1 pc = .ok (.aaload, 1)) (hn : pc + 1 = n) (kk : vp_in i 14 → mw g l d y em n lv (.ref (mad g (22 + 3 * i.toNatClampNeg)) :: st) h o) : mw g l d y em pc lv (.int i :: .ref (mad g a) :: st) h (mck i 14 o) := by
  subst hn
  by_cases hi : vp_in i 14
  · rw [mck_ok hi]
    intro b hb p e s m args below meth c H locs ls Cx S P F hl
    exact va_aldq Cx.1 Cx.2.1 S.1 P a 2 (mWd_60 ha) rfl hi hd (kk hi b hb p e s m args below meth c H locs ls Cx S P F hl)
  · rw [show mck i 14 o = none from if_pos (Classical.not_not.mp hi)]
    exact mw_none
theorem mw_aald61 {a : Nat} {i : Int32} (ha : mkn g a 61) (hd : decode y.2.1 pc = .ok (.aaload, 1)) (hn : pc + 1 = n) (kk : vp_in i 2 → mw g l d y em n lv (.ref (mad g (76 + 3 * i.toNatClampNeg)) :: st) h o) : mw g l d y em pc lv (.int i :: .ref (mad g a) :: st) h (mck i 2 o) := by
  subst hn
  by_cases hi : vp_in i 2
  · rw [mck_ok hi]
    intro b hb p e s m args below meth c H locs ls Cx S P F hl
    exact va_aldq Cx.1 Cx.2.1 S.1 P a 2 (mWd_61 ha) rfl hi hd (kk hi b hb p e s m args below meth c H locs ls Cx S P F hl)
  · rw [show mck i 2 o = none from if_pos (Classical.not_not.mp hi)]
    exact mw_none
/-! the rows that nobody writes -/
theorem mw_gsF {i : Nat} (hL : Cond.fieldLink y.1.cls i "TwoViews$Answers" "FIRST_WITH_YES" "[I" ∈ mTb) (hd : decode y.2.1 pc = .ok (.getstatic i, 3)) (hn : pc + 3 = n) (kk : mw g l d y em n lv (.ref g.2.2.2.2.1 :: st) h o) : mw g l d y em pc lv st h o := by
  subst hn
  exact fun b hb p e s m args below meth c H locs ls Cx S P F hl => va_gets Cx.1 Cx.2.1 S.2.2.2.1.1 F Cx.2.2.2.2.2.1 (Cx.2.2.2.2.2.2 _ hL) (fun _ hx => hx) hd (kk b hb p e s m args below meth c H locs ls Cx S P F hl)
theorem mw_gsR {i : Nat} (hL : Cond.fieldLink y.1.cls i "TwoViews$Answers" "ROWS_BY_YES" "[I" ∈ mTb) (hd : decode y.2.1 pc = .ok (.getstatic i, 3)) (hn : pc + 3 = n) (kk : mw g l d y em n lv (.ref g.2.2.2.2.2.1 :: st) h o) : mw g l d y em pc lv st h o := by
  subst hn
  exact fun b hb p e s m args below meth c H locs ls Cx S P F hl => va_gets Cx.1 Cx.2.1 S.2.2.2.2.1.1 F Cx.2.2.2.2.2.1 (Cx.2.2.2.2.2.2 _ hL) (fun _ hx => hx) hd (kk b hb p e s m args below meth c H locs ls Cx S P F hl)
theorem mw_gsU {i : Nat} (hL : Cond.fieldLink y.1.cls i "TwoViews" "DOING_UNITS" "[J" ∈ mTb) (hd : decode y.2.1 pc = .ok (.getstatic i, 3)) (hn : pc + 3 = n) (kk : mw g l d y em n lv (.ref g.2.2.2.2.2.2 :: st) h o) : mw g l d y em pc lv st h o := by
  subst hn
  exact fun b hb p e s m args below meth c H locs ls Cx S P F hl => va_gets Cx.1 Cx.2.1 S.2.2.2.2.2.1 F Cx.2.2.2.2.2.1 (Cx.2.2.2.2.2.2 _ hL) (fun _ hx => hx) hd (kk b hb p e s m args below meth c H locs ls Cx S P F hl)
theorem mw_ldF {i : Int32} (hd : decode y.2.1 pc = .ok (.iaload, 1)) (hn : pc + 1 = n) (kk : mw g l d y em n lv (.int (mFirst i.toNatClampNeg) :: st) h o) : mw g l d y em pc lv (.int i :: .ref g.2.2.2.2.1 :: st) h (mck i 7 o) := by
  subst hn
  by_cases hi : vp_in i 7
  · rw [mck_ok hi]
    intro b hb p e s m args below meth c H locs ls Cx S P F hl
    exact va_ti Cx.1 Cx.2.1 S.2.2.2.1.2 F hi rfl hd (kk b hb p e s m args below meth c H locs ls Cx S P F hl)
  · rw [show mck i 7 o = none from if_pos (Classical.not_not.mp hi)]
    exact mw_none
theorem mw_ldR {i : Int32} (hd : decode y.2.1 pc = .ok (.iaload, 1)) (hn : pc + 1 = n) (kk : mw g l d y em n lv (.int (mRows i.toNatClampNeg) :: st) h o) : mw g l d y em pc lv (.int i :: .ref g.2.2.2.2.2.1 :: st) h (mck i 32 o) := by
  subst hn
  by_cases hi : vp_in i 32
  · rw [mck_ok hi]
    intro b hb p e s m args below meth c H locs ls Cx S P F hl
    exact va_ti Cx.1 Cx.2.1 S.2.2.2.2.1.2 F hi rfl hd (kk b hb p e s m args below meth c H locs ls Cx S P F hl)
  · rw [show mck i 32 o = none from if_pos (Classical.not_not.mp hi)]
    exact mw_none
theorem mw_ldU {i : Int32} (hd : decode y.2.1 pc = .ok (.laload, 1)) (hn : pc + 1 = n) (kk : mw g l d y em n lv (.long (mUnits i.toNatClampNeg) :: st) h o) : mw g l d y em pc lv (.int i :: .ref g.2.2.2.2.2.2 :: st) h (mck i 4 o) := by
  subst hn
  by_cases hi : vp_in i 4
  · rw [mck_ok hi]
    intro b hb p e s m args below meth c H locs ls Cx S P F hl
    exact va_tl Cx.1 Cx.2.1 S.2.2.2.2.2.2 F hi rfl hd (kk b hb p e s m args below meth c H locs ls Cx S P F hl)
  · rw [show mck i 4 o = none from if_pos (Classical.not_not.mp hi)]
    exact mw_none
/-! switches: a case after the other -/
theorem mw_tcase {x v : Int32} {dflt lo hi off : Int} {offs : Array Int} {len t : Nat} {o1 o2 : Option β} (hd : decode y.2.1 pc = .ok (.tableswitch dflt lo hi offs, len)) (h1 : ¬ v.toInt < lo) (h2 : ¬ hi < v.toInt) (ho : offs[(v.toInt - lo).toNat]? = some off) (ht : (pc : Int) + off = (t : Int)) (kt : x = v → mw g l d y em t lv st h o1) (kf : ¬ x = v → mw g l d y em pc lv (.int x :: st) h o2) : mw g l d y em pc lv (.int x :: st) h (if x = v then o1 else o2) := by
  by_cases q : x = v
  · rw [if_pos q]
    have k := kt q
    subst q
    exact fun b hb p e s m args below meth c H locs ls Cx S P F hl => lv_tableIn Cx.1 Cx.2.1 hd h1 h2 ho ht (k b hb p e s m args below meth c H locs ls Cx S P F hl)
  · rw [if_neg q]
    exact kf q
theorem mw_tdef {x : Int32} {dflt lo hi : Int} {offs : Array Int} {len t : Nat} (hd : decode y.2.1 pc = .ok (.tableswitch dflt lo hi offs, len)) (hx : x.toInt < lo ∨ hi < x.toInt) (ht : (pc : Int) + dflt = (t : Int)) (k : mw g l d y em t lv st h o) : mw g l d y em pc lv (.int x :: st) h o :=
  fun b hb p e s m args below meth c H locs ls Cx S P F hl => lv_tableOut Cx.1 Cx.2.1 hd hx ht (k b hb p e s m args below meth c H locs ls Cx S P F hl)
end MF
