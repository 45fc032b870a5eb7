/-! the words of the tables that go with every method -/
def mTb : List Cond := lw_tbl.filter goodWord
theorem mTb_good {w : Cond} (h : w ∈ mTb) : w ∈ lw_tbl ∧ goodWord w = true := List.mem_filter.mp h
theorem mTb_in {big : List Cond} (hb : ∀ w ∈ mTb, w ∈ big) : GoodIn big mTb := fun w hw => ⟨hb w hw, good_of_word (mTb_good hw).2⟩
theorem mt {i : Nat} {w : Cond} (h : tables_1[i]? = some w) (hg : goodWord w = true) : w ∈ mTb := List.mem_filter.mpr ⟨List.mem_append_right _ (List.mem_of_getElem? h), hg⟩
theorem ms {i : Nat} {w : Cond} (h : (k2_sels lw_privs)[i]? = some w) (hg : goodWord w = true) : w ∈ mTb := List.mem_filter.mpr ⟨List.mem_append_left _ (List.mem_of_getElem? h), hg⟩
theorem mt_ws (ws : List Cond) (ps : List Nat) (h : ws = ps.filterMap (fun i => tables_1[i]?)) (hg : ws.all goodWord = true) : ∀ w ∈ ws, w ∈ mTb := by
  intro w hw
  have h1 := List.all_eq_true.mp hg w hw
  rw [h] at hw
  obtain ⟨i, -, hi⟩ := List.mem_filterMap.mp hw
  exact mt hi h1
/-! memory: int slots and long slots of cells by their numbers -/
abbrev mH : Type := (Nat → Nat → Int32) × (Nat → Nat → Int64)
def mgi (h : mH) (a k : Nat) : Int32 := h.1 a k
def mgl (h : mH) (a k : Nat) : Int64 := h.2 a k
def msi (h : mH) (a k : Nat) (v : Int32) : mH := (fun b j => if b = a ∧ j = k then v else h.1 b j, h.2)
def msl (h : mH) (a k : Nat) (v : Int64) : mH := (h.1, fun b j => if b = a ∧ j = k then v else h.2 b j)
def mcp (h : mH) (a b n : Nat) : mH := (fun c j => if c = b ∧ j < n then h.1 a j else h.1 c j, h.2)
/-- kinds of the cells: 0 to 9 a class, 50 boolean[2], 60 Sheet[14], 61 Sheet[2], 100 + n an int[n] -/
def mKL : List Nat := [8, 2, 6, 104, 105, 1, 410, 410, 2, 6, 104, 105, 1, 410, 410, 4, 140, 6, 104, 105, 0, 60,
  6, 104, 105, 6, 104, 105, 6, 104, 105, 6, 104, 105, 6, 104, 105, 6, 104, 105, 6, 104, 105,
  6, 104, 105, 6, 104, 105, 6, 104, 105, 6, 104, 105, 6, 104, 105, 6, 104, 105, 6, 104, 105,
  3, 104, 105, 7, 410, 410, 5, 106, 164, 164, 61, 50, 6, 104, 105, 6, 104, 105,
  9, 140, 132, 132, 132, 548, 164, 50, 106, 106, 140, 104, 1100, 1100, 1100, 104, 105, 106, 164]
def mk (i : Nat) : Nat := mKL.getD i 999
/-- number of fields of a class -/
def mNf : Nat → Nat := fun c => match c with
  | 0 => 3 | 1 => 10 | 2 => 2 | 3 => 2 | 4 => 3 | 5 => 4 | 6 => 7 | 7 => 5 | 8 => 13 | 9 => 26 | _ => 0
/-- a field's kind: 0 int, 1 long, t + 2 the cell t behind -/
def mFL : Nat → List Nat := fun c => match c with
  | 0 => [3, 0, 0] | 1 => [3, 0, 4, 0, 0, 0, 0, 1, 0, 0] | 2 => [3, 6] | 3 => [3, 4] | 4 => [3, 0, 4] | 5 => [3, 4, 5, 0]
  | 6 => [0, 0, 3, 4, 0, 0, 0] | 7 => [3, 4, 0, 0, 0] | 8 => [3, 10, 17, 22, 66, 69, 72, 76, 77, 0, 0, 0, 1]
  | 9 => [0, 3, 0, 4, 5, 6, 7, 0, 8, 9, 0, 10, 11, 1, 12, 13, 14, 0, 15, 16, 17, 18, 19, 20, 0, 0] | _ => []
def mfk (c k : Nat) : Nat := (mFL c).getD k 0
abbrev mG : Type := va_G × (ClassId × ClassId × ClassId) × (Nat → Nat) × Nat × (Nat × Nat × Nat)
abbrev mad (g : mG) (i : Nat) : Nat := g.2.2.1 i
abbrev mnn (g : mG) : Nat := g.2.2.2.1
def mfv (g : mG) (h : mH) (i c k : Nat) : Value := match mfk c k with
  | 0 => .int (mgi h i k)
  | 1 => .long (mgl h i k)
  | t + 2 => .ref (mad g (i + t))
def mFs (g : mG) (h : mH) (i c : Nat) : List Value := (List.range (mNf c)).map (mfv g h i c)
def mEn (g : mG) (h : mH) (i : Nat) : va_E :=
  if mk i < 10 then .inr (mk i, mFs g h i (mk i))
  else if mk i = 50 then .inl (g.2.1.2.1, 2, .inl (mgi h i))
  else if mk i = 60 then .inl (g.2.1.2.2, 14, .inr (.inr (.inr (.inr fun j => some (mad g (22 + 3 * j))))))
  else if mk i = 61 then .inl (g.2.1.2.2, 2, .inr (.inr (.inr (.inr fun j => some (mad g (76 + 3 * j))))))
  else .inl (g.2.1.1, mk i - 100, .inl (mgi h i))
def mWd (g : mG) (h : mH) : va_W := (List.range (mnn g)).map fun i => (mad g i, mEn g h i)
def mA (g : mG) : Nat → Prop := fun q => ∃ i, i < mnn g ∧ q = mad g i
def mInj (g : mG) : Prop := ∀ i j, i < mnn g → j < mnn g → mad g i = mad g j → i = j
def mOK (g : mG) : Prop := mnn g = 82 ∨ mnn g = 101
theorem mWd_at {g : mG} {h : mH} {i : Nat} (hi : i < mnn g) : (mWd g h)[i]? = some (mad g i, mEn g h i) := by
  simp [mWd, hi]
theorem mWd_get {g : mG} {h : mH} {i : Nat} {q : Nat × va_E} (hq : (mWd g h)[i]? = some q) : i < mnn g ∧ q = (mad g i, mEn g h i) := by
  have hi : i < mnn g := by
    have := (List.getElem?_eq_some_iff.mp hq).1
    simpa [mWd] using this
  rw [mWd_at hi] at hq
  exact ⟨hi, (Option.some.inj hq).symm⟩
theorem mWd_D {g : mG} {h : mH} (hj : mInj g) : va_D (mA g) (mWd g h) := by
  refine ⟨fun i j p q hp hq e => ?_, fun k q hq => ?_⟩
  · obtain ⟨h1, rfl⟩ := mWd_get hp
    obtain ⟨h2, rfl⟩ := mWd_get hq
    exact hj i j h1 h2 e
  · obtain ⟨h1, rfl⟩ := mWd_get hq
    exact ⟨k, h1, rfl⟩
theorem mWd_set {g : mG} {h h' : mH} {i : Nat} {x : va_E} (hx : x = mEn g h' i) (ho : ∀ j, j ≠ i → mEn g h' j = mEn g h j) : (mWd g h).set i (mad g i, x) = mWd g h' := by
  subst hx
  refine List.ext_getElem? fun j => ?_
  by_cases hj : j < mnn g
  · rw [mWd_at hj, List.getElem?_set]
    by_cases e : i = j
    · subst e
      rw [if_pos rfl, if_pos (by simpa [mWd] using hj)]
    · rw [if_neg e, mWd_at hj, ho j (fun q => e q.symm)]
  · have e1 : ((mWd g h).set i (mad g i, mEn g h' i))[j]? = none := by
      rw [List.getElem?_eq_none_iff]; simp [mWd]; omega
    have e2 : (mWd g h')[j]? = none := by
      rw [List.getElem?_eq_none_iff]; simp [mWd]; omega
    rw [e1, e2]
theorem mFs_at {g : mG} {h : mH} {i c k : Nat} (hk : k < mNf c) : (mFs g h i c)[k]? = some (mfv g h i c k) := by
  simp [mFs, hk]
theorem mFs_len {g : mG} {h : mH} {i c : Nat} : (mFs g h i c).length = mNf c := by simp [mFs]
theorem mFs_set {g : mG} {h h' : mH} {i c k : Nat} (ho : ∀ j, j ≠ k → mfv g h' i c j = mfv g h i c j) : (mFs g h i c).set k (mfv g h' i c k) = mFs g h' i c := by
  refine List.ext_getElem? fun j => ?_
  by_cases hj : j < mNf c
  · rw [mFs_at hj, List.getElem?_set]
    by_cases e : k = j
    · subst e
      rw [if_pos rfl, if_pos (by rw [mFs_len]; exact hj)]
    · rw [if_neg e, mFs_at hj, ho j (fun q => e q.symm)]
  · rw [List.getElem?_eq_none_iff.mpr (by rw [List.length_set, mFs_len]; omega), List.getElem?_eq_none_iff.mpr (by rw [mFs_len]; omega)]
theorem mgi_msi (h : mH) (a k b j : Nat) (v : Int32) : mgi (msi h a k v) b j = if b = a ∧ j = k then v else mgi h b j := rfl
theorem mgl_msi (h : mH) (a k b j : Nat) (v : Int32) : mgl (msi h a k v) b j = mgl h b j := rfl
theorem mgi_msl (h : mH) (a k b j : Nat) (v : Int64) : mgi (msl h a k v) b j = mgi h b j := rfl
theorem mgl_msl (h : mH) (a k b j : Nat) (v : Int64) : mgl (msl h a k v) b j = if b = a ∧ j = k then v else mgl h b j := rfl
theorem mEn_ne {g : mG} {h : mH} {i j : Nat} (hne : j ≠ i) (k : Nat) (v : Int32) : mEn g (msi h i k v) j = mEn g h j := by
  have e1 : ∀ q, mgi (msi h i k v) j q = mgi h j q := fun q => by rw [mgi_msi, if_neg (fun z => hne z.1)]
  have e2 : mgi (msi h i k v) j = mgi h j := funext e1
  have e3 : ∀ c, mFs g (msi h i k v) j c = mFs g h j c := fun c => by
    unfold mFs
    refine List.map_congr_left fun q _ => ?_
    unfold mfv
    split
    · rw [e1]
    · rfl
    · rfl
  unfold mEn
  rw [e2, e3]
theorem mEn_neL {g : mG} {h : mH} {i j : Nat} (hne : j ≠ i) (k : Nat) (v : Int64) : mEn g (msl h i k v) j = mEn g h j := by
  have e1 : ∀ q, mgl (msl h i k v) j q = mgl h j q := fun q => by rw [mgl_msl, if_neg (fun z => hne z.1)]
  have e3 : ∀ c, mFs g (msl h i k v) j c = mFs g h j c := fun c => by
    unfold mFs
    refine List.map_congr_left fun q _ => ?_
    unfold mfv
    split
    · rfl
    · rw [e1]
    · rfl
  unfold mEn
  rw [e3]
  rfl
