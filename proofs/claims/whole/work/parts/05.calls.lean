section MC
variable {g : mG} {l : Launch} {d : Nat} {y : mD} {β : Type} {em : β → Option Value × mH} {pc n : Nat} {lv : List (Nat × Value)} {st : List Value} {h : mH} {o : Option β}
theorem mw_run {γ : Type} {em' : γ → Option Value × mH} {st' : List Value} {o' : Option γ} {k : γ → Option β} {aa : Array Value} (hn : pc + 3 = n)
    (hr : ∀ b', o' = some b' → ∀ (p : Program) (e : Env) (s : State) (m : MethodId) (args : Array Value) (below : List Frame) (meth : Method) (c : Code) (H : Heap) (locs : List Loc) (ls : Array Slot),
      mCx y p s m args meth c → mSt g s s.heap → va_P g.1 vwCl (mWd g h) H → va_S (mA g) s.heap H locs → lv_has ls y.2.2.1 lv →
      va_Run p l e (mRm d) s m args below meth c H locs 0 0 0 0 (F0 m pc ls st') st (mQ g (em' b') aa) (mA g))
    (kk : ∀ b', o' = some b' → mw g l d y em n lv ((em' b').1.toList ++ st) (em' b').2 (k b')) : mw g l d y em pc lv st' h (o'.bind k) := by
  subst hn
  cases o' with
  | none => exact mw_none
  | some b' =>
    intro b hb p e s m args below meth c H locs ls Cx S P F hl T hT X
    obtain ⟨v, st₀, t, T', L, h0, X', hL, e1, e2, ⟨hv, hP1, hz, hq⟩, stp⟩ := hr b' rfl p e s m args below meth c H locs ls Cx S P F hl T hT X
    cases hv
    rw [h0] at hz hq
    rw [← e1] at hP1 hz hq
    have F' : va_S (mA g) s.heap T'.heap (locs ++ L) := by
      refine ⟨Nat.le_trans F.1 hz, fun q h1 h2 => ?_, fun q hm => ?_⟩
      · rw [hq q (Nat.lt_of_lt_of_le h1 F.1) h2]
        exact F.2.1 q h1 h2
      · rcases List.mem_append.mp hm with hm | hm
        · exact F.2.2 q hm
        · exact hL q hm
    obtain ⟨t2, a1, b1⟩ := kk b' rfl b hb p e s m args below meth c T'.heap (locs ++ L) ls Cx S hP1 F' hl T' rfl X'
    exact ⟨t2, stp t2 a1, b1⟩
/-- what a call needs of the tables -/
def mOk (y' : mD) (N : Nat) : Prop := (y'.1.cls ≠ "java/lang/invoke/MethodHandle" ∧ y'.1.cls ≠ "java/lang/invoke/VarHandle" ∧ (parseMethodDescriptor y'.1.desc).map (fun d => d.parameters.length) = some N) ∧ y'.2.2.1 ≤ 21 ∧ Cond.code y'.1 y'.2.1 y'.2.2.1 y'.2.2.2 ∈ mTb ∧ Cond.initialized y'.1.cls ∈ mTb
theorem mRm_ok {d' d nl : Nat} (h : d' < d) (hl : nl ≤ 21) : (mRm d').frames + 1 ≤ (mRm d).frames ∧ 8 + (nl + 11) + (mRm d').locals ≤ (mRm d).locals := by
  constructor
  · show d' + 1 + 1 ≤ d + 1
    omega
  · show 8 + (nl + 11) + 40 * (d' + 1) ≤ 40 * (d + 1)
    omega
theorem mPre {s : State} {H : Heap} {locs : List Loc} {as : List Value} (S : mSt g s s.heap) (P : va_P g.1 vwCl (mWd g h) H) (F : va_S (mA g) s.heap H locs) : PreS s H (va_Pc as (mP g h)) as :=
  ⟨mP.blind as, fun U hU hW => ⟨rfl, by rw [hU]; exact P, by rw [hU]; exact mSt.warm hW F S⟩⟩
theorem mGood {y' : mD} (hc : Cond.code y'.1 y'.2.1 y'.2.2.1 y'.2.2.2 ∈ mTb) : GoodIn mTb (Cond.code y'.1 y'.2.1 y'.2.2.1 y'.2.2.2 :: mTb) := fun w hw => by
  rcases List.mem_cons.mp hw with rfl | hw
  · exact ⟨hc, good_of_word (mTb_good hc).2⟩
  · exact ⟨hw, good_of_word (mTb_good hw).2⟩
theorem mw_callV {γ : Type} {em' : γ → Option Value × mH} {y' : mD} {d' a i ci N : Nat} {As st' : List Value} {o' : Option γ} {k : γ → Option β} {C : String} {T : u_T} (hC : mCl ci C T) (ha : mkn g a ci) (hM : mf g l d' y' em' (.ref (mad g a) :: As) h o') (hdd : d' < d) (hO : mOk y' N) (hN : As.length = N) (hcls : y'.1.cls = C)
    (h1 : Cond.methodLink y.1.cls i y'.1 ∈ mTb) (h2 : Cond.instanceMethod y'.1 ∈ mTb) (h3 : Cond.selects C y'.1 y'.1 ∈ mTb) (hd : decode y.2.1 pc = .ok (.invokevirtual i, 3)) (hn : pc + 3 = n) (hst : st' = As.reverse ++ .ref (mad g a) :: st) (hroom : (st.map fun v => v.category).sum ≤ 8)
    (kk : ∀ b', o' = some b' → mw g l d y em n lv ((em' b').1.toList ++ st) (em' b').2 (k b')) : mw g l d y em pc lv st' h (o'.bind k) := by
  refine mw_run hn (fun b' hb' p e s m args below meth c H locs ls Cx S P F hl => ?_) kk (aa := (Value.ref (mad g a) :: As).toArray)
  subst hcls
  refine va_runV (As := As) (rest := st) ⟨Cx.1, Cx.2.1, Cx.2.2.2.2.1, Cx.2.2.2.2.2.1, Cx.2.2.2.2.2.2⟩ (hM b' hb') (cwV N Cx.2.2.2.2.2.2 (fun w hw => ?_) rfl rfl rfl ⟨rfl, hO.1⟩ (mRm_ok hdd hO.2.1)) ⟨(mPre S P F).1, va_recv S.1 P hC.2.1 (mWd_obj ha hC.1), (mPre S P F).2⟩ rfl hN hl.1 hst (lv_room hroom) hd ⟨Nat.le_refl _, Nat.le_refl _⟩
  rcases List.mem_append.mp (show w ∈ ([.methodLink y.1.cls i y'.1, .instanceMethod y'.1, .selects y'.1.cls y'.1 y'.1, .initialized y'.1.cls] : List Cond) ++ _ from hw) with hw | hw
  · simp only [List.mem_cons, List.not_mem_nil, or_false] at hw
    rcases hw with rfl | rfl | rfl | rfl
    · exact ⟨h1, good_of_word (mTb_good h1).2⟩
    · exact ⟨h2, good_of_word (mTb_good h2).2⟩
    · exact ⟨h3, good_of_word (mTb_good h3).2⟩
    · exact ⟨hO.2.2.2, good_of_word (mTb_good hO.2.2.2).2⟩
  · exact mGood hO.2.2.1 w hw
theorem mw_callS {γ : Type} {em' : γ → Option Value × mH} {y' : mD} {d' i N : Nat} {As st' : List Value} {o' : Option γ} {k : γ → Option β} (hM : mf g l d' y' em' As h o') (hdd : d' < d) (hO : mOk y' N) (hN : As.length = N)
    (h1 : Cond.methodLink y.1.cls i y'.1 ∈ mTb) (h2 : Cond.static y'.1 ∈ mTb) (hd : decode y.2.1 pc = .ok (.invokestatic i, 3)) (hn : pc + 3 = n) (hst : st' = As.reverse ++ st) (hroom : (st.map fun v => v.category).sum ≤ 8)
    (kk : ∀ b', o' = some b' → mw g l d y em n lv ((em' b').1.toList ++ st) (em' b').2 (k b')) : mw g l d y em pc lv st' h (o'.bind k) := by
  refine mw_run hn (fun b' hb' p e s m args below meth c H locs ls Cx S P F hl => ?_) kk (aa := As.toArray)
  refine va_runS (As := As) (rest := st) ⟨Cx.1, Cx.2.1, Cx.2.2.2.2.1, Cx.2.2.2.2.2.1, Cx.2.2.2.2.2.2⟩ (hM b' hb') (va_cwS N Cx.2.2.2.2.2.2 (fun w hw => ?_) rfl rfl rfl hO.1 (mRm_ok hdd hO.2.1)) (mPre S P F) rfl hN hl.1 hst (lv_room hroom) hd ⟨Nat.le_refl _, Nat.le_refl _⟩
  rcases List.mem_append.mp (show w ∈ ([.methodLink y.1.cls i y'.1, .static y'.1, .initialized y'.1.cls] : List Cond) ++ _ from hw) with hw | hw
  · simp only [List.mem_cons, List.not_mem_nil, or_false] at hw
    rcases hw with rfl | rfl | rfl
    · exact ⟨h1, good_of_word (mTb_good h1).2⟩
    · exact ⟨h2, good_of_word (mTb_good h2).2⟩
    · exact ⟨hO.2.2.2, good_of_word (mTb_good hO.2.2.2).2⟩
  · exact mGood hO.2.2.1 w hw
theorem mw_callN {γ : Type} {em' : γ → Option Value × mH} {y' : mD} {d' i N : Nat} {As st' : List Value} {o' : Option γ} {k : γ → Option β} {host : String} (hM : mf g l d' y' em' As h o') (hdd : d' < d) (hO : mOk y' N) (hN : As.length = N)
    (h1 : Cond.methodLinkNest y.1.cls i y'.1 host ∈ tables_1) (h2 : Cond.static y'.1 ∈ mTb) (hd : decode y.2.1 pc = .ok (.invokestatic i, 3)) (hn : pc + 3 = n) (hst : st' = As.reverse ++ st) (hroom : (st.map fun v => v.category).sum ≤ 8)
    (kk : ∀ b', o' = some b' → mw g l d y em n lv ((em' b').1.toList ++ st) (em' b').2 (k b')) : mw g l d y em pc lv st' h (o'.bind k) := by
  refine mw_run hn (fun b' hb' p e s m args below meth c H locs ls Cx S P F hl => ?_) kk (aa := As.toArray)
  exact va_runSN (As := As) (rest := st) ⟨Cx.1, Cx.2.1, Cx.2.2.2.2.1, Cx.2.2.2.2.2.1, Cx.2.2.2.2.2.2⟩ (hM b' hb') ⟨va_cnB N Cx.2.2.2.2.2.2 (mGood hO.2.2.1) rfl rfl rfl (S.2.2.1 _ _ _ _ h1) (Cx.2.2.2.2.2.2 _ hO.2.2.2) hO.1 (mRm_ok hdd hO.2.1), Cx.2.2.2.2.2.2 _ h2, trivial⟩ (mPre S P F) rfl hN hl.1 hst (lv_room hroom) hd ⟨Nat.le_refl _, Nat.le_refl _⟩
theorem mf_mono {d' : Nat} {as : List Value} (hdd : d' ≤ d) (hM : mf g l d' y em as h o) : mf g l d' y em as h o := hM
/-- System.arraycopy of a whole int row into another of the same length -/
theorem mEn_cp {a b N : Nat} (hb : mk b = 100 + N) : Sum.inl (g.2.1.1, N, Sum.inl (va_cpy (mgi h a) (mgi h b) 0 0 N)) = mEn g (mcp h a b N) b := by
  rw [mEn_int hb]
  have e : va_cpy (mgi h a) (mgi h b) 0 0 N = mgi (mcp h a b N) b := by
    funext j
    show (if 0 ≤ j ∧ j < 0 + N then h.1 a (0 + (j - 0)) else h.1 b j) = if b = b ∧ j < N then h.1 a j else h.1 b j
    simp
  rw [e]
theorem mEn_cpne {a b j N : Nat} (hne : j ≠ b) : mEn g (mcp h a b N) j = mEn g h j := by
  have e1 : ∀ q, mgi (mcp h a b N) j q = mgi h j q := fun q => by
    show (if j = b ∧ q < N then _ else _) = _
    rw [if_neg (fun z => hne z.1)]; rfl
  have e2 : mgi (mcp h a b N) j = mgi h j := funext e1
  have e3 : ∀ c, mFs g (mcp h a b N) j c = mFs g h j c := fun c => by
    unfold mFs
    refine List.map_congr_left fun q _ => ?_
    unfold mfv
    split
    · rw [e1]
    · rfl
    · rfl
  unfold mEn
  rw [e2, e3]
theorem mw_acopy {a b i N : Nat} {z : Int32} (ha : mkn g a (100 + N)) (hb : mkn g b (100 + N)) (hz : z.toNatClampNeg = N) (hz0 : ¬ z < 0) (h1 : Cond.methodLink y.1.cls i arraycopyName ∈ mTb) (h2 : Cond.native arraycopyName ∈ mTb) (h3 : Cond.static arraycopyName ∈ mTb) (h4 : Cond.initialized "java/lang/System" ∈ mTb) (hd : decode y.2.1 pc = .ok (.invokestatic i, 3)) (hn : pc + 3 = n) (hroom : (st.map fun v => v.category).sum ≤ 8)
    (hnw : nativeFrameWords "java/lang/System" "arraycopy" 5 + 11 ≤ 32)
    (kk : mw g l d y em n lv st (mcp h a b N) o) : mw g l d y em pc lv (.int z :: .int 0 :: .ref (mad g b) :: .int 0 :: .ref (mad g a) :: st) h o := by
  subst hn
  subst hz
  intro b' hb' p e s m args below meth c H locs ls Cx S P F hl
  have q0 : (0 : Int32).toNatClampNeg = 0 := by decide
  refine va_copyi Cx.1 Cx.2.1 (Cx.2.2.2.2.1.trans hl.1.symm) Cx.2.2.2.2.2.1 (Cx.2.2.2.2.2.2 _ h1) (Cx.2.2.2.2.2.2 _ h2) (Cx.2.2.2.2.2.2 _ h3) (Cx.2.2.2.2.2.2 _ h4) S.1 P (mWd_D S.2.1) F a b 0 0 (mWd_int ha) (mWd_int hb) rfl rfl rfl (by decide) (by decide) hz0 (by rw [q0]; omega) (by rw [q0]; omega) (fun _ _ => rfl) (by show 1 ≤ d + 1; omega) (by show _ ≤ 40 * (d + 1); omega) hd (fun H1 locs1 P1 D1 F1 => ?_)
  rw [q0, mWd_set (h' := mcp h a b z.toNatClampNeg) (mEn_cp hb.2) (fun j hj => mEn_cpne hj)] at P1
  exact kk b' hb' p e s m args below meth c H1 locs1 ls Cx S P1 F1 hl
end MC
