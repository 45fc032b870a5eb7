def mgn (g : mG) (k : Nat) : mG := (g.1, g.2.1, g.2.2.1, k, g.2.2.2.2)
theorem arrV_congr {cA : ClassId} {N : Nat} {f f' : Nat → Value} (h : ∀ j, j < N → f j = f' j) : arrV cA N f = arrV cA N f' := by
  unfold arrV
  congr 2
  funext j
  exact h j.1 j.2
theorem at_inl {D D' : va_G} {cl : List vw_C} {a a' : Nat} {c c' : ClassId} {x x' : vp_A} {H : Heap} (h : vp_cell c x = vp_cell c' x') (ha : a = a' := by rfl) : va_at D cl (a, .inl (c, x)) H ↔ va_at D' cl (a', .inl (c', x')) H := by
  subst ha
  show H[a]? = some (vp_cell c x) ↔ H[a]? = some (vp_cell c' x')
  rw [h]
/-- all references of the first n cells are set -/
def mNeed (i k : Nat) : Bool := if mk i < 10 then decide (2 ≤ mfk (mk i) k ∧ k < mNf (mk i)) else if mk i = 60 then decide (k < 14) else if mk i = 61 then decide (k < 2) else false
def mFull (n : Nat) (S : mB) : Prop := ∀ i, i < n → ∀ k, k < 26 → mNeed i k = true → S i k = true
theorem mfs_full {g : mG} {S : mB} {h : mH} {i c k n : Nat} (hs : 2 ≤ mfk c k → S i k = true) : mfs g S h i c k = mfv (mgn g n) h i c k := by
  unfold mfs mfv
  split
  · rename_i q; simp [q]
  · rename_i q; simp [q]
  · rename_i q; simp [q, hs (by rw [q]; omega)]; rfl
theorem mNf_le (c : Nat) : mNf c ≤ 26 := by
  unfold mNf
  split <;> decide
theorem mAt_full {g : mG} {n i : Nat} {S : mB} {h : mH} {H : Heap} (hs : ∀ k, k < 26 → mNeed i k = true → S i k = true) : va_at g.1 vwCl (mad g i, mEs g S h i) H ↔ va_at (mgn g n).1 vwCl (mad (mgn g n) i, mEn (mgn g n) h i) H := by
  by_cases h1 : mk i < 10
  · have e1 : mEs g S h i = .inr (mk i, mFS g S h i (mk i)) := mEs_obj rfl h1
    have e2 : mEn (mgn g n) h i = .inr (mk i, mFs (mgn g n) h i (mk i)) := mEn_obj rfl h1
    have e3 : mFS g S h i (mk i) = mFs (mgn g n) h i (mk i) := List.map_congr_left fun k hk => mfs_full (fun h2 => hs k (Nat.lt_of_lt_of_le (List.mem_range.mp hk) (mNf_le _)) (by unfold mNeed; rw [if_pos h1]; exact decide_eq_true ⟨h2, List.mem_range.mp hk⟩))
    rw [e1, e2, e3]
    exact Iff.rfl
  · by_cases h2 : mk i = 60
    · have e1 : mEs g S h i = .inl (g.2.1.2.2, 14, .inr (.inr (.inr (.inr fun j => if S i j = true then some (mad g (22 + 3 * j)) else none)))) := by simp [mEs, h2]
      rw [e1, mEn_60 h2]
      have e3 : vp_cell g.2.1.2.2 (14, .inr (.inr (.inr (.inr fun j => if S i j = true then some (mad g (22 + 3 * j)) else none)))) = vp_cell g.2.1.2.2 (14, .inr (.inr (.inr (.inr fun j => some (mad (mgn g n) (22 + 3 * j)))))) := by
        rw [vp_cell_q, vp_cell_q]
        exact arrV_congr (fun j hj => by rw [if_pos (hs j (by omega) (by unfold mNeed; rw [if_neg h1, if_pos h2]; exact decide_eq_true hj))]; rfl)
      exact at_inl e3
    · by_cases h3 : mk i = 61
      · have e1 : mEs g S h i = .inl (g.2.1.2.2, 2, .inr (.inr (.inr (.inr fun j => if S i j = true then some (mad g (76 + 3 * j)) else none)))) := by simp [mEs, h3]
        rw [e1, mEn_61 h3]
        have e3 : vp_cell g.2.1.2.2 (2, .inr (.inr (.inr (.inr fun j => if S i j = true then some (mad g (76 + 3 * j)) else none)))) = vp_cell g.2.1.2.2 (2, .inr (.inr (.inr (.inr fun j => some (mad (mgn g n) (76 + 3 * j)))))) := by
          rw [vp_cell_q, vp_cell_q]
          exact arrV_congr (fun j hj => by rw [if_pos (hs j (by omega) (by unfold mNeed; rw [if_neg h1, if_neg h2, if_pos h3]; exact decide_eq_true hj))]; rfl)
        exact at_inl e3
      · have e1 : mEs g S h i = mEn (mgn g n) h i := by
          unfold mEs mEn
          simp only [if_neg h1, if_neg h2, if_neg h3]
          rfl
        rw [e1]
        exact Iff.rfl
theorem mWs_full {g : mG} {n : Nat} {S : mB} {h : mH} {H : Heap} (hs : mFull n S) : va_P g.1 vwCl (mWs g n S h) H ↔ va_P (mgn g n).1 vwCl (mWd (mgn g n) h) H := by
  constructor
  · intro P k q hq
    obtain ⟨hk, rfl⟩ := mWd_get hq
    exact (mAt_full (hs k hk)).mp (P k _ (mWs_at hk))
  · intro P k q hq
    obtain ⟨hk, rfl⟩ := mWs_get hq
    exact (mAt_full (hs k hk)).mpr (P k _ (mWd_at (g := mgn g n) hk))
theorem mA_n {g : mG} {n q : Nat} (hn : n ≤ mnn g) (h : mA (mgn g n) q) : mA g q := by
  obtain ⟨i, h1, h2⟩ := h
  exact ⟨i, Nat.lt_of_lt_of_le h1 hn, h2⟩
theorem mSt_n {g : mG} {n : Nat} {U : State} {H : Heap} (hn : n ≤ mnn g) (h : mSt g U H) : mSt (mgn g n) U H := by
  obtain ⟨h1, h2, h3, ⟨⟨a1, a2⟩, ⟨b1, b2⟩, c1, c2⟩⟩ := h
  exact ⟨h1, fun i j hi hj e => h2 i j (Nat.lt_of_lt_of_le hi hn) (Nat.lt_of_lt_of_le hj hn) e, h3, ⟨a1.narrow (fun q => mA_n hn), a2.narrow (fun q => mA_n hn)⟩, ⟨b1.narrow (fun q => mA_n hn), b2.narrow (fun q => mA_n hn)⟩, c1.narrow (fun q => mA_n hn), c2.narrow (fun q => mA_n hn)⟩
theorem Met_size {l : Launch} {y : MethodName} {ws : List Cond} {rm : Room} {Pc : Array Value → State → Prop} {Qc : Array Value → State → Outcome → State → Prop} {free : Addr → Prop} (h : Met l y ws rm Pc Qc 0 0 free) : Met l y ws rm Pc (fun a st o t => Qc a st o t ∧ t.heap.size ≤ st.heap.size) 0 0 free := by
  intro p e ha hc hk s m args below hf happ hP hK
  obtain ⟨n, o, h1, h2, h3, hq, L, hF, hL⟩ := h p e ha hc hk s m args below hf happ hP hK
  exact ⟨n, o, h1, h2, h3, ⟨hq, hF.2.2.2.2.1⟩, L, hF, hL⟩
theorem mFr_s {n a k : Nat} {S : mB} {h : mH} (hF : mFr n S h) (ha : a < n) : mFr n (mss S a k) h := fun i hi => ⟨(hF i hi).1, (hF i hi).2.1, fun j => by unfold mss; rw [if_neg (by omega)]; exact (hF i hi).2.2 j⟩
theorem mFr_i {n a k : Nat} {S : mB} {h : mH} {v : Int32} (hF : mFr n S h) (ha : a < n) : mFr n S (msi h a k v) := fun i hi => ⟨fun j => by rw [mgi_msi, if_neg (by omega)]; exact (hF i hi).1 j, (hF i hi).2.1, (hF i hi).2.2⟩
theorem mFr_l {n a k : Nat} {S : mB} {h : mH} {v : Int64} (hF : mFr n S h) (ha : a < n) : mFr n S (msl h a k v) := fun i hi => ⟨(hF i hi).1, fun j => by rw [mgl_msl, if_neg (by omega)]; exact (hF i hi).2.1 j, (hF i hi).2.2⟩
theorem mFr_n {n m : Nat} {S : mB} {h : mH} (hF : mFr n S h) (hm : n ≤ m) : mFr m S h := fun i hi => hF i (Nat.le_trans hm hi)
section MV3
variable {g : mG} {l : Launch} {R : Room} {y : mD} {n2 : Nat} {S2 : mB} {h2 : mH} {c2 s2 pc n' : Nat} {lv : List (Nat × Value)} {st : List Value} {n : Nat} {S : mB} {h : mH} {cells slots : Nat}
theorem mv_run {n3 mc ms : Nat} {S3 : mB} {h3 : mH} {st' : List Value} {aa : Array Value} (hn : pc + 3 = n')
    (hr : ∀ (p : Program) (e : Env) (s : State) (m : MethodId) (args : Array Value) (below : List Frame) (meth : Method) (c : Code) (H : Heap) (locs : List Loc) (ls : Array Slot),
      mCx y p s m args meth c → mSn g s s.heap → va_P g.1 vwCl (mWs g n S h) H → H.size = mad g n → va_S (mA g) s.heap H locs → lv_has ls y.2.2.1 lv →
      va_Run p l e R s m args below meth c H locs cells slots mc ms (F0 m pc ls st') st (mQn g n3 S3 h3 aa) (mA g))
    (kk : mv g l R y n2 S2 h2 c2 s2 n' lv st n3 S3 h3 (cells + mc) (slots + ms)) : mv g l R y n2 S2 h2 c2 s2 pc lv st' n S h cells slots := by
  subst hn
  intro p e s m args below meth c H locs ls Cx I Sn P Z F hl T hT X
  obtain ⟨v, st₀, t, T', L, h0, X', hL, e1, e2, ⟨hv, hP1, hz1, hz, hq⟩, stp⟩ := hr p e s m args below meth c H locs ls Cx Sn P Z F hl T hT X
  cases hv
  rw [h0] at hz hq
  rw [← e1] at hP1 hz1 hz hq
  have F' : va_S (mA g) s.heap T'.heap (locs ++ L) := by
    refine ⟨Nat.le_trans F.1 hz, fun q h1 h2 => ?_, fun q hm => ?_⟩
    · rw [hq q (Nat.lt_of_lt_of_le h1 F.1) h2]
      exact F.2.1 q h1 h2
    · rcases List.mem_append.mp hm with hm | hm
      · exact F.2.2 q hm
      · exact hL q hm
  obtain ⟨t2, a1, b1⟩ := kk p e s m args below meth c T'.heap (locs ++ L) ls Cx I Sn hP1 hz1 F' hl T' rfl X'
  exact ⟨t2, stp t2 a1, b1⟩
theorem mPreN {s : State} {H : Heap} {locs : List Loc} {as : List Value} (Sn : mSn g s s.heap) (P : va_P g.1 vwCl (mWs g n S h) H) (Z : H.size = mad g n) (F : va_S (mA g) s.heap H locs) : PreS s H (va_Pc as (mPn g n S h)) as :=
  ⟨mPn.blind as, fun U hU hW => ⟨rfl, by rw [hU]; exact P, by rw [hU]; exact Z, by rw [hU]; exact mSn.warm hW F Sn⟩⟩
theorem mv_callI {y' : mD} {d' a i n3 mc ms : Nat} {S3 : mB} {h3 : mH} (hM : mcn g l d' y' a n S h n3 S3 h3 mc ms) (hO : mOk y' 0) (hy : y'.1.name = "<init>") (hr : y'.2.2.2 = none) (hR : (mRc d' mc ms).frames + 1 ≤ R.frames ∧ 8 + (y'.2.2.1 + 11) + (mRc d' mc ms).locals ≤ R.locals) (hRc : cells + mc ≤ R.cells ∧ slots + ms ≤ R.slots)
    (h1 : Cond.methodLink y.1.cls i y'.1 ∈ mTb) (h4 : Cond.instanceMethod y'.1 ∈ mTb) (hd : decode y.2.1 pc = .ok (.invokespecial i, 3)) (hn : pc + 3 = n') (hroom : (st.map fun v => v.category).sum ≤ 8)
    (kk : mv g l R y n2 S2 h2 c2 s2 n' lv st n3 S3 h3 (cells + mc) (slots + ms)) : mv g l R y n2 S2 h2 c2 s2 pc lv (.ref (mad g a) :: st) n S h cells slots := by
  refine mv_run (aa := (Value.ref (mad g a) :: ([] : List Value)).toArray) hn (fun p e s m args below meth c H locs ls Cx Sn P Z F hl => ?_) kk
  obtain ⟨y1, yc, yl, yr⟩ := y'
  obtain rfl : yr = none := hr
  exact va_runI (As := []) (rest := st) ⟨Cx.1, Cx.2.1, Cx.2.2.2.2.1, Cx.2.2.2.2.2.1, Cx.2.2.2.2.2.2⟩ hM (cwI 0 Cx.2.2.2.2.2.2 (mGood hO.2.2.1) rfl rfl rfl (Cx.2.2.2.2.2.2 _ hO.2.2.2) (Cx.2.2.2.2.2.2 _ h1) (Cx.2.2.2.2.2.2 _ h4) hy hO.1 hR) (mPreN Sn P Z F) rfl rfl hl.1 rfl (lv_room hroom) hd hRc
theorem mv_callIN {y' : mD} {d' a i n3 mc ms : Nat} {S3 : mB} {h3 : mH} {host : String} (hM : mcn g l d' y' a n S h n3 S3 h3 mc ms) (hO : mOk y' 0) (hy : y'.1.name = "<init>") (hr : y'.2.2.2 = none) (hR : (mRc d' mc ms).frames + 1 ≤ R.frames ∧ 8 + (y'.2.2.1 + 11) + (mRc d' mc ms).locals ≤ R.locals) (hRc : cells + mc ≤ R.cells ∧ slots + ms ≤ R.slots)
    (h1 : Cond.methodLinkNest y.1.cls i y'.1 host ∈ tables_1) (h4 : Cond.instanceMethod y'.1 ∈ mTb) (hd : decode y.2.1 pc = .ok (.invokespecial i, 3)) (hn : pc + 3 = n') (hroom : (st.map fun v => v.category).sum ≤ 8)
    (kk : mv g l R y n2 S2 h2 c2 s2 n' lv st n3 S3 h3 (cells + mc) (slots + ms)) : mv g l R y n2 S2 h2 c2 s2 pc lv (.ref (mad g a) :: st) n S h cells slots := by
  refine mv_run (aa := (Value.ref (mad g a) :: ([] : List Value)).toArray) hn (fun p e s m args below meth c H locs ls Cx Sn P Z F hl => ?_) kk
  obtain ⟨y1, yc, yl, yr⟩ := y'
  obtain rfl : yr = none := hr
  exact va_runIN (As := []) (rest := st) ⟨Cx.1, Cx.2.1, Cx.2.2.2.2.1, Cx.2.2.2.2.2.1, Cx.2.2.2.2.2.2⟩ hM ⟨va_cnB 0 Cx.2.2.2.2.2.2 (mGood hO.2.2.1) rfl rfl rfl (Sn.1.2.2.1 _ _ _ _ h1) (Cx.2.2.2.2.2.2 _ hO.2.2.2) hO.1 hR, hy, Cx.2.2.2.2.2.2 _ h4⟩ (mPreN Sn P Z F) rfl rfl hl.1 rfl (lv_room hroom) hd hRc
/-- a call of settle on the board 1, when the 82 cells stand -/
theorem mv_settle {N i : Nat} {h3 : mH} (hx : x_X2_settle N 1 h = some h3) (hs : mFull 82 S) (hR : (mRm 9).frames + 1 ≤ R.frames ∧ 8 + (1 + 11) + (mRm 9).locals ≤ R.locals) (hRc : cells ≤ R.cells ∧ slots ≤ R.slots)
    (h1 : Cond.methodLink y.1.cls i yX2_settle ∈ mTb) (hd : decode y.2.1 pc = .ok (.invokevirtual i, 3)) (hn : pc + 3 = n') (hroom : (st.map fun v => v.category).sum ≤ 8)
    (kk : mv g l R y n2 S2 h2 c2 s2 n' lv st 82 S h3 cells slots) : mv g l R y n2 S2 h2 c2 s2 pc lv (.ref (mad g 1) :: st) 82 S h cells slots := by
  refine mv_run (mc := 0) (ms := 0) (aa := (Value.ref (mad g 1) :: ([] : List Value)).toArray) hn (fun p e s m args below meth c H locs ls Cx Sn P Z F hl => ?_) kk
  have hle : 82 ≤ mnn g := by rw [Sn.2.2.2]; decide
  have hg : mOK (mgn g 82) := Or.inl rfl
  have ha : mkn (mgn g 82) 1 2 := ⟨show 1 < 82 by decide, rfl⟩
  have hM := Met_size (t_X2_settle (l := l) hg N 1 ha h h3 hx)
  have hP := (mWs_full (H := H) hs).mp P
  have hw : ∀ w ∈ wsV y.1.cls i RX2 yX2_settle (Cond.code yX2_settle cX2_settle 1 none :: mTb), w ∈ mTb ∧ ((w.onTables && w.keeps) = true ∨ ∃ ty, w = .arrayClass ty) := fun w hw => by
    rcases List.mem_append.mp (show w ∈ ([.methodLink y.1.cls i yX2_settle, .instanceMethod yX2_settle, .selects RX2 yX2_settle yX2_settle, .initialized RX2] : List Cond) ++ _ from hw) with hw | hw
    · simp only [List.mem_cons, List.not_mem_nil, or_false] at hw
      rcases hw with rfl | rfl | rfl | rfl
      · exact ⟨h1, good_of_word (mTb_good h1).2⟩
      · exact ⟨im_X2_settle, good_of_word (mTb_good im_X2_settle).2⟩
      · exact ⟨se_X2_settle, good_of_word (mTb_good se_X2_settle).2⟩
      · exact ⟨ok_X2_settle.2.2.2, good_of_word (mTb_good ok_X2_settle.2.2.2).2⟩
    · exact mGood (y' := mX2_settle) ok_X2_settle.2.2.1 w hw
  have run := va_runV (p := p) (e := e) (below := below) (meth := meth) (locs := locs) (cells := cells) (slots := slots) (R := R) (g := F0 m pc ls (.ref (mad g 1) :: st)) (As := []) (rest := st) (C := RX2) (H := H) (b := mad g 1) ⟨Cx.1, Cx.2.1, Cx.2.2.2.2.1, Cx.2.2.2.2.2.1, Cx.2.2.2.2.2.2⟩ hM (cwV 0 Cx.2.2.2.2.2.2 hw rfl rfl rfl ⟨rfl, ok_X2_settle.1⟩ hR)
    ⟨mP.blind _, va_recv (q0 := 1) Sn.1.1 hP cl2.2.1 (mWd_obj ha (by decide)), fun U hU hW => ⟨rfl, by rw [hU]; exact hP, by rw [hU]; exact mSt_n hle (mSt.warm hW F Sn.1)⟩⟩ rfl rfl hl.1 rfl (lv_room hroom) hd hRc
  intro T hT X
  obtain ⟨v, st₀, t, T', L, h0, X', hL, e1, e2, ⟨⟨hv, hP1, hz, hq⟩, hz2⟩, stp⟩ := run T hT X
  have hsz : t.heap.size = mad g 82 := by rw [← Z]; rw [h0] at hz hz2; omega
  exact ⟨v, st₀, t, T', L, h0, X', fun q hq => mA_n hle (hL q hq), e1, e2, ⟨hv, (mWs_full hs).mpr hP1, hsz, hz, fun q h1 h2 => hq q h1 (fun z => h2 (mA_n hle z))⟩, stp⟩
theorem mv_aast {a j b0 N : Nat} {i : Int32} (ha : mk a = 60 ∧ N = 14 ∧ b0 = 22 ∨ mk a = 61 ∧ N = 2 ∧ b0 = 76) (han : a < n) (hn1 : n ≤ 101) (hv : b0 + 3 * j < n) (hvk : mk (b0 + 3 * j) = 6) (hj : i.toNatClampNeg = j) (hi : vp_in i N) (hd : decode y.2.1 pc = .ok (.aastore, 1)) (hn : pc + 1 = n')
    (kk : mv g l R y n2 S2 h2 c2 s2 n' lv st n (mss S a j) h cells slots) : mv g l R y n2 S2 h2 c2 s2 pc lv (.ref (mad g (b0 + 3 * j)) :: .int i :: .ref (mad g a) :: st) n S h cells slots := by
  subst hn
  subst hj
  intro p e s m args below meth c H locs ls Cx I Sn P Z F hl
  have hadr := Sn.2.2.1
  have hD : va_D (mA g) (mWs g n S h) := mWs_D hadr (by rw [Sn.2.2.2]; exact hn1)
  have e1 : mEs g S h a = .inl (g.2.1.2.2, N, .inr (.inr (.inr (.inr fun j => if S a j = true then some (mad g (b0 + 3 * j)) else none)))) := by
    rcases ha with ⟨q, rfl, rfl⟩ | ⟨q, rfl, rfl⟩ <;> simp [mEs, q]
  have e2 : mEs g (mss S a i.toNatClampNeg) h a = .inl (g.2.1.2.2, N, .inr (.inr (.inr (.inr fun j => if mss S a i.toNatClampNeg a j = true then some (mad g (b0 + 3 * j)) else none)))) := by
    rcases ha with ⟨q, rfl, rfl⟩ | ⟨q, rfl, rfl⟩ <;> simp [mEs, q]
  have he : (mWs g n S h)[a]? = some (mad g a, .inl (g.2.1.2.2, N, .inr (.inr (.inr (.inr fun j => if S a j = true then some (mad g (b0 + 3 * j)) else none))))) := by rw [mWs_at han, e1]
  have hlt : i.toNatClampNeg < N := Nat.not_le.mp fun q => hi (Or.inr q)
  have h0 : ¬ i < 0 := fun q => hi (Or.inl q)
  obtain ⟨r', hr', cellV, g1, g2, g3, -⟩ := P (b0 + 3 * i.toNatClampNeg) _ (by rw [mWs_at hv, mEs_obj hvk (by decide)])
  have hcls := (Sn.1.1.1 6 _ cl6.2.1).2
  obtain ⟨kA, comp, k1, k2, k3, -⟩ := (Sn.1.1.2 2 _ rfl).2
  have hcomp : comp = g.1.1 6 := Option.some.inj (k3.symm.trans hcls.1)
  subst hcomp
  obtain ⟨kC, hkC, -⟩ := hcls.2
  refine W.aast Cx.1 Cx.2.1 (P a _ he) (fun q h => by cases h) (fun h => by cases h) k1 k2 rfl hkC ⟨h0, by show _ < (arrV _ _ _).slots.size; rw [arrV_size]; exact hlt⟩ g1 (fun q h => by rw [g3] at h; cases h) (by rw [g2]; exact hkC) (by rw [g2]; exact va_assign hcls) rfl rfl hd fun H1 e z oq => ?_
  have P1 := hP_set (S' := mss S a i.toNatClampNeg) (h' := h) P hD he (hn := han) (H1 := H1) (x := mEs g (mss S a i.toNatClampNeg) h a) (by
    rw [e2]
    show H1[mad g a]? = some (vp_cell _ _)
    rw [e, vp_cell_q, vp_cell_q, arrV_store]
    congr 2
    funext q
    by_cases hq : q = i.toNatClampNeg
    · subst hq
      simp [updV, mss, va_rf]
    · simp [updV, mss, hq]) oq rfl (fun j hj => mEs_neS hj)
  exact kk p _ s m args below meth c H1 _ ls Cx I Sn P1 (z.trans Z) (F.put z oq ⟨a, by rw [Sn.2.2.2]; omega, rfl⟩) hl
theorem mv_iast {a N j : Nat} {i v : Int32} (ha : mk a = 100 + N) (han : a < n) (hn1 : n ≤ 101) (hj : i.toNatClampNeg = j) (hi : vp_in i N) (hd : decode y.2.1 pc = .ok (.iastore, 1)) (hn : pc + 1 = n')
    (kk : mv g l R y n2 S2 h2 c2 s2 n' lv st n S (msi h a j v) cells slots) : mv g l R y n2 S2 h2 c2 s2 pc lv (.int v :: .int i :: .ref (mad g a) :: st) n S h cells slots := by
  subst hn
  subst hj
  intro p e s m args below meth c H locs ls Cx I Sn P Z F hl
  have hadr := Sn.2.2.1
  have hD : va_D (mA g) (mWs g n S h) := mWs_D hadr (by rw [Sn.2.2.2]; exact hn1)
  have he : (mWs g n S h)[a]? = some (mad g a, .inl (g.2.1.1, N, .inl (mgi h a))) := by rw [mWs_at han, mEs_int ha]
  refine W.iast Cx.1 Cx.2.1 (P a _ he) ((Sn.1.1.2 0 _ rfl).1 N (fun j => .int (mgi h a j))) (fun q => by cases q) (by show ¬ (i < 0 ∨ (arrV _ _ _).slots.size ≤ _); rw [arrV_size]; exact hi) rfl rfl hd fun H1 e z oq => ?_
  have P1 := hP_set (S' := S) (h' := msi h a i.toNatClampNeg v) P hD he (hn := han) (H1 := H1) (x := mEs g S (msi h a i.toNatClampNeg v) a) (by
    rw [mEs_int ha]
    show H1[mad g a]? = some (vp_cell _ _)
    rw [e, vp_cell_i, vp_cell_i, arrV_store]
    congr 2
    funext q
    by_cases hq : q = i.toNatClampNeg
    · subst hq
      simp [updV, mgi_msi]
    · simp [updV, mgi_msi, hq]) oq rfl (fun j hj => mEs_neI hj)
  exact kk p _ s m args below meth c H1 _ ls Cx I Sn P1 (z.trans Z) (F.put z oq ⟨a, by rw [Sn.2.2.2]; omega, rfl⟩) hl
end MV3
