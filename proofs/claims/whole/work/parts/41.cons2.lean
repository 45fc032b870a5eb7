def mdv (c k : Nat) : Value := match mfk c k with
  | 0 => .int 0
  | 1 => .long 0
  | _ => .null
theorem mfs_dv {g : mG} {S : mB} {h : mH} {n c k : Nat} (hF : mFr n S h) : mfs g S h n c k = mdv c k := by
  obtain ⟨h1, h2, h3⟩ := hF n (Nat.le_refl n)
  unfold mfs mdv
  split
  · rename_i q; simp [q, h1]
  · rename_i q; simp [q, h2]
  · rename_i q; simp [q, h3]
theorem mWs_P {g : mG} {n : Nat} {S : mB} {h : mH} {H H1 : Heap} (ha : ∀ i, mad g i = mad g 0 + i) (P : va_P g.1 vwCl (mWs g n S h) H) (o1 : ∀ q, q < mad g n → H1[q]? = H[q]?) (hv : va_at g.1 vwCl (mad g n, mEs g S h n) H1) : va_P g.1 vwCl (mWs g (n + 1) S h) H1 := by
  intro k q hq
  obtain ⟨hk, rfl⟩ := mWs_get hq
  by_cases e : k = n
  · subst e; exact hv
  · have hlt : k < n := by omega
    exact (P k _ (mWs_at hlt)).kept (o1 _ (by show mad g k < mad g n; rw [ha k, ha n]; omega))
theorem mS_grow {g : mG} {n : Nat} {H0 H H1 : Heap} {locs : List Loc} (F : va_S (mA g) H0 H locs) (Z : H.size = mad g n) (z1 : H1.size = mad g n + 1) (o1 : ∀ q, q < mad g n → H1[q]? = H[q]?) : va_S (mA g) H0 H1 locs := by
  have := F.1
  refine ⟨by omega, fun q h1 h2 => ?_, F.2.2⟩
  rw [o1 q (by omega)]
  exact F.2.1 q h1 h2
theorem hP_set {g : mG} {n : Nat} {S S' : mB} {h h' : mH} {H H1 : Heap} {a : Nat} {x y : va_E} (P : va_P g.1 vwCl (mWs g n S h) H) (hD : va_D (mA g) (mWs g n S h)) (he : (mWs g n S h)[a]? = some (mad g a, y)) (hn : a < n) (hx : va_at g.1 vwCl (mad g a, x) H1) (oq : ∀ q : Nat, q ≠ mad g a → H1[q]? = H[q]?) (hs1 : x = mEs g S' h' a) (hs2 : ∀ j, j ≠ a → mEs g S' h' j = mEs g S h j) : va_P g.1 vwCl (mWs g n S' h') H1 := by
  have := P.set hD he hx oq
  rwa [mWs_set hs1 hs2] at this
section MV2
variable {g : mG} {l : Launch} {R : Room} {y : mD} {n2 : Nat} {S2 : mB} {h2 : mH} {c2 s2 pc n' : Nat} {lv : List (Nat × Value)} {st : List Value} {n : Nat} {S : mB} {h : mH} {cells slots : Nat}
theorem mv_new {ci i : Nat} {C : String} {T : u_T} {ty : Nat → FieldType} (hC : mCl ci C T) (hty : ∀ k, k < mNf ci → parseFieldDescriptor (T k).2.2.1 = some (ty k)) (hdv : ∀ j, j < mNf ci → defaultValue (ty j) = mdv ci j) (hk : mk n = ci) (hF : mFr n S h) (h1 : Cond.classLink y.1.cls i C ∈ mTb) (h3 : Cond.instantiable C (mNf ci) ∈ mTb) (h4 : Cond.initialized C ∈ mTb) (hd : decode y.2.1 pc = .ok (.new i, 3)) (hn : pc + 3 = n') (hR : cells + 1 ≤ R.cells ∧ slots + mNf ci ≤ R.slots)
    (k : mv g l R y n2 S2 h2 c2 s2 n' lv (.ref (mad g n) :: st) (n + 1) S h (cells + 1) (slots + mNf ci)) : mv g l R y n2 S2 h2 c2 s2 pc lv st n S h cells slots := by
  subst hn
  intro p e s m args below meth c H locs ls Cx I Sn P Z F hl
  have ha := Sn.2.2.1
  have hKn := Sn.1.1.1 ci _ hC.2.1
  refine W.newcK Cx.1 Cx.2.1 Cx.2.2.2.2.2.1 (Cx.2.2.2.2.2.2 _ h1) (Cx.2.2.2.2.2.2 _ h3) (Cx.2.2.2.2.2.2 _ h4) rfl hd hR.1 hR.2 hKn.2.1 Z fun H1 kC hkC e1 z1 o1 => ?_
  refine k p e s m args below meth c H1 locs ls Cx I Sn (mWs_P ha P o1 ?_) (by rw [z1, ha (n + 1), ha n]; omega) (mS_grow F Z z1 o1) hl
  rw [mEs_obj hk hC.1]
  refine ⟨_, hC.2.1, (u_born ty Cx.2.2.2.2.2.2 hC.2.2 hKn hkC e1 hty).to fun j hj => ?_⟩
  rw [hdv j hj, ← mfs_dv (g := g) hF]
  simp [vp_V, mFS_at hj]
theorem mv_newI {N : Nat} {z : Int32} (hk : mk n = 100 + N) (hz : ¬ z < 0) (hN : z.toNatClampNeg = N) (hb : N * 4 ≤ 536870912) (hF : mFr n S h) (h1 : Cond.arrayClass .int ∈ mTb) (hd : decode y.2.1 pc = .ok (.newarray .int, 2)) (hn : pc + 2 = n') (hR : cells + 1 ≤ R.cells ∧ slots + N ≤ R.slots)
    (k : mv g l R y n2 S2 h2 c2 s2 n' lv (.ref (mad g n) :: st) (n + 1) S h (cells + 1) (slots + N)) : mv g l R y n2 S2 h2 c2 s2 pc lv (.int z :: st) n S h cells slots := by
  subst hn
  intro p e s m args below meth c H locs ls Cx I Sn P Z F hl
  have ha := Sn.2.2.1
  refine va_newaK (atype := .int) Cx.1 Cx.2.1 (Cx.2.2.2.2.2.2 _ h1) rfl hd rfl hz hN hb hR.1 hR.2 Z fun H1 cA e1 z1 o1 hAr hNm => ?_
  have hRA := (Sn.1.1.2 0 _ rfl).2
  have hc : cA = g.2.1.1 := Option.some.inj (hNm.symm.trans hRA)
  subst hc
  refine k p e s m args below meth c H1 locs ls Cx I Sn (mWs_P ha P o1 ?_) (by rw [z1, ha (n + 1), ha n]; omega) (mS_grow F Z z1 o1) hl
  rw [mEs_int hk]
  show H1[mad g n]? = some (arrV g.2.1.1 N (fun j => .int (mgi h n j)))
  have e0 : (fun j => Value.int (mgi h n j)) = fun _ => Value.int 0 := funext fun j => by rw [(hF n (Nat.le_refl n)).1 j]
  rw [e0]
  exact e1
theorem mv_newZ {z : Int32} (hk : mk n = 50) (hz : ¬ z < 0) (hN : z.toNatClampNeg = 2) (hF : mFr n S h) (h1 : Cond.arrayClass .boolean ∈ mTb) (hd : decode y.2.1 pc = .ok (.newarray .boolean, 2)) (hn : pc + 2 = n') (hR : cells + 1 ≤ R.cells ∧ slots + 2 ≤ R.slots)
    (k : mv g l R y n2 S2 h2 c2 s2 n' lv (.ref (mad g n) :: st) (n + 1) S h (cells + 1) (slots + 2)) : mv g l R y n2 S2 h2 c2 s2 pc lv (.int z :: st) n S h cells slots := by
  subst hn
  intro p e s m args below meth c H locs ls Cx I Sn P Z F hl
  have ha := Sn.2.2.1
  refine va_newaK (atype := .boolean) Cx.1 Cx.2.1 (Cx.2.2.2.2.2.2 _ h1) rfl hd rfl hz hN (by decide) hR.1 hR.2 Z fun H1 cA e1 z1 o1 hAr hNm => ?_
  have hRA := (Sn.1.1.2 1 _ rfl).2
  have hc : cA = g.2.1.2.1 := Option.some.inj (hNm.symm.trans hRA)
  subst hc
  refine k p e s m args below meth c H1 locs ls Cx I Sn (mWs_P ha P o1 ?_) (by rw [z1, ha (n + 1), ha n]; omega) (mS_grow F Z z1 o1) hl
  rw [show mEs g S h n = .inl (g.2.1.2.1, 2, .inl (mgi h n)) by simp [mEs, hk]]
  show H1[mad g n]? = some (arrV g.2.1.2.1 2 (fun j => .int (mgi h n j)))
  have e0 : (fun j => Value.int (mgi h n j)) = fun _ => Value.int 0 := funext fun j => by rw [(hF n (Nat.le_refl n)).1 j]
  rw [e0]
  exact e1
theorem mv_newA {N i : Nat} {z : Int32} (hk : mk n = 60 ∧ N = 14 ∨ mk n = 61 ∧ N = 2) (hz : ¬ z < 0) (hN : z.toNatClampNeg = N) (hF : mFr n S h) (h1 : Cond.classLink y.1.cls i "TwoViews$Sheet" ∈ mTb) (hd : decode y.2.1 pc = .ok (.anewarray i, 3)) (hn : pc + 3 = n') (hR : cells + 1 ≤ R.cells ∧ slots + N ≤ R.slots)
    (k : mv g l R y n2 S2 h2 c2 s2 n' lv (.ref (mad g n) :: st) (n + 1) S h (cells + 1) (slots + N)) : mv g l R y n2 S2 h2 c2 s2 pc lv (.int z :: st) n S h cells slots := by
  subst hn
  subst hN
  intro p e s m args below meth c H locs ls Cx I Sn P Z F hl
  have ha := Sn.2.2.1
  refine W.anew Cx.1 Cx.2.1 Cx.2.2.2.2.2.1 (Cx.2.2.2.2.2.2 _ h1) (va_AO.use Sn.2.1) rfl hd rfl hz (by rcases hk with ⟨-, q⟩ | ⟨-, q⟩ <;> rw [q] <;> decide) hR.1 hR.2 fun cA kA comp f1 f2 f3 f4 => ?_
  obtain ⟨_, _, -, -, -, hRA⟩ := (Sn.1.1.2 2 _ rfl).2
  have hc : cA = g.2.1.2.2 := Option.some.inj (f1.symm.trans hRA)
  subst hc
  rw [Z]
  generalize hH1 : H.push ({ cls := g.2.1.2.2, slots := Array.replicate z.toNatClampNeg .null, vm := .none } : Cell) = H1
  have z1 : H1.size = mad g n + 1 := by rw [← hH1, Array.size_push, Z]
  have e1 : H1[mad g n]? = some (arrV g.2.1.2.2 z.toNatClampNeg (fun _ => .null)) := by rw [← hH1, ← Z, Array.getElem?_push_size, ← arrV_new]
  have o1 : ∀ q : Nat, q < mad g n → H1[q]? = H[q]? := fun q hq => by rw [← hH1, Array.getElem?_push, if_neg (by omega)]
  refine k p e s m args below meth c H1 locs ls Cx I Sn (mWs_P ha P o1 ?_) (by rw [z1, ha (n + 1), ha n]; omega) (mS_grow F Z z1 o1) hl
  have h3 := (hF n (Nat.le_refl n)).2.2
  rcases hk with ⟨q, hN⟩ | ⟨q, hN⟩
  · have e0 : mEs g S h n = .inl (g.2.1.2.2, 14, .inr (.inr (.inr (.inr fun _ => none)))) := by simp [mEs, q, h3]
    rw [e0]
    rw [hN] at e1
    exact e1
  · have e0 : mEs g S h n = .inl (g.2.1.2.2, 2, .inr (.inr (.inr (.inr fun _ => none)))) := by simp [mEs, q, h3]
    rw [e0]
    rw [hN] at e1
    exact e1
theorem mEs_setR {a c k t : Nat} (ha : mk a = c) (hc : c < 10) (hk : mfk c k = t + 2) : Sum.inr (c, (mFS g S h a c).set k (.ref (mad g (a + t)))) = mEs g (mss S a k) h a := by
  have e := mFS_set (g := g) (S := S) (S' := mss S a k) (h := h) (h' := h) (i := a) (c := c) (k := k) (fun j hj => mfs_eq rfl rfl (by unfold mss; rw [if_neg (fun q => hj q.2)]))
  have e2 : mfs g (mss S a k) h a c k = .ref (mad g (a + t)) := by unfold mfs; rw [hk]; simp [mss]
  rw [e2] at e
  rw [mEs_obj ha hc, e]
theorem mEs_neS {a j k : Nat} (hj : j ≠ a) : mEs g (mss S a k) h j = mEs g S h j := mEs_eq (fun _ => rfl) (fun _ => rfl) (fun q => by unfold mss; rw [if_neg (fun z => hj z.1)])
theorem mv_putr {ci a k i t : Nat} {C : String} {T : u_T} {ty0 : Nat → FieldType} (hC : mCl ci C T) (hty : ∀ k, k < mNf ci → parseFieldDescriptor (T k).2.2.1 = some (ty0 k)) (hnm : ∀ a, a < mNf ci → ∀ b, b < mNf ci → a ≠ b → (T a).2.1 ≠ (T b).2.1) (ha : mk a = ci) (han : a < n) (hn1 : n ≤ 101) (hk : k < mNf ci) (hf : mfk ci k = t + 2) (hT : (T k).1 = C) (hown : y.1.cls = C) (hfin : (T k).2.2.2 = true) (hfit : narrow (ty0 k) (.ref (mad g (a + t))) = .ref (mad g (a + t)) ∧ fits (ty0 k) (.ref (mad g (a + t))) = true) (hL : Cond.fieldLink y.1.cls i C (T k).2.1 (T k).2.2.1 ∈ mTb) (hd : decode y.2.1 pc = .ok (.putfield i, 3)) (hn : pc + 3 = n')
    (kk : mv g l R y n2 S2 h2 c2 s2 n' lv st n (mss S a k) h cells slots) : mv g l R y n2 S2 h2 c2 s2 pc lv (.ref (mad g (a + t)) :: .ref (mad g a) :: st) n S h cells slots := by
  subst hn
  intro p e s m args below meth c H locs ls Cx I Sn P Z F hl
  have hadr := Sn.2.2.1
  have hts := Cx.2.2.2.2.2.2
  have he : (mWs g n S h)[a]? = some (mad g a, .inr (ci, mFS g S h a ci)) := by rw [mWs_at han, mEs_obj ha hC.1]
  have hD : va_D (mA g) (mWs g n S h) := mWs_D hadr (by rw [Sn.2.2.2]; exact hn1)
  have hap := va_apart (own := y.1.cls) hts hC.2.2 ty0 hty hnm Sn.1.1 hC.2.1
  obtain ⟨r, h1, cell, q1, q2, q3, q4⟩ := P a _ he
  have hr : r = (C, T, mNf ci) := Option.some.inj (h1.symm.trans hC.2.1)
  subst hr
  obtain ⟨hSl, hfc, kC, hkC, hkind⟩ := Sn.1.1.1 ci _ hC.2.1
  obtain ⟨cf, kf, fi, f, hi, hsl⟩ := hSl k hk
  have hlay := hts _ (hC.2.2 _ (u_in_lay hk))
  unfold u_lay at hlay
  rw [if_pos hfin] at hlay
  have hst := (u_facts hfc hkC (u_lays hts hC.2.2 hk) hi).1
  have hcf : m.cls = cf := by
    obtain ⟨_, _, c', _, _, _, -, -, hf', -, -, -, hown2, -⟩ := Cond.laysFinal_spec hlay
    have e1 : c' = cf := by have := hi.symm.trans hf'; simp at this; exact this.1.symm
    have e2 : (T k).1 = y.1.cls := hT.trans hown.symm
    rw [e2] at hown2
    rw [← e1]; exact Option.some.inj (Cx.2.2.2.2.2.1.symm.trans hown2)
  have h6 := u_fits hfc hkC hkind (Or.inr hlay) hi (hty k hk) hfit.1 hfit.2
  refine W.putFinK Cx.1 Cx.2.1 Cx.2.2.2.2.2.1 (hts _ hL) (show s.fieldFound? C _ _ = _ from by rw [← hT]; exact hi) hst hcf I (by rw [q2]; exact h6) q1 q3 (by rw [hsl]; exact k2_hasslot (q4 k hk)) rfl rfl hd fun H1 e1 e2 e3 => ?_
  rw [hsl] at e1 ⊢
  have P1 := hP_set (S' := mss S a k) (h' := h) P hD he (hn := han) (x := .inr (ci, (mFS g S h a ci).set k (.ref (mad g (a + t))))) ⟨_, hC.2.1, t_OB.to (V := updV (vp_V (mFS g S h a ci)) k (.ref (mad g (a + t)))) ⟨_, e1, q2, q3, t_set q4 hap hk _⟩ (fun j _ => vp_updV_set (by rw [mFS_len]; exact hk) _ j)⟩ e3 (mEs_setR ha hC.1 hf) (fun j hj => mEs_neS hj)
  exact kk p e s m args below meth c H1 _ ls Cx I Sn P1 (e2.trans Z) (F.put e2 e3 ⟨a, by rw [Sn.2.2.2]; omega, rfl⟩) hl
theorem mEs_setI {a c k : Nat} {v : Int32} (ha : mk a = c) (hc : c < 10) (hk : mfk c k = 0) : Sum.inr (c, (mFS g S h a c).set k (.int v)) = mEs g S (msi h a k v) a := by
  have e := mFS_set (g := g) (S := S) (S' := S) (h := h) (h' := msi h a k v) (i := a) (c := c) (k := k) (fun j hj => mfs_eq (by rw [mgi_msi, if_neg (fun q => hj q.2)]) rfl rfl)
  have e2 : mfs g S (msi h a k v) a c k = .int v := by unfold mfs; rw [hk]; simp [mgi_msi]
  rw [e2] at e
  rw [mEs_obj ha hc, e]
theorem mEs_setL {a c k : Nat} {v : Int64} (ha : mk a = c) (hc : c < 10) (hk : mfk c k = 1) : Sum.inr (c, (mFS g S h a c).set k (.long v)) = mEs g S (msl h a k v) a := by
  have e := mFS_set (g := g) (S := S) (S' := S) (h := h) (h' := msl h a k v) (i := a) (c := c) (k := k) (fun j hj => mfs_eq rfl (by rw [mgl_msl, if_neg (fun q => hj q.2)]) rfl)
  have e2 : mfs g S (msl h a k v) a c k = .long v := by unfold mfs; rw [hk]; simp [mgl_msl]
  rw [e2] at e
  rw [mEs_obj ha hc, e]
theorem mEs_neI {a j k : Nat} {v : Int32} (hj : j ≠ a) : mEs g S (msi h a k v) j = mEs g S h j := mEs_eq (fun q => by rw [mgi_msi, if_neg (fun z => hj z.1)]) (fun _ => rfl) (fun _ => rfl)
theorem mEs_neL {a j k : Nat} {v : Int64} (hj : j ≠ a) : mEs g S (msl h a k v) j = mEs g S h j := mEs_eq (fun _ => rfl) (fun q => by rw [mgl_msl, if_neg (fun z => hj z.1)]) (fun _ => rfl)
/-- an int or long field that is not final -/
theorem mv_putv {ci a k i : Nat} {C : String} {T : u_T} {ty0 : Nat → FieldType} {v : Value} {h' : mH} (hC : mCl ci C T) (hty : ∀ k, k < mNf ci → parseFieldDescriptor (T k).2.2.1 = some (ty0 k)) (hnm : ∀ a, a < mNf ci → ∀ b, b < mNf ci → a ≠ b → (T a).2.1 ≠ (T b).2.1) (ha : mk a = ci) (han : a < n) (hn1 : n ≤ 101) (hk : k < mNf ci) (hT : (T k).1 = C) (hfin : (T k).2.2.2 = false) (hfit : narrow (ty0 k) v = v ∧ fits (ty0 k) v = true) (hL : Cond.fieldLink y.1.cls i C (T k).2.1 (T k).2.2.1 ∈ mTb) (hd : decode y.2.1 pc = .ok (.putfield i, 3)) (hn : pc + 3 = n')
    (hs1 : Sum.inr (ci, (mFS g S h a ci).set k v) = mEs g S h' a) (hs2 : ∀ j, j ≠ a → mEs g S h' j = mEs g S h j)
    (kk : mv g l R y n2 S2 h2 c2 s2 n' lv st n S h' cells slots) : mv g l R y n2 S2 h2 c2 s2 pc lv (v :: .ref (mad g a) :: st) n S h cells slots := by
  subst hn
  intro p e s m args below meth c H locs ls Cx I Sn P Z F hl
  have hadr := Sn.2.2.1
  have hts := Cx.2.2.2.2.2.2
  have he : (mWs g n S h)[a]? = some (mad g a, .inr (ci, mFS g S h a ci)) := by rw [mWs_at han, mEs_obj ha hC.1]
  have hD : va_D (mA g) (mWs g n S h) := mWs_D hadr (by rw [Sn.2.2.2]; exact hn1)
  have hap := va_apart (own := y.1.cls) hts hC.2.2 ty0 hty hnm Sn.1.1 hC.2.1
  obtain ⟨r, h1, cell, q1, q2, q3, q4⟩ := P a _ he
  have hr : r = (C, T, mNf ci) := Option.some.inj (h1.symm.trans hC.2.1)
  subst hr
  obtain ⟨hSl, hfc, kC, hkC, hkind⟩ := Sn.1.1.1 ci _ hC.2.1
  obtain ⟨cf, kf, fi, f, hi, hsl⟩ := hSl k hk
  have hlay := hts _ (hC.2.2 _ (u_in_lay hk))
  unfold u_lay at hlay
  rw [if_neg (by rw [hfin]; decide)] at hlay
  have hst := (u_facts hfc hkC (u_lays hts hC.2.2 hk) hi).1
  have h6 := u_store hfc hkC hkind hlay hi (hty k hk) hfit.1 hfit.2
  refine W.putK Cx.1 Cx.2.1 (f := f) ⟨Cx.2.2.2.2.2.1, hts _ hL, ⟨_, _, _, show s.fieldFound? C _ _ = _ from by rw [← hT]; exact hi⟩, hst⟩ (by rw [q2]; exact h6) q1 q3 (by rw [hsl]; exact k2_hasslot (q4 k hk)) rfl rfl hd fun H1 e1 e2 e3 => ?_
  rw [hsl] at e1 ⊢
  have P1 := hP_set (S' := S) (h' := h') P hD he (hn := han) (x := .inr (ci, (mFS g S h a ci).set k v)) ⟨_, hC.2.1, t_OB.to (V := updV (vp_V (mFS g S h a ci)) k v) ⟨_, e1, q2, q3, t_set q4 hap hk _⟩ (fun j _ => vp_updV_set (by rw [mFS_len]; exact hk) _ j)⟩ e3 hs1 hs2
  exact kk p e s m args below meth c H1 _ ls Cx I Sn P1 (e2.trans Z) (F.put e2 e3 ⟨a, by rw [Sn.2.2.2]; omega, rfl⟩) hl
theorem mv_puti {ci a k i : Nat} {C : String} {T : u_T} {ty0 : Nat → FieldType} {v : Int32} (hC : mCl ci C T) (hty : ∀ k, k < mNf ci → parseFieldDescriptor (T k).2.2.1 = some (ty0 k)) (hnm : ∀ a, a < mNf ci → ∀ b, b < mNf ci → a ≠ b → (T a).2.1 ≠ (T b).2.1) (ha : mk a = ci) (han : a < n) (hn1 : n ≤ 101) (hk : k < mNf ci) (hf : mfk ci k = 0) (hT : (T k).1 = C) (hfin : (T k).2.2.2 = false) (hI : ty0 k = .int) (hL : Cond.fieldLink y.1.cls i C (T k).2.1 (T k).2.2.1 ∈ mTb) (hd : decode y.2.1 pc = .ok (.putfield i, 3)) (hn : pc + 3 = n')
    (kk : mv g l R y n2 S2 h2 c2 s2 n' lv st n S (msi h a k v) cells slots) : mv g l R y n2 S2 h2 c2 s2 pc lv (.int v :: .ref (mad g a) :: st) n S h cells slots :=
  mv_putv hC hty hnm ha han hn1 hk hT hfin (by rw [hI]; exact ⟨rfl, rfl⟩) hL hd hn (mEs_setI ha hC.1 hf) (fun j hj => mEs_neI hj) kk
theorem mv_putl {ci a k i : Nat} {C : String} {T : u_T} {ty0 : Nat → FieldType} {v : Int64} (hC : mCl ci C T) (hty : ∀ k, k < mNf ci → parseFieldDescriptor (T k).2.2.1 = some (ty0 k)) (hnm : ∀ a, a < mNf ci → ∀ b, b < mNf ci → a ≠ b → (T a).2.1 ≠ (T b).2.1) (ha : mk a = ci) (han : a < n) (hn1 : n ≤ 101) (hk : k < mNf ci) (hf : mfk ci k = 1) (hT : (T k).1 = C) (hfin : (T k).2.2.2 = false) (hI : ty0 k = .long) (hL : Cond.fieldLink y.1.cls i C (T k).2.1 (T k).2.2.1 ∈ mTb) (hd : decode y.2.1 pc = .ok (.putfield i, 3)) (hn : pc + 3 = n')
    (kk : mv g l R y n2 S2 h2 c2 s2 n' lv st n S (msl h a k v) cells slots) : mv g l R y n2 S2 h2 c2 s2 pc lv (.long v :: .ref (mad g a) :: st) n S h cells slots :=
  mv_putv hC hty hnm ha han hn1 hk hT hfin (by rw [hI]; exact ⟨rfl, rfl⟩) hL hd hn (mEs_setL ha hC.1 hf) (fun j hj => mEs_neL hj) kk
theorem mv_getr {ci a k i t : Nat} {C : String} {T : u_T} (hC : mCl ci C T) (ha : mk a = ci) (han : a < n) (hk : k < mNf ci) (hf : mfk ci k = t + 2) (hs : S a k = true) (hT : (T k).1 = C) (hL : Cond.fieldLink y.1.cls i C (T k).2.1 (T k).2.2.1 ∈ mTb) (hd : decode y.2.1 pc = .ok (.getfield i, 3)) (hn : pc + 3 = n') (kk : mv g l R y n2 S2 h2 c2 s2 n' lv (.ref (mad g (a + t)) :: st) n S h cells slots) : mv g l R y n2 S2 h2 c2 s2 pc lv (.ref (mad g a) :: st) n S h cells slots := by
  subst hn
  intro p e s m args below meth c H locs ls Cx I Sn P Z F hl
  exact va_get Cx.1 Cx.2.1 Cx.2.2.2.2.2.2 hC.2.2 Cx.2.2.2.2.2.1 Sn.1.1 P a (by rw [mWs_at han, mEs_obj ha hC.1]) hC.2.1 k hk (Cx.2.2.2.2.2.2 _ hL) (fun x hx => by rw [← hT]; exact hx) (by rw [mFS_at hk]; unfold mfs; rw [hf]; simp [hs]) hd (kk p e s m args below meth c H locs ls Cx I Sn P Z F hl)
end MV2
