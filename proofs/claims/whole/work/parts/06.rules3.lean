def mlet {α β : Type} (e : α) (k : α → β) : β := k e
def mzc {β : Type} (x : Int32) (k : Option β) : Option β := if x = 0 ∨ x = 1 then k else none
def mzd {β : Type} (z : Int32) (k : Option β) : Option β := if z = 0 then none else k
def mzdL {β : Type} (z : Int64) (k : Option β) : Option β := if z = 0 then none else k
theorem mz01 {P : Prop} [Decidable P] {a b : Int32} (ha : a = 0 ∨ a = 1) (hb : b = 0 ∨ b = 1) : (if P then a else b) = 0 ∨ (if P then a else b) = 1 := by
  by_cases h : P
  · rw [if_pos h]; exact ha
  · rw [if_neg h]; exact hb
theorem sw_ne {x v : Int32} {k : Int} (h : ¬ x = v) (hk : v.toInt = k) : x.toInt ≠ k := fun q => h (Int32.toInt_inj.mp (q.trans hk.symm))
section MX
variable {g : mG} {l : Launch} {d : Nat} {y : mD} {β : Type} {em : β → Option Value × mH} {pc n : Nat} {lv : List (Nat × Value)} {st : List Value} {h : mH} {o : Option β}
theorem mw_letI {e : Int32} {k : Int32 → Option β} (kk : ∀ v, mw g l d y em pc lv (.int v :: st) h (k v)) : mw g l d y em pc lv (.int e :: st) h (mlet e k) := kk e
theorem mw_letJ {e : Int64} {k : Int64 → Option β} (kk : ∀ v, mw g l d y em pc lv (.long v :: st) h (k v)) : mw g l d y em pc lv (.long e :: st) h (mlet e k) := kk e
theorem mw_leth {e : mH} {k : mH → Option β} (kk : ∀ v, mw g l d y em pc lv st v (k v)) : mw g l d y em pc lv st e (mlet e k) := kk e
theorem mw_topeq {v v' : Int32} (e : v = v') (k : mw g l d y em pc lv (.int v' :: st) h o) : mw g l d y em pc lv (.int v :: st) h o := by rw [e]; exact k
theorem mw_cutJ {pc' : Nat} {lv' : List (Nat × Value)} {st' : List Value} (k : mw g l d y em pc' lv' st' h o → mw g l d y em pc lv st h o) (hJ : mw g l d y em pc' lv' st' h o) : mw g l d y em pc lv st h o := k hJ
theorem mw_zretC {x : Int32} {b : β} (hd : decode y.2.1 pc = .ok (.ireturn, 1)) (hr : y.2.2.2 = some .boolean) (he : em b = (some (.int x), h)) : mw g l d y em pc lv [.int x] h (mzc x (some b)) := by
  by_cases q : x = 0 ∨ x = 1
  · rw [show mzc x (some b) = some b from if_pos q]
    exact mw_zret hd hr q he
  · rw [show mzc x (some b) = none from if_neg q]
    exact mw_none
theorem mw_iaLd {a N j : Nat} {i : Int32} (ha : mkn g a (100 + N)) (hj : i.toNatClampNeg = j) (hi : ¬ (i < 0 ∨ N ≤ i.toNatClampNeg)) (hd : decode y.2.1 pc = .ok (.iaload, 1)) (hn : pc + 1 = n) (kk : mw g l d y em n lv (.int (mgi h a j) :: st) h o) : mw g l d y em pc lv (.int i :: .ref (mad g a) :: st) h o := by
  subst hj
  exact mw_iald' ha hi hd hn kk
theorem mw_alen {a N : Nat} {v : Int32} (ha : mkn g a (100 + N)) (hv : Int32.ofNat N = v) (hd : decode y.2.1 pc = .ok (.arraylength, 1)) (hn : pc + 1 = n) (kk : mw g l d y em n lv (.int v :: st) h o) : mw g l d y em pc lv (.ref (mad g a) :: st) h o := by
  subst hn
  intro b hb p e s m args below meth c H locs ls Cx S P F hl
  exact va_alen Cx.1 Cx.2.1 S.1 P a 0 (mWd_int ha) rfl hv hd (kk b hb p e s m args below meth c H locs ls Cx S P F hl)
theorem mw_iaSt {a N j : Nat} {i v : Int32} (ha : mkn g a (100 + N)) (hj : i.toNatClampNeg = j) (hi : ¬ (i < 0 ∨ N ≤ i.toNatClampNeg)) (hd : decode y.2.1 pc = .ok (.iastore, 1)) (hn : pc + 1 = n) (kk : mw g l d y em n lv st (msi h a j v) o) : mw g l d y em pc lv (.int v :: .int i :: .ref (mad g a) :: st) h o := by
  subst hj
  have k := mw_iast (i := i) ha hd hn kk
  rwa [mck_ok hi] at k
theorem mw_idivC {x z : Int32} (hd : decode y.2.1 pc = .ok (.idiv, 1)) (hn : pc + 1 = n) (k : mw g l d y em n lv (.int (x / z) :: st) h o) : mw g l d y em pc lv (.int z :: .int x :: st) h (mzd z o) := by
  by_cases q : z = 0
  · rw [show mzd z o = none from if_pos q]
    exact mw_none
  · rw [show mzd z o = o from if_neg q]
    exact mw_idiv hd hn q k
theorem mw_iremC {x z : Int32} (hd : decode y.2.1 pc = .ok (.irem, 1)) (hn : pc + 1 = n) (k : mw g l d y em n lv (.int (xrem x z) :: st) h o) : mw g l d y em pc lv (.int z :: .int x :: st) h (mzd z o) := by
  by_cases q : z = 0
  · rw [show mzd z o = none from if_pos q]
    exact mw_none
  · rw [show mzd z o = o from if_neg q]
    exact mw_irem hd hn q k
theorem mw_ldivC {x z : Int64} (hd : decode y.2.1 pc = .ok (.ldiv, 1)) (hn : pc + 1 = n) (k : mw g l d y em n lv (.long (x / z) :: st) h o) : mw g l d y em pc lv (.long z :: .long x :: st) h (mzdL z o) := by
  by_cases q : z = 0
  · rw [show mzdL z o = none from if_pos q]
    exact mw_none
  · rw [show mzdL z o = o from if_neg q]
    exact mw_ldiv hd hn q k
theorem mw_lremC {x z : Int64} (hd : decode y.2.1 pc = .ok (.lrem, 1)) (hn : pc + 1 = n) (k : mw g l d y em n lv (.long (xlrem x z) :: st) h o) : mw g l d y em pc lv (.long z :: .long x :: st) h (mzdL z o) := by
  by_cases q : z = 0
  · rw [show mzdL z o = none from if_pos q]
    exact mw_none
  · rw [show mzdL z o = o from if_neg q]
    exact mw_lrem hd hn q k
theorem mw_if_eq_m {x : Int32} {off : Int} {t : Nat} (hd : decode y.2.1 pc = .ok (.ifCond .eq off, 3)) (hn : pc + 3 = n) (ht : (pc : Int) + off = (t : Int)) (kt : x = 0 → mw g l d y em t lv st h o) (kf : ¬ (x = 0) → mw g l d y em n lv st h o) : mw g l d y em pc lv (.int x :: st) h o := by
  have k := mw_if_eq (P := x = 0) (y := y) (em := em) (o1 := o) (o2 := o) hd hn ht Iff.rfl kt kf
  by_cases q : x = 0
  · rwa [if_pos q] at k
  · rwa [if_neg q] at k
theorem mw_icmp_eq_m {x z : Int32} {off : Int} {t : Nat} (hd : decode y.2.1 pc = .ok (.if_icmp .eq off, 3)) (hn : pc + 3 = n) (ht : (pc : Int) + off = (t : Int)) (kt : x = z → mw g l d y em t lv st h o) (kf : ¬ (x = z) → mw g l d y em n lv st h o) : mw g l d y em pc lv (.int z :: .int x :: st) h o := by
  have k := mw_icmp_eq (P := x = z) (y := y) (em := em) (o1 := o) (o2 := o) hd hn ht Iff.rfl kt kf
  by_cases q : x = z
  · rwa [if_pos q] at k
  · rwa [if_neg q] at k
theorem mw_if_ne_m {x : Int32} {off : Int} {t : Nat} (hd : decode y.2.1 pc = .ok (.ifCond .ne off, 3)) (hn : pc + 3 = n) (ht : (pc : Int) + off = (t : Int)) (kt : ¬ x = 0 → mw g l d y em t lv st h o) (kf : ¬ (¬ x = 0) → mw g l d y em n lv st h o) : mw g l d y em pc lv (.int x :: st) h o := by
  have k := mw_if_ne (P := ¬ x = 0) (y := y) (em := em) (o1 := o) (o2 := o) hd hn ht Iff.rfl kt kf
  by_cases q : ¬ x = 0
  · rwa [if_pos q] at k
  · rwa [if_neg q] at k
theorem mw_icmp_ne_m {x z : Int32} {off : Int} {t : Nat} (hd : decode y.2.1 pc = .ok (.if_icmp .ne off, 3)) (hn : pc + 3 = n) (ht : (pc : Int) + off = (t : Int)) (kt : ¬ x = z → mw g l d y em t lv st h o) (kf : ¬ (¬ x = z) → mw g l d y em n lv st h o) : mw g l d y em pc lv (.int z :: .int x :: st) h o := by
  have k := mw_icmp_ne (P := ¬ x = z) (y := y) (em := em) (o1 := o) (o2 := o) hd hn ht Iff.rfl kt kf
  by_cases q : ¬ x = z
  · rwa [if_pos q] at k
  · rwa [if_neg q] at k
theorem mw_if_lt_m {x : Int32} {off : Int} {t : Nat} (hd : decode y.2.1 pc = .ok (.ifCond .lt off, 3)) (hn : pc + 3 = n) (ht : (pc : Int) + off = (t : Int)) (kt : x < 0 → mw g l d y em t lv st h o) (kf : ¬ (x < 0) → mw g l d y em n lv st h o) : mw g l d y em pc lv (.int x :: st) h o := by
  have k := mw_if_lt (P := x < 0) (y := y) (em := em) (o1 := o) (o2 := o) hd hn ht Iff.rfl kt kf
  by_cases q : x < 0
  · rwa [if_pos q] at k
  · rwa [if_neg q] at k
theorem mw_icmp_lt_m {x z : Int32} {off : Int} {t : Nat} (hd : decode y.2.1 pc = .ok (.if_icmp .lt off, 3)) (hn : pc + 3 = n) (ht : (pc : Int) + off = (t : Int)) (kt : x < z → mw g l d y em t lv st h o) (kf : ¬ (x < z) → mw g l d y em n lv st h o) : mw g l d y em pc lv (.int z :: .int x :: st) h o := by
  have k := mw_icmp_lt (P := x < z) (y := y) (em := em) (o1 := o) (o2 := o) hd hn ht Iff.rfl kt kf
  by_cases q : x < z
  · rwa [if_pos q] at k
  · rwa [if_neg q] at k
theorem mw_if_ge_m {x : Int32} {off : Int} {t : Nat} (hd : decode y.2.1 pc = .ok (.ifCond .ge off, 3)) (hn : pc + 3 = n) (ht : (pc : Int) + off = (t : Int)) (kt : 0 ≤ x → mw g l d y em t lv st h o) (kf : ¬ (0 ≤ x) → mw g l d y em n lv st h o) : mw g l d y em pc lv (.int x :: st) h o := by
  have k := mw_if_ge (P := 0 ≤ x) (y := y) (em := em) (o1 := o) (o2 := o) hd hn ht Iff.rfl kt kf
  by_cases q : 0 ≤ x
  · rwa [if_pos q] at k
  · rwa [if_neg q] at k
theorem mw_icmp_ge_m {x z : Int32} {off : Int} {t : Nat} (hd : decode y.2.1 pc = .ok (.if_icmp .ge off, 3)) (hn : pc + 3 = n) (ht : (pc : Int) + off = (t : Int)) (kt : z ≤ x → mw g l d y em t lv st h o) (kf : ¬ (z ≤ x) → mw g l d y em n lv st h o) : mw g l d y em pc lv (.int z :: .int x :: st) h o := by
  have k := mw_icmp_ge (P := z ≤ x) (y := y) (em := em) (o1 := o) (o2 := o) hd hn ht Iff.rfl kt kf
  by_cases q : z ≤ x
  · rwa [if_pos q] at k
  · rwa [if_neg q] at k
theorem mw_if_gt_m {x : Int32} {off : Int} {t : Nat} (hd : decode y.2.1 pc = .ok (.ifCond .gt off, 3)) (hn : pc + 3 = n) (ht : (pc : Int) + off = (t : Int)) (kt : 0 < x → mw g l d y em t lv st h o) (kf : ¬ (0 < x) → mw g l d y em n lv st h o) : mw g l d y em pc lv (.int x :: st) h o := by
  have k := mw_if_gt (P := 0 < x) (y := y) (em := em) (o1 := o) (o2 := o) hd hn ht Iff.rfl kt kf
  by_cases q : 0 < x
  · rwa [if_pos q] at k
  · rwa [if_neg q] at k
theorem mw_icmp_gt_m {x z : Int32} {off : Int} {t : Nat} (hd : decode y.2.1 pc = .ok (.if_icmp .gt off, 3)) (hn : pc + 3 = n) (ht : (pc : Int) + off = (t : Int)) (kt : z < x → mw g l d y em t lv st h o) (kf : ¬ (z < x) → mw g l d y em n lv st h o) : mw g l d y em pc lv (.int z :: .int x :: st) h o := by
  have k := mw_icmp_gt (P := z < x) (y := y) (em := em) (o1 := o) (o2 := o) hd hn ht Iff.rfl kt kf
  by_cases q : z < x
  · rwa [if_pos q] at k
  · rwa [if_neg q] at k
theorem mw_if_le_m {x : Int32} {off : Int} {t : Nat} (hd : decode y.2.1 pc = .ok (.ifCond .le off, 3)) (hn : pc + 3 = n) (ht : (pc : Int) + off = (t : Int)) (kt : x ≤ 0 → mw g l d y em t lv st h o) (kf : ¬ (x ≤ 0) → mw g l d y em n lv st h o) : mw g l d y em pc lv (.int x :: st) h o := by
  have k := mw_if_le (P := x ≤ 0) (y := y) (em := em) (o1 := o) (o2 := o) hd hn ht Iff.rfl kt kf
  by_cases q : x ≤ 0
  · rwa [if_pos q] at k
  · rwa [if_neg q] at k
theorem mw_icmp_le_m {x z : Int32} {off : Int} {t : Nat} (hd : decode y.2.1 pc = .ok (.if_icmp .le off, 3)) (hn : pc + 3 = n) (ht : (pc : Int) + off = (t : Int)) (kt : x ≤ z → mw g l d y em t lv st h o) (kf : ¬ (x ≤ z) → mw g l d y em n lv st h o) : mw g l d y em pc lv (.int z :: .int x :: st) h o := by
  have k := mw_icmp_le (P := x ≤ z) (y := y) (em := em) (o1 := o) (o2 := o) hd hn ht Iff.rfl kt kf
  by_cases q : x ≤ z
  · rwa [if_pos q] at k
  · rwa [if_neg q] at k
end MX
theorem mkl {g : mG} (hg : mOK g) {a c : Nat} (h : a < 82) (hk : mk a = c) : mkn g a c := ⟨by rcases hg with q | q <;> rw [q] <;> omega, hk⟩
theorem mkm {g : mG} (hg : mnn g = 101) {a c : Nat} (h : a < 101) (hk : mk a = c) : mkn g a c := ⟨by rw [hg]; exact h, hk⟩
theorem mk_step : ∀ a, a < 101 → (mk a = 6 → (a + 2 < 101 ∧ (a < 82 → a + 2 < 82) ∧ mk (a + 1) = 104 ∧ mk (a + 2) = 105)) ∧ (mk a = 1 → (a + 2 < 82 ∧ mk (a + 1) = 410 ∧ mk (a + 2) = 410)) ∧ (mk a = 2 → (a + 4 < 82 ∧ mk (a + 1) = 6 ∧ mk (a + 4) = 1)) := by decide +kernel
theorem mk_lt {g : mG} (hg : mOK g) {a c : Nat} (h : mkn g a c) : a < 101 := by
  rcases hg with q | q <;> have := h.1 <;> rw [q] at this <;> omega
theorem mk6_1 {g : mG} (hg : mOK g) {a : Nat} (h : mkn g a 6) : mkn g (a + 1) 104 := by
  have k := (mk_step a (mk_lt hg h)).1 h.2
  refine ⟨?_, k.2.2.1⟩
  rcases hg with q | q <;> have := h.1 <;> rw [q] at this ⊢
  · have := k.2.1 this; omega
  · omega
theorem mk6_2 {g : mG} (hg : mOK g) {a : Nat} (h : mkn g a 6) : mkn g (a + 2) 105 := by
  have k := (mk_step a (mk_lt hg h)).1 h.2
  refine ⟨?_, k.2.2.2⟩
  rcases hg with q | q <;> have := h.1 <;> rw [q] at this ⊢
  · have := k.2.1 this; omega
  · omega
theorem mk1_1 {g : mG} (hg : mOK g) {a : Nat} (h : mkn g a 1) : mkn g (a + 1) 410 := by
  have k := (mk_step a (mk_lt hg h)).2.1 h.2
  exact mkl hg (by omega) k.2.1
theorem mk1_2 {g : mG} (hg : mOK g) {a : Nat} (h : mkn g a 1) : mkn g (a + 2) 410 := by
  have k := (mk_step a (mk_lt hg h)).2.1 h.2
  exact mkl hg (by omega) k.2.2
theorem mk2_1 {g : mG} (hg : mOK g) {a : Nat} (h : mkn g a 2) : mkn g (a + 1) 6 := by
  have k := (mk_step a (mk_lt hg h)).2.2 h.2
  exact mkl hg (by omega) k.2.1
theorem mk2_4 {g : mG} (hg : mOK g) {a : Nat} (h : mkn g a 2) : mkn g (a + 4) 1 := by
  have k := (mk_step a (mk_lt hg h)).2.2 h.2
  exact mkl hg (by omega) k.2.2
theorem mk_A : (∀ j, j < 14 → mk (22 + 3 * j) = 6) ∧ ∀ j, j < 2 → mk (76 + 3 * j) = 6 := by decide +kernel
theorem mkA60 {g : mG} (hg : mOK g) {i : Int32} (h : vp_in i 14) : mkn g (22 + 3 * i.toNatClampNeg) 6 := by
  have hlt : i.toNatClampNeg < 14 := Nat.not_le.mp fun q => h (Or.inr q)
  exact mkl hg (by omega) (mk_A.1 _ hlt)
theorem mkA61 {g : mG} (hg : mOK g) {i : Int32} (h : vp_in i 2) : mkn g (76 + 3 * i.toNatClampNeg) 6 := by
  have hlt : i.toNatClampNeg < 2 := Nat.not_le.mp fun q => h (Or.inr q)
  exact mkl hg (by omega) (mk_A.2 _ hlt)
theorem inT0 : ∀ w ∈ u_ws RX0 TX0 (mNf 0), w ∈ mTb := mt_ws (u_ws RX0 TX0 (mNf 0)) [169, 171, 173] (by decide +kernel) (by decide +kernel)
theorem cl0 : mCl 0 RX0 TX0 := ⟨by decide, rfl, inT0⟩
theorem ct0 : mCt TX0 0 := ⟨tyX0, tyX0_ok, nmX0⟩
theorem inT1 : ∀ w ∈ u_ws RX1 TX1 (mNf 1), w ∈ mTb := mt_ws (u_ws RX1 TX1 (mNf 1)) [102, 104, 106, 108, 110, 112, 114, 116, 118, 120] (by decide +kernel) (by decide +kernel)
theorem cl1 : mCl 1 RX1 TX1 := ⟨by decide, rfl, inT1⟩
theorem ct1 : mCt TX1 1 := ⟨tyX1, tyX1_ok, nmX1⟩
theorem inT2 : ∀ w ∈ u_ws RX2 TX2 (mNf 2), w ∈ mTb := mt_ws (u_ws RX2 TX2 (mNf 2)) [131, 133] (by decide +kernel) (by decide +kernel)
theorem cl2 : mCl 2 RX2 TX2 := ⟨by decide, rfl, inT2⟩
theorem ct2 : mCt TX2 2 := ⟨tyX2, tyX2_ok, nmX2⟩
theorem inT3 : ∀ w ∈ u_ws RX3 TX3 (mNf 3), w ∈ mTb := mt_ws (u_ws RX3 TX3 (mNf 3)) [184, 186] (by decide +kernel) (by decide +kernel)
theorem cl3 : mCl 3 RX3 TX3 := ⟨by decide, rfl, inT3⟩
theorem ct3 : mCt TX3 3 := ⟨tyX3, tyX3_ok, nmX3⟩
theorem inT4 : ∀ w ∈ u_ws RX4 TX4 (mNf 4), w ∈ mTb := mt_ws (u_ws RX4 TX4 (mNf 4)) [149, 151, 153] (by decide +kernel) (by decide +kernel)
theorem cl4 : mCl 4 RX4 TX4 := ⟨by decide, rfl, inT4⟩
theorem ct4 : mCt TX4 4 := ⟨tyX4, tyX4_ok, nmX4⟩
theorem inT5 : ∀ w ∈ u_ws RX5 TX5 (mNf 5), w ∈ mTb := mt_ws (u_ws RX5 TX5 (mNf 5)) [223, 225, 227, 229] (by decide +kernel) (by decide +kernel)
theorem cl5 : mCl 5 RX5 TX5 := ⟨by decide, rfl, inT5⟩
theorem ct5 : mCt TX5 5 := ⟨tyX5, tyX5_ok, nmX5⟩
theorem inT6 : ∀ w ∈ u_ws RX6 TX6 (mNf 6), w ∈ mTb := mt_ws (u_ws RX6 TX6 (mNf 6)) [60, 62, 64, 66, 68, 70, 72] (by decide +kernel) (by decide +kernel)
theorem cl6 : mCl 6 RX6 TX6 := ⟨by decide, rfl, inT6⟩
theorem ct6 : mCt TX6 6 := ⟨tyX6, tyX6_ok, nmX6⟩
theorem inT7 : ∀ w ∈ u_ws RX7 TX7 (mNf 7), w ∈ mTb := mt_ws (u_ws RX7 TX7 (mNf 7)) [201, 203, 205, 207, 209] (by decide +kernel) (by decide +kernel)
theorem cl7 : mCl 7 RX7 TX7 := ⟨by decide, rfl, inT7⟩
theorem ct7 : mCt TX7 7 := ⟨tyX7, tyX7_ok, nmX7⟩
theorem inT8 : ∀ w ∈ u_ws RX8 TX8 (mNf 8), w ∈ mTb := mt_ws (u_ws RX8 TX8 (mNf 8)) [302, 304, 306, 308, 310, 312, 314, 316, 318, 320, 322, 324, 326] (by decide +kernel) (by decide +kernel)
theorem cl8 : mCl 8 RX8 TX8 := ⟨by decide, rfl, inT8⟩
theorem ct8 : mCt TX8 8 := ⟨tyX8, tyX8_ok, nmX8⟩
theorem inT9 : ∀ w ∈ u_ws RX9 TX9 (mNf 9), w ∈ mTb := mt_ws (u_ws RX9 TX9 (mNf 9)) [828, 830, 832, 834, 836, 838, 840, 842, 844, 846, 848, 850, 852, 854, 856, 858, 860, 862, 864, 866, 868, 870, 872, 874, 876, 878] (by decide +kernel) (by decide +kernel)
theorem cl9 : mCl 9 RX9 TX9 := ⟨by decide, rfl, inT9⟩
theorem ct9 : mCt TX9 9 := ⟨tyX9, tyX9_ok, nmX9⟩
theorem mf_ofF {g : mG} {l : Launch} {d : Nat} {y : mD} {β : Type} {em : β → Option Value × mH} {as : List Value} {h : mH} {o : Option β} (hy : plainFor y.1 = true) (hl : (lg_sl as).length ≤ y.2.2.1)
    (k : mw g l d y em 0 (lv_args 0 as) [] h o) : mf g l d y em as h o := by
  intro b hb
  refine MetFree.of_bodySF (code := y.2.1) (maxLocals := y.2.2.1) (ret := y.2.2.2) hy ?_ ?_
  · intro args s m h hn
    obtain ⟨meth, c, h1, h2, h3, h4, h5, h6, -, -⟩ := Cond.code_spec hn (atoms_spec (ws := Cond.code y.1 y.2.1 y.2.2.1 y.2.2.2 :: mTb) h _ List.mem_cons_self)
    exact ⟨meth, c, h1, h2, h3, h4, h5, h6⟩
  · intro p e s m args below meth c s₁ B hml hv _
    obtain ⟨rfl, hP, hS⟩ := hv
    have hts := atoms_spec (ws := Cond.code y.1 y.2.1 y.2.2.1 y.2.2.2 :: mTb) B.pre
    have hown : s.vm.findClass y.1.cls = some m.cls := findClass_of_methodNamed B.named
    have hl' := lv_entry as (n := y.2.2.1) hl
    have hh0 : s₁.heap = s.heap := by rw [B.state]; rfl
    have K := k b hb p e s m _ below meth c s.heap [] _ ⟨B.exec, B.bytes, B.returns, B.notSynchronized, hml, hown, fun w hw => hts w (List.mem_cons_of_mem _ hw)⟩ hS hP va_S.rf hl'
    rw [← lg_entry_eq] at K
    obtain ⟨t, a1, o, b1, b2, b3⟩ := K s₁ hh0 (Stand.of_body B)
    exact ⟨t, o, a1, b1, b2, ⟨b3.1, b3.2⟩⟩
