/-! the model finds a key -/
theorem ct_eq1 {p : Nat → Bool} {n i : Nat} (hi : i < n) (h : p i = true) : fb_ct p n = 1 ↔ ∀ j, j < n → j ≠ i → p j = false := by
  have e := fb_ct_upd p false (i := i) hi
  rw [h] at e
  have e' : fb_ct (fun k => if k = i then false else p k) n + 1 = fb_ct p n + 0 := e
  have z : fb_ct (fun k => if k = i then false else p k) n = 0 ↔ ∀ j, j < n → j ≠ i → p j = false := by
    rw [fb_ct_zero]
    refine forall_congr' fun j => forall_congr' fun hj => ?_
    by_cases c : j = i
    · rw [if_pos c]; exact ⟨fun _ q => absurd c q, fun _ => rfl⟩
    · rw [if_neg c]; exact ⟨fun q _ => q, fun q => q c⟩
  rw [← z]
  omega
theorem tells_eq {N q : Nat} {s : Sh} {h : mH} {m : Int32} {D : Nat → Bool} (hN : 400 < N) (w : WS s) (ms : MS h 85 0 s) (l : LsA h (ans s)) (p1 : s.2 = some q) (hq : q ∈ ans s) (hD : ∀ y, y < 2 ^ sN s → (nI y &&& m = 0 ↔ D y = false)) : x_X9_tells N m h = some (b2i (tlG s q D)) := by
  have l310 := ans_310 w
  have D0 : D 0 = false := (hD 0 (Nat.two_pow_pos _)).mp (b_ext fun i hi => by rw [b_and, bt_nI _ _ hi, Nat.zero_testBit, Bool.false_and, b_0])
  unfold x_X9_tells
  refine lpV (fun f (x : Int32) i => x_X9_tells_4 N m h f x i) (fun j => nI (fb_ct (fun i => !D ((ans s).getD i 0 ^^^ q)) j)) (ans s).length _ (fun f j hj => ?_) (fun f => ?_) (by omega)
  · show x_X9_tells_4 N m h (f + 1) _ (nI j) = x_X9_tells_4 N m h f _ (nI (j + 1))
    have hy := xor_lt (getD_mem hj) hq
    rw [x_X9_tells_4_s, l.1, if_neg (nI_ge hj (by omega)), mck_ok (vp_in_nI (by omega) (by decide)), nI_clamp (by omega), l.2 j hj, ms.pl, plM_some p1, fb_xorI, mlet_eq, nI_1, fb_ct_succ]
    congr 1
    by_cases c : D ((ans s).getD j 0 ^^^ q) = true
    · rw [if_pos (fun e => by rw [(hD _ hy).mp e] at c; cases c), if_neg (by rw [c]; decide)]
      show nI _ + nI 0 = _
      rw [nI_add]
    · have c' : D ((ans s).getD j 0 ^^^ q) = false := by simpa using c
      rw [if_neg (not_not_intro ((hD _ hy).mpr c')), if_pos (by rw [c']; rfl), nI_1]
  · show x_X9_tells_4 N m h (f + 1) _ (nI (ans s).length) = _
    have cl : fb_ct (fun i => !D ((ans s).getD i 0 ^^^ q)) (ans s).length ≤ (ans s).length := fb_ct_le _ _
    obtain ⟨i0, hi0, e0⟩ := mem_getD.mp hq
    have hi1 : (!D ((ans s).getD i0 0 ^^^ q)) = true := by rw [e0, Nat.xor_self, D0]; rfl
    have key : fb_ct (fun i => !D ((ans s).getD i 0 ^^^ q)) (ans s).length = 1 ↔ tlG s q D = true := by
      rw [ct_eq1 (p := fun i => !D ((ans s).getD i 0 ^^^ q)) hi0 hi1]
      unfold tlG
      rw [List.all_eq_true]
      constructor
      · intro H x hx
        obtain ⟨j, hj, e⟩ := mem_getD.mp hx
        by_cases c : j = i0
        · have : x = q := by rw [← e, c, e0]
          simp [this]
        · have := H j hj c
          rw [e] at this
          have : D (x ^^^ q) = true := by simpa using this
          rw [this, Bool.or_true]
      · intro H j hj c
        have := H _ (getD_mem hj)
        rw [Bool.or_eq_true, beq_iff_eq] at this
        rcases this with e | e
        · have hs := ans_sorted s
          rcases Nat.lt_trichotomy j i0 with g | g | g
          · have := getD_lt hs g hi0; omega
          · exact absurd g c
          · have := getD_lt hs g hj; omega
        · show (!D ((ans s).getD j 0 ^^^ q)) = false
          rw [e]; rfl
    rw [x_X9_tells_4_s, l.1, if_pos (nI_le (Nat.le_refl _) (by omega))]
    congr 1
    by_cases c : tlG s q D = true
    · rw [key.mpr c, c, if_neg (by decide)]; rfl
    · have c' : tlG s q D = false := by simpa using c
      rw [c', if_pos (show ¬ nI (fb_ct (fun i => !D ((ans s).getD i 0 ^^^ q)) (ans s).length) = (1 : Int32) from fun e => c (key.mp ((nI_eq (b := 1) (by omega) (by decide)).mp e)))]
      rfl
theorem cellBit_eq {h : mH} {s : Sh} {a : Nat} (w : WS s) (ms : MS h 85 0 s) (ha : a < sN s) : x_X9_cellBit (nI a) h = some (nI (pB s a)) := by
  have n20 := w.n20
  unfold x_X9_cellBit
  rw [cells_eq ms, Option.bind_some, sub1 (by omega), show (1 : Int32) = nI 1 from rfl, shl_nI _ _ (by omega), Nat.one_mul]
  rfl
theorem and_pB1 {s : Sh} (w : WS s) (y a : Nat) : nI y &&& nI (pB s a) = 0 ↔ cb s y a = false := by
  have n20 := w.n20
  unfold pB cb
  exact fa_bit (by omega)
def frZ (h h' : mH) : Prop := (∀ b k, ¬ (b = 82 ∧ (k = 24 ∨ k = 25)) → mgi h' b k = mgi h b k) ∧ ∀ b k, mgl h' b k = mgl h b k
theorem frZ.refl {h : mH} : frZ h h := ⟨fun _ _ _ => rfl, fun _ _ => rfl⟩
theorem frZ.trans {h h1 h2 : mH} (a : frZ h h1) (b : frZ h1 h2) : frZ h h2 := ⟨fun c k x => (b.1 c k x).trans (a.1 c k x), fun c k => (b.2 c k).trans (a.2 c k)⟩
theorem frZ.ms {h h' : mH} {s : Sh} (f : frZ h h') (m : MS h 85 0 s) : MS h' 85 0 s := m.congr (fun k => f.1 85 k (by omega))
theorem frZ.ls {h h' : mH} {l : List Nat} (f : frZ h h') (m : LsA h l) : LsA h' l := ⟨by rw [f.1 82 17 (by omega)]; exact m.1, fun j hj => by rw [f.1 94 j (by omega)]; exact m.2 j hj⟩
def st2 (h : mH) (a b : Int32) : mH := msi (msi h 82 24 a) 82 25 b
theorem st2_fr {h : mH} {a b : Int32} : frZ h (st2 h a b) := ⟨fun c k hc => by unfold st2; rw [mgi_msi, if_neg (by omega), mgi_msi, if_neg (by omega)], fun _ _ => rfl⟩
theorem st2_v {h : mH} {a b : Int32} : mgi (st2 h a b) 82 24 = a ∧ mgi (st2 h a b) 82 25 = b := by
  unfold st2
  refine ⟨by rw [mgi_msi, if_neg (by omega), mgi_same], by rw [mgi_same]⟩
def KQ (h : mH) (o : Option mH) (x : Int32 × Int32) : Prop := ∃ h', o = some h' ∧ mgi h' 82 24 = x.1 ∧ mgi h' 82 25 = x.2 ∧ frZ h h'
theorem done3 {N : Nat} {s : Sh} {x : mH} (hN : 9000 < N) (w : WS s) (hx : ¬ mgi x 82 24 = -9) : x_X9_findKey_163 N (nI (sN s)) x = some x := by
  have n20 := w.n20
  unfold x_X9_findKey_163
  obtain ⟨M, hM⟩ : ∃ M, N = M + 1 := ⟨N - 1, by omega⟩
  have st : ∀ K, x_X9_findKey_165 K (nI (sN s)) (M + 1) 0 x = some x := fun K => by
    rw [x_X9_findKey_165_s]
    by_cases c : ((nI (sN s) * nI (sN s)) * nI (sN s)) ≤ 0
    · rw [if_pos c]
    · rw [if_neg c, if_pos hx]
  have := st N
  rw [← hM] at this
  exact this
theorem done2 {N : Nat} {s : Sh} {x : mH} (hN : 9000 < N) (w : WS s) (hx : ¬ mgi x 82 24 = -9) : x_X9_findKey_80 N (nI (sN s)) x = some x := by
  have n20 := w.n20
  unfold x_X9_findKey_80
  obtain ⟨M, hM⟩ : ∃ M, N = M + 1 := ⟨N - 1, by omega⟩
  have st : ∀ f, x_X9_findKey_82 N (nI (sN s)) (f + 1) 0 x = some x := fun f => by
    rw [x_X9_findKey_82_s]
    by_cases c : nI (sN s) ≤ 0
    · rw [if_pos c]; exact done3 hN w hx
    · rw [if_neg c, if_pos hx]; exact done3 hN w hx
  have := st M
  rw [← hM] at this
  exact this
theorem done82 {N : Nat} {s : Sh} {x : mH} {f : Nat} {v : Int32} (hN : 9000 < N) (w : WS s) (hx : ¬ mgi x 82 24 = -9) : x_X9_findKey_82 N (nI (sN s)) (f + 1) v x = some x := by
  rw [x_X9_findKey_82_s]
  by_cases c : nI (sN s) ≤ v
  · rw [if_pos c]; exact done3 hN w hx
  · rw [if_neg c, if_pos hx]; exact done3 hN w hx
theorem done36 {N : Nat} {s : Sh} {x : mH} {f : Nat} {v : Int32} (hN : 9000 < N) (w : WS s) (hx : ¬ mgi x 82 24 = -9) : x_X9_findKey_36 N (nI (sN s)) (f + 1) v x = some x := by
  rw [x_X9_findKey_36_s]
  by_cases c : nI (sN s) ≤ v
  · rw [if_pos c]; exact done2 hN w hx
  · rw [if_neg c, if_pos hx]; exact done2 hN w hx
theorem ph3 {N q : Nat} {s : Sh} {x : mH} (hN : 9000 < N) (w : WS s) (ms : MS x 85 0 s) (l : LsA x (ans s)) (p1 : s.2 = some q) (hq : q ∈ ans s) (hx : mgi x 82 24 = -9 ∧ mgi x 82 25 = -9) : KQ x (x_X9_findKey_163 N (nI (sN s)) x) (if ¬ k3 s q = -9 then (3, k3 s q) else (-9, -9)) := by
  have n20 := w.n20
  have n2 : sN s * sN s ≤ 400 := Nat.mul_le_mul n20.2 n20.2
  have n3 : sN s * sN s * sN s ≤ 8000 := Nat.mul_le_mul n2 n20.2
  have np : 0 < sN s * sN s := Nat.mul_pos n20.1 n20.1
  have bd : ∀ k, k < sN s * sN s * sN s → v3 s k < 2 ^ 31 := fun k hk => by
    have x1 : k / (sN s * sN s) < sN s := Nat.div_lt_of_lt_mul hk
    have x2 := Nat.mod_lt (k / sN s) (show 0 < sN s by omega)
    have x3 := Nat.mod_lt k (show 0 < sN s by omega)
    unfold v3; omega
  unfold x_X9_findKey_163
  refine lpI (fun f (y : mH) i => x_X9_findKey_165 N (nI (sN s)) f i y) (fun k y => frZ x y ∧ ((mgi y 82 24 = -9 ∧ mgi y 82 25 = -9 ∧ ∀ j, j < k → p3 s q j = false) ∨ (mgi y 82 24 = 3 ∧ ∃ j, j < sN s * sN s * sN s ∧ p3 s q j = true ∧ mgi y 82 25 = nI (v3 s j) ∧ ∀ i, i < j → p3 s q i = false))) (fun o => KQ x o (if ¬ k3 s q = -9 then (3, k3 s q) else (-9, -9))) (sN s * sN s * sN s) (fun f k y hk hy => ?_) (fun f y hy => ?_) N 0 x (by omega) (by omega) ⟨frZ.refl, Or.inl ⟨hx.1, hx.2, fun j hj => by omega⟩⟩
  · obtain ⟨fr, hy⟩ := hy
    show (∃ y' : mH, x_X9_findKey_165 N (nI (sN s)) (f + 1) (nI k) y = x_X9_findKey_165 N (nI (sN s)) f (nI (k + 1)) y' ∧ _) ∨ KQ x (x_X9_findKey_165 N (nI (sN s)) (f + 1) (nI k) y) _
    rw [x_X9_findKey_165_s, pk_mul, pk_mul, if_neg (nI_ge hk (by omega))]
    rcases hy with ⟨y1, y2, y3⟩ | ⟨y1, j, y2, y3, y4, y5⟩
    · have x1 : k / (sN s * sN s) < sN s := Nat.div_lt_of_lt_mul hk
      have x2 := Nat.mod_lt (k / sN s) (show 0 < sN s by omega)
      have x3 := Nat.mod_lt k (show 0 < sN s by omega)
      have z1 : k / sN s ≤ k := Nat.div_le_self _ _
      have my := fr.ms ms
      have ly := fr.ls l
      refine Or.inl ?_
      rw [if_neg (not_not_intro y1), mzd_ok np (by omega), mlet_eq, pk_div (by omega) np (by omega), mzd_ok (by omega) (by omega), mzd_ok (by omega) (by omega), mlet_eq, pk_div (by omega) (by omega) (by omega), xrem_nI (by omega) (by omega) (by omega), mzd_ok (by omega) (by omega), mlet_eq, xrem_nI (by omega) (by omega) (by omega)]
      unfold x_X9_findKey_269
      have nope : p3 s q k = false → ∃ y' : mH, x_X9_findKey_165 N (nI (sN s)) f (nI k + 1) y = x_X9_findKey_165 N (nI (sN s)) f (nI (k + 1)) y' ∧ frZ x y' ∧ ((mgi y' 82 24 = -9 ∧ mgi y' 82 25 = -9 ∧ ∀ j, j < k + 1 → p3 s q j = false) ∨ (mgi y' 82 24 = 3 ∧ ∃ j, j < sN s * sN s * sN s ∧ p3 s q j = true ∧ mgi y' 82 25 = nI (v3 s j) ∧ ∀ i, i < j → p3 s q i = false)) := fun hp => ⟨y, by rw [nI_1], fr, Or.inl ⟨y1, y2, fun j hj => by
        by_cases d : j = k
        · rw [d]; exact hp
        · exact y3 j (by omega)⟩⟩
      by_cases c1 : k / (sN s * sN s) < k / sN s % sN s
      · rw [if_neg (nI_ge c1 (by omega))]
        by_cases c2 : k / sN s % sN s < k % sN s
        · rw [if_neg (nI_ge c2 (by omega)), cellBit_eq w my x1, Option.bind_some, cellBit_eq w my x2, Option.bind_some, cellBit_eq w my x3, Option.bind_some, tells_eq (D := fun y => (cb s y (k / (sN s * sN s)) || cb s y (k / sN s % sN s)) || cb s y (k % sN s)) (by omega) w my ly p1 hq (fun y hy => by rw [and_or0, and_or0, and_pB1 w, and_pB1 w, and_pB1 w, Bool.or_eq_false_iff, Bool.or_eq_false_iff]), Option.bind_some]
          by_cases c3 : t3 s q (k / (sN s * sN s)) (k / sN s % sN s) (k % sN s) = true
          · have c3' : tlG s q (fun y => (cb s y (k / (sN s * sN s)) || cb s y (k / sN s % sN s)) || cb s y (k % sN s)) = true := c3
            have hp : p3 s q k = true := by unfold p3; rw [c3]; simp [c1, c2]
            refine ⟨st2 y 3 (nI (v3 s k)), ?_, fr.trans st2_fr, Or.inr ⟨st2_v.1, k, hk, hp, st2_v.2, y3⟩⟩
            rw [c3', if_neg (by decide), mlet_eq, mlet_eq, nI_1, nI_1, nI_1, show (10000 : Int32) = nI 10000 from rfl, show (100 : Int32) = nI 100 from rfl, pk_mul, pk_mul, nI_add, nI_add, nI_1]
            rfl
          · have c3' : tlG s q (fun y => (cb s y (k / (sN s * sN s)) || cb s y (k / sN s % sN s)) || cb s y (k % sN s)) = false := by
              have : ¬ tlG s q (fun y => (cb s y (k / (sN s * sN s)) || cb s y (k / sN s % sN s)) || cb s y (k % sN s)) = true := c3
              simpa using this
            rw [c3', if_pos (show b2i false = 0 from rfl)]
            refine nope ?_
            unfold p3
            have : t3 s q (k / (sN s * sN s)) (k / sN s % sN s) (k % sN s) = false := c3'
            rw [this, Bool.and_false]
        · rw [if_pos (nI_le (by omega) (by omega))]
          exact nope (by unfold p3; simp [c2])
      · have c1' : k / sN s % sN s ≤ k / (sN s * sN s) := Nat.not_lt.mp c1
        rw [if_pos (nI_le c1' (by omega))]
        exact nope (by unfold p3; simp [c1])
    · refine Or.inr ⟨y, by rw [if_pos (by rw [y1]; decide)], ?_, ?_, fr⟩
      · have e : k3 s q = nI (v3 s j) := (fsV_eq (Or.inr ⟨j, y2, y3, rfl, y5⟩)).symm
        rw [e, if_pos (nI_n9 (bd j y2))]; exact y1
      · have e : k3 s q = nI (v3 s j) := (fsV_eq (Or.inr ⟨j, y2, y3, rfl, y5⟩)).symm
        rw [e, if_pos (nI_n9 (bd j y2))]; exact y4
  · obtain ⟨fr, hy⟩ := hy
    show KQ x (x_X9_findKey_165 N (nI (sN s)) (f + 1) (nI (sN s * sN s * sN s)) y) _
    rw [x_X9_findKey_165_s, pk_mul, pk_mul, if_pos (nI_le (Nat.le_refl _) (by omega))]
    rcases hy with ⟨y1, y2, y3⟩ | ⟨y1, j, y2, y3, y4, y5⟩
    · have e : k3 s q = -9 := (fsV_eq (Or.inl ⟨rfl, y3⟩)).symm
      rw [if_neg (not_not_intro e)]
      exact ⟨y, rfl, y1, y2, fr⟩
    · have e : k3 s q = nI (v3 s j) := (fsV_eq (Or.inr ⟨j, y2, y3, rfl, y5⟩)).symm
      rw [e, if_pos (nI_n9 (bd j y2))]
      exact ⟨y, rfl, y1, y4, fr⟩
theorem KQ.tr {h h1 : mH} {o : Option mH} {x : Int32 × Int32} (f : frZ h h1) (r : KQ h1 o x) : KQ h o x := by
  obtain ⟨h', a, b, c, d⟩ := r
  exact ⟨h', a, b, c, f.trans d⟩
theorem ph2 {N q : Nat} {s : Sh} {x : mH} (hN : 9000 < N) (w : WS s) (ms : MS x 85 0 s) (l : LsA x (ans s)) (p1 : s.2 = some q) (hq : q ∈ ans s) (hx : mgi x 82 24 = -9 ∧ mgi x 82 25 = -9) : KQ x (x_X9_findKey_80 N (nI (sN s)) x) (if ¬ k2 s q = -9 then (2, k2 s q) else if ¬ k3 s q = -9 then (3, k3 s q) else (-9, -9)) := by
  have n20 := w.n20
  have k2v : ∀ a b, a < b → b < sN s → t2 s q a b = true → (∀ a' b', a' < b' → b' < sN s → (a' < a ∨ (a' = a ∧ b' < b)) → t2 s q a' b' = false) → k2 s q = nI (100 * (a + 1) + b + 1) := fun a b hab hb ht hf => by
    obtain ⟨d1, d2⟩ := dm2 (a := a) hb
    refine (fsV_eq (Or.inr ⟨a * sN s + b, ?_, ?_, ?_, fun i hi => ?_⟩)).symm
    · have := Nat.mul_le_mul_right (sN s) (show a + 1 ≤ sN s by omega)
      rw [Nat.succ_mul] at this
      omega
    · unfold p2
      rw [d1, d2, ht]
      simp [hab]
    · show _ = nI (100 * ((a * sN s + b) / sN s + 1) + (a * sN s + b) % sN s + 1)
      rw [d1, d2]
    · refine Bool.eq_false_iff.mpr fun hp => ?_
      unfold p2 at hp
      rw [Bool.and_eq_true, decide_eq_true_eq] at hp
      have hb' := Nat.mod_lt i (show 0 < sN s by omega)
      have ei : i / sN s * sN s + i % sN s = i := by rw [Nat.mul_comm]; exact Nat.div_add_mod _ _
      have lx := lexlt hb' hb (by rw [ei]; exact hi)
      rw [hf _ _ hp.1 hb' lx] at hp
      cases hp.2
  have R2 : ¬ k2 s q = -9 → ∀ y, mgi y 82 24 = 2 → mgi y 82 25 = k2 s q → frZ x y → KQ x (some y) (if ¬ k2 s q = -9 then (2, k2 s q) else if ¬ k3 s q = -9 then (3, k3 s q) else (-9, -9)) := fun hk y y1 y2 fr => by
    rw [if_pos hk]
    exact ⟨y, rfl, y1, y2, fr⟩
  unfold x_X9_findKey_80
  refine lpI (fun f (y : mH) i => x_X9_findKey_82 N (nI (sN s)) f i y) (fun a y => frZ x y ∧ ((mgi y 82 24 = -9 ∧ mgi y 82 25 = -9 ∧ ∀ a' b', a' < b' → b' < sN s → a' < a → t2 s q a' b' = false) ∨ (¬ k2 s q = -9 ∧ mgi y 82 24 = 2 ∧ mgi y 82 25 = k2 s q))) (fun o => KQ x o (if ¬ k2 s q = -9 then (2, k2 s q) else if ¬ k3 s q = -9 then (3, k3 s q) else (-9, -9))) (sN s) (fun f a y ha hy => ?_) (fun f y hy => ?_) N 0 x (by omega) (by omega) ⟨frZ.refl, Or.inl ⟨hx.1, hx.2, fun a' b' _ _ hh => by omega⟩⟩
  · obtain ⟨fr, hy⟩ := hy
    show (∃ y' : mH, x_X9_findKey_82 N (nI (sN s)) (f + 1) (nI a) y = x_X9_findKey_82 N (nI (sN s)) f (nI (a + 1)) y' ∧ _) ∨ KQ x (x_X9_findKey_82 N (nI (sN s)) (f + 1) (nI a) y) _
    rcases hy with ⟨y1, y2, y3⟩ | ⟨y0, y1, y2⟩
    · rw [x_X9_findKey_82_s, if_neg (nI_ge ha (by omega)), if_neg (not_not_intro y1), mlet_eq, nI_1]
      refine Or.inl (lpI (fun g (y : mH) i => x_X9_findKey_100 N (x_X9_findKey_82 N (nI (sN s)) f) (nI (sN s)) (nI a) g i y) (fun b y => a + 1 ≤ b ∧ frZ x y ∧ ((mgi y 82 24 = -9 ∧ mgi y 82 25 = -9 ∧ ∀ b', a < b' → b' < b → t2 s q a b' = false) ∨ (¬ k2 s q = -9 ∧ mgi y 82 24 = 2 ∧ mgi y 82 25 = k2 s q))) (fun o => ∃ y' : mH, o = x_X9_findKey_82 N (nI (sN s)) f (nI (a + 1)) y' ∧ frZ x y' ∧ ((mgi y' 82 24 = -9 ∧ mgi y' 82 25 = -9 ∧ ∀ a' b', a' < b' → b' < sN s → a' < a + 1 → t2 s q a' b' = false) ∨ (¬ k2 s q = -9 ∧ mgi y' 82 24 = 2 ∧ mgi y' 82 25 = k2 s q))) (sN s) (fun g b y hb hz => ?_) (fun g y hz => ?_) N (a + 1) y (by omega) (by omega) ⟨Nat.le_refl _, fr, Or.inl ⟨y1, y2, fun b' h1 h2 => by omega⟩⟩)
      · obtain ⟨ab, fy, hz⟩ := hz
        show (∃ y' : mH, x_X9_findKey_100 N (x_X9_findKey_82 N (nI (sN s)) f) (nI (sN s)) (nI a) (g + 1) (nI b) y = x_X9_findKey_100 N (x_X9_findKey_82 N (nI (sN s)) f) (nI (sN s)) (nI a) g (nI (b + 1)) y' ∧ _) ∨ ∃ y' : mH, x_X9_findKey_100 N (x_X9_findKey_82 N (nI (sN s)) f) (nI (sN s)) (nI a) (g + 1) (nI b) y = x_X9_findKey_82 N (nI (sN s)) f (nI (a + 1)) y' ∧ _
        rw [x_X9_findKey_100_s, if_neg (nI_ge hb (by omega))]
        unfold x_X9_findKey_151 x_X9_findKey_157
        rcases hz with ⟨z1, z2, z3⟩ | ⟨z0, z1, z2⟩
        · have my := fy.ms ms
          have ly := fy.ls l
          refine Or.inl ?_
          rw [if_neg (not_not_intro z1), cellBit_eq w my ha, Option.bind_some, cellBit_eq w my hb, Option.bind_some, tells_eq (D := fun y => cb s y a || cb s y b) (by omega) w my ly p1 hq (fun y hy => by rw [and_or0, and_pB1 w, and_pB1 w, Bool.or_eq_false_iff]), Option.bind_some]
          by_cases c : t2 s q a b = true
          · have c' : tlG s q (fun y => cb s y a || cb s y b) = true := c
            have ev := k2v a b (by omega) hb c (fun a' b' h1 h2 h3 => by
              rcases h3 with h3 | ⟨h3, h4⟩
              · exact y3 a' b' h1 h2 h3
              · rw [h3] at h1 ⊢; exact z3 b' h1 h4)
            have ne : ¬ k2 s q = -9 := by rw [ev]; exact nI_n9 (by omega)
            refine ⟨st2 y 2 (k2 s q), ?_, by omega, fy.trans st2_fr, Or.inr ⟨ne, st2_v.1, st2_v.2⟩⟩
            rw [c', if_neg (by decide), mlet_eq, mlet_eq, nI_1, nI_1, show (100 : Int32) = nI 100 from rfl, pk_mul, nI_add, nI_1, ev]
            rfl
          · have c' : tlG s q (fun y => cb s y a || cb s y b) = false := by
              have : ¬ tlG s q (fun y => cb s y a || cb s y b) = true := c
              simpa using this
            refine ⟨y, by rw [c', if_pos (show b2i false = 0 from rfl), nI_1], by omega, fy, Or.inl ⟨z1, z2, fun b' h1 h2 => ?_⟩⟩
            by_cases d : b' = b
            · rw [d]; exact c'
            · exact z3 b' h1 (by omega)
        · refine Or.inr ⟨y, by rw [if_pos (by rw [z1]; decide), nI_1], fy, Or.inr ⟨z0, z1, z2⟩⟩
      · obtain ⟨ab, fy, hz⟩ := hz
        show ∃ y' : mH, x_X9_findKey_100 N (x_X9_findKey_82 N (nI (sN s)) f) (nI (sN s)) (nI a) (g + 1) (nI (sN s)) y = _ ∧ _
        rw [x_X9_findKey_100_s, if_pos (nI_le (Nat.le_refl _) (by omega))]
        unfold x_X9_findKey_157
        refine ⟨y, by rw [nI_1], fy, ?_⟩
        rcases hz with ⟨z1, z2, z3⟩ | z
        · refine Or.inl ⟨z1, z2, fun a' b' h1 h2 h3 => ?_⟩
          by_cases d : a' = a
          · rw [d] at h1 ⊢; exact z3 b' h1 h2
          · exact y3 a' b' h1 h2 (by omega)
        · exact Or.inr z
    · refine Or.inr ?_
      rw [done82 hN w (by rw [y1]; decide)]
      exact R2 y0 y y1 y2 fr
  · obtain ⟨fr, hy⟩ := hy
    show KQ x (x_X9_findKey_82 N (nI (sN s)) (f + 1) (nI (sN s)) y) _
    rcases hy with ⟨y1, y2, y3⟩ | ⟨y0, y1, y2⟩
    · have e : k2 s q = -9 := (fsV_eq (Or.inl ⟨rfl, fun i hi => by
        unfold p2
        by_cases l : i / sN s < i % sN s
        · rw [y3 _ _ l (Nat.mod_lt i (show 0 < sN s by omega)) (Nat.div_lt_of_lt_mul hi), Bool.and_false]
        · simp [l]⟩)).symm
      rw [x_X9_findKey_82_s, if_pos (nI_le (Nat.le_refl _) (by omega)), if_neg (not_not_intro e)]
      exact (ph3 hN w (fr.ms ms) (fr.ls l) p1 hq ⟨y1, y2⟩).tr fr
    · rw [done82 hN w (by rw [y1]; decide)]
      exact R2 y0 y y1 y2 fr
theorem mfindKey {N q : Nat} {s : Sh} {h : mH} (hN : 9000 < N) (w : WS s) (ms : MS h 85 0 s) (l : LsA h (ans s)) (p1 : s.2 = some q) (hq : q ∈ ans s) : KQ h (x_X9_findKey N h) (kC s q) := by
  have n20 := w.n20
  have z0 : ∀ y, y < 2 ^ sN s → (nI y &&& 0 = 0 ↔ (fun _ : Nat => false) y = false) := fun y _ => ⟨fun _ => rfl, fun _ => b_ext fun i hi => by rw [b_and, b_0, Bool.and_false]⟩
  unfold x_X9_findKey
  rw [cells_eq ms, Option.bind_some, tells_eq (D := fun _ => false) (by omega) w ms l p1 hq z0, Option.bind_some]
  simp only [mlet_eq]
  rw [mgi_same]
  obtain ⟨M, hM⟩ : ∃ M, N = M + 1 := ⟨N - 1, by omega⟩
  have fr0 : ∀ v, frZ h (st2 h v v) := fun v => st2_fr
  unfold kC
  by_cases c0 : t0 s q = true
  · have c0' : tlG s q (fun _ => false) = true := c0
    rw [c0', if_neg (by decide), if_pos c0]
    have d := done36 (N := N) (x := st2 h 0 0) (f := M) (v := 0) hN w (by rw [st2_v.1]; decide)
    rw [← hM] at d
    exact ⟨st2 h 0 0, d, st2_v.1, st2_v.2, fr0 0⟩
  · have c0' : tlG s q (fun _ => false) = false := by
      have : ¬ tlG s q (fun _ => false) = true := c0
      simpa using this
    rw [c0', if_pos (show b2i false = 0 from rfl), if_neg c0]
    refine KQ.tr (fr0 (-9)) ?_
    show KQ (st2 h (-9) (-9)) (x_X9_findKey_36 N (nI (sN s)) N 0 (st2 h (-9) (-9))) _
    obtain ⟨x, hx⟩ : ∃ x, x = st2 h (-9) (-9) := ⟨_, rfl⟩
    rw [← hx]
    have x1 : mgi x 82 24 = -9 ∧ mgi x 82 25 = -9 := by rw [hx]; exact st2_v
    have mx : MS x 85 0 s := by rw [hx]; exact (fr0 (-9)).ms ms
    have lx : LsA x (ans s) := by rw [hx]; exact (fr0 (-9)).ls l
    have R1 : ¬ k1 s q = -9 → ∀ y, mgi y 82 24 = 1 → mgi y 82 25 = k1 s q → frZ x y → KQ x (some y) (if ¬ k1 s q = -9 then (1, k1 s q) else if ¬ k2 s q = -9 then (2, k2 s q) else if ¬ k3 s q = -9 then (3, k3 s q) else (-9, -9)) := fun hk y y1 y2 fr => by
      rw [if_pos hk]
      exact ⟨y, rfl, y1, y2, fr⟩
    refine lpI (fun f (y : mH) i => x_X9_findKey_36 N (nI (sN s)) f i y) (fun a y => frZ x y ∧ ((mgi y 82 24 = -9 ∧ mgi y 82 25 = -9 ∧ ∀ a', a' < a → t1 s q a' = false) ∨ (¬ k1 s q = -9 ∧ mgi y 82 24 = 1 ∧ mgi y 82 25 = k1 s q))) (fun o => KQ x o (if ¬ k1 s q = -9 then (1, k1 s q) else if ¬ k2 s q = -9 then (2, k2 s q) else if ¬ k3 s q = -9 then (3, k3 s q) else (-9, -9))) (sN s) (fun f a y ha hy => ?_) (fun f y hy => ?_) N 0 x (by omega) (by omega) ⟨frZ.refl, Or.inl ⟨x1.1, x1.2, fun a' hh => by omega⟩⟩
    · obtain ⟨fr, hy⟩ := hy
      show (∃ y' : mH, x_X9_findKey_36 N (nI (sN s)) (f + 1) (nI a) y = x_X9_findKey_36 N (nI (sN s)) f (nI (a + 1)) y' ∧ _) ∨ KQ x (x_X9_findKey_36 N (nI (sN s)) (f + 1) (nI a) y) _
      rcases hy with ⟨y1, y2, y3⟩ | ⟨y0, y1, y2⟩
      · have my := fr.ms mx
        have ly := fr.ls lx
        refine Or.inl ?_
        rw [x_X9_findKey_36_s, if_neg (nI_ge ha (by omega)), if_neg (not_not_intro y1), cellBit_eq w my ha, Option.bind_some, tells_eq (D := fun y => cb s y a) (by omega) w my ly p1 hq (fun y hy => and_pB1 w _ _), Option.bind_some]
        unfold x_X9_findKey_74
        by_cases c : t1 s q a = true
        · have c' : tlG s q (fun y => cb s y a) = true := c
          have ev : k1 s q = nI (a + 1) := (fsV_eq (Or.inr ⟨a, ha, c, rfl, y3⟩)).symm
          have ne : ¬ k1 s q = -9 := by rw [ev]; exact nI_n9 (by omega)
          refine ⟨st2 y 1 (k1 s q), ?_, fr.trans st2_fr, Or.inr ⟨ne, st2_v.1, st2_v.2⟩⟩
          rw [c', if_neg (by decide), mlet_eq, mlet_eq, nI_1, ev]
          rfl
        · have c' : tlG s q (fun y => cb s y a) = false := by
            have : ¬ tlG s q (fun y => cb s y a) = true := c
            simpa using this
          refine ⟨y, by rw [c', if_pos (show b2i false = 0 from rfl), nI_1], fr, Or.inl ⟨y1, y2, fun a' h1 => ?_⟩⟩
          by_cases d : a' = a
          · rw [d]; exact c'
          · exact y3 a' (by omega)
      · refine Or.inr ?_
        rw [done36 hN w (by rw [y1]; decide)]
        exact R1 y0 y y1 y2 fr
    · obtain ⟨fr, hy⟩ := hy
      show KQ x (x_X9_findKey_36 N (nI (sN s)) (f + 1) (nI (sN s)) y) _
      rcases hy with ⟨y1, y2, y3⟩ | ⟨y0, y1, y2⟩
      · have e : k1 s q = -9 := (fsV_eq (Or.inl ⟨rfl, y3⟩)).symm
        rw [x_X9_findKey_36_s, if_pos (nI_le (Nat.le_refl _) (by omega)), if_neg (not_not_intro e)]
        exact (ph2 hN w (fr.ms mx) (fr.ls lx) p1 hq ⟨y1, y2⟩).tr fr
      · rw [done36 hN w (by rw [y1]; decide)]
        exact R1 y0 y y1 y2 fr
theorem S_key {N t : Nat} {h : mH} {z : St} (hN : 9000 < N) (hw : WF z) (hc : IC t h z) (hm : IM h z) (a : Int32) : GW t (xcR (x_X8_key N a h) h (fun h1 => x_X9_key N a h1)) := by
  have w := hw.2.1.1
  have cs := hc.2.1
  have al := hc.2.2.1
  have i0 := hm.thr 0
  have F0 : frM h (msi h 82 0 0) := frM_i (by decide)
  rcases side_cases a with ⟨v, hv, rfl⟩ | ⟨n0, n1, na⟩
  · have hcl : ∃ k, k < 1 + 1 ∧ nI v = nI k := ⟨v, hv, rfl⟩
    obtain ⟨h2, e2, l2, i2, f2⟩ := M_list (by omega : 400 < N) hw i0
    have hd : x_X9_key N (nI v) h = if ¬ mgi h2 85 31 = -9 then (x_X9_findKey N h2).bind fun q6 => some ((if ¬ nI v = 0 then mgi q6 82 25 else mgi q6 82 24), q6) else some (-9, h2) := by
      unfold x_X9_key
      simp only [mlet_eq]
      rw [show (1 : Int64) = (nI 1).toInt64 by decide, inN _ (by decide), Option.bind_some, if_pos hcl, if_pos (by decide), e2, Option.bind_some]
    rcases hw.2.1.2 with ⟨p1, p2⟩ | ⟨q, p1, p2⟩
    · refine ok_R (r := -9) hc hm hw ?_ ⟨h2, ?_, i2, F0.trans f2.frM⟩
      · have pc : mgi h (1 + 1) 6 = -1 := by rw [← plC_none p1]; exact cs.2.2.2.2.2.2
        have hd' : x_X8_key N (nI v) h = x_X8_key_12 N (nI v) h := by
          unfold x_X8_key
          rcases (by omega : v = 0 ∨ v = 1) with e | e
          · subst e; rw [if_pos (by decide)]
          · subst e; rw [if_neg (by decide), if_pos (by decide)]
        rw [hd']
        unfold x_X8_key_12 x_X2_findKey
        rw [pc, if_neg (by decide), Option.bind_some, if_pos rfl]
      · show x_X9_key N (nI v) h = _
        rw [hd, i2.2.1.pl, plM_none p1, if_neg (by decide)]
    · have q20 := pw20 w (ans_lt p2)
      obtain ⟨h3, g1, g2, g3, g4⟩ := mfindKey hN w i2.2.1 l2 p1 p2
      refine ok_R (r := if ¬ nI v = 0 then (kC z.2.1 q).2 else (kC z.2.1 q).1) hc hm hw (ckey_eq (by omega) w cs al p1 p2 hv) ⟨h3, ?_, i2.scr (fun b hb k => g4.1 b k (by omega)) (fun k hk => g4.1 82 k (by omega)) (fun k => g4.2 82 k), F0.trans (f2.frM.trans (fun b hb => ⟨fun k => g4.1 b k (by omega), fun k => g4.2 b k⟩))⟩
      show x_X9_key N (nI v) h = _
      rw [hd, i2.2.1.pl, plM_some p1, if_pos (nI_n9 (by omega)), g1, Option.bind_some, g2, g3]
  · refine ok_R (r := -2) hc hm hw ?_ ⟨_, ?_, i0, F0⟩
    · unfold x_X8_key
      rw [if_neg n0, if_neg n1]
    · unfold x_X9_key
      simp only [mlet_eq]
      rw [show (1 : Int64) = (nI 1).toInt64 by decide, inN _ (by decide), Option.bind_some, if_neg na, if_neg (by decide)]
