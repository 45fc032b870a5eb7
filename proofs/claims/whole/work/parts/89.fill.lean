/-! filled: ranks of columns -/
def ahB (L : Nat → Int32) (c k : Nat) : Bool := decide (L c < L k) || (decide (L k = L c) && decide (k < c))
def ahd (L : Nat → Int32) (w c : Nat) : Nat := fb_ct (ahB L c) w
theorem ahB_iff (L : Nat → Int32) (c k : Nat) : ahB L c k = true ↔ ((L c).toInt < (L k).toInt ∨ ((L k).toInt = (L c).toInt ∧ k < c)) := by
  unfold ahB
  rw [Bool.or_eq_true, Bool.and_eq_true, decide_eq_true_eq, decide_eq_true_eq, decide_eq_true_eq, fa_lt, fa_eq]
theorem ct_one {n j : Nat} (hj : j < n) : fb_ct (fun k => decide (k = j)) n = 1 := by
  have e := fb_ct_upd (fun _ => false) true (i := j) hj
  have z : fb_ct (fun _ => false) n = 0 := fb_ct_zero.mpr fun _ _ => rfl
  have c : fb_ct (fun k => decide (k = j)) n = fb_ct (fun k => if k = j then true else false) n := fb_ct_cong fun k _ => by by_cases d : k = j <;> simp [d]
  rw [c]
  rw [z] at e
  exact e
theorem ct_strict {p q : Nat → Bool} {n j : Nat} (hj : j < n) (h1 : p j = false) (h2 : q j = true) (h : ∀ k, k < n → p k = true → q k = true) : fb_ct p n < fb_ct q n := by
  have e : fb_ct (fun k => p k || decide (k = j)) n = fb_ct p n + fb_ct (fun k => decide (k = j)) n := fb_ct_or fun k _ ⟨a, b⟩ => by
    have : k = j := by simpa using b
    rw [this, h1] at a; cases a
  have l : fb_ct (fun k => p k || decide (k = j)) n ≤ fb_ct q n := fb_ct_sub fun k hk a => by
    rw [Bool.or_eq_true] at a
    rcases a with a | a
    · exact h k hk a
    · have : k = j := by simpa using a
      rw [this]; exact h2
  rw [e, ct_one hj] at l
  omega
theorem ahd_lt {L : Nat → Int32} {w c k : Nat} (hk : k < w) (h : ahB L c k = true) : ahd L w k < ahd L w c := by
  refine ct_strict hk ?_ h fun j _ hj => ?_
  · refine Bool.eq_false_iff.mpr fun x => ?_
    rw [ahB_iff] at x
    omega
  · rw [ahB_iff] at h hj ⊢
    omega
theorem ahd_inj {L : Nat → Int32} {w c k : Nat} (hc : c < w) (hk : k < w) (h : c ≠ k) : ahd L w c ≠ ahd L w k := by
  by_cases d : ahB L c k = true
  · have := ahd_lt hk d; omega
  · have : ahB L k c = true := by
      rw [ahB_iff] at d ⊢
      omega
    have := ahd_lt hc this
    omega
theorem ahd_cnt (L : Nat → Int32) (w n : Nat) : fb_ct (fun k => decide (ahd L w k < n)) w ≤ n := by
  have K : ∀ i, i < fb_ct (fun k => decide (ahd L w k < n)) w → ∃ j, j < w ∧ decide (ahd L w j < n) = true ∧ fb_ct (fun k => decide (ahd L w k < n)) j = i := fun i hi => fb_ct_kth hi
  refine fb_holes n _ (fun i => if h : i < fb_ct (fun k => decide (ahd L w k < n)) w then ahd L w (K i h).choose else 0) (fun i hi => ?_) (fun i j hij hj => ?_)
  · rw [dif_pos hi]
    have := (K i hi).choose_spec.2.1
    simpa using this
  · have hi : i < fb_ct (fun k => decide (ahd L w k < n)) w := by omega
    rw [dif_pos hi, dif_pos hj]
    obtain ⟨a1, a2, a3⟩ := (K i hi).choose_spec
    obtain ⟨b1, b2, b3⟩ := (K j hj).choose_spec
    refine ahd_inj a1 b1 fun e => ?_
    rw [e] at a3
    omega
/-- what the columns lack behind a row of a total -/
def lkX (L : Nat → Int32) (w t : Nat) : Nat → Int32 := fun c => if ahd L w c < t then L c - 1 else L c
def mst (L : Nat → Int32) (w n k : Nat) (v : Int32) : Prop := (v = -9 ∧ ∀ j, j < k → ahd L w j < n) ∨ ∃ m, m < k ∧ v = nI m ∧ n ≤ ahd L w m ∧ ∀ j, j < k → n ≤ ahd L w j → j ≠ m → ahB L j m = true
theorem mst_end {L : Nat → Int32} {w n : Nat} {v : Int32} (hn : n < w) (h : mst L w n w v) : ∃ m, m < w ∧ v = nI m ∧ ahd L w m = n := by
  rcases h with ⟨-, h⟩ | ⟨m, h1, h2, h3, h4⟩
  · have : fb_ct (fun k => decide (ahd L w k < n)) w = w := fb_ct_all.mpr fun k hk => by simp [h k hk]
    have := ahd_cnt L w n
    omega
  · refine ⟨m, h1, h2, ?_⟩
    have l : ahd L w m ≤ fb_ct (fun k => decide (ahd L w k < n)) w := fb_ct_sub fun k hk a => by
      by_cases d : ahd L w k < n
      · simp [d]
      · have ne : k ≠ m := fun e => by
          rw [e, ahB_iff] at a
          omega
        have := h4 k hk (by omega) ne
        rw [ahB_iff] at a this
        omega
    have := ahd_cnt L w n
    omega
def frG (h h' : mH) : Prop := (∀ b k, b ≠ 66 → mgi h' b k = mgi h b k) ∧ ∀ b k, mgl h' b k = mgl h b k
theorem frG.refl {h : mH} : frG h h := ⟨fun _ _ _ => rfl, fun _ _ => rfl⟩
theorem frG.trans {h h1 h2 : mH} (a : frG h h1) (b : frG h1 h2) : frG h h2 := ⟨fun c k x => (b.1 c k x).trans (a.1 c k x), fun c k => (b.2 c k).trans (a.2 c k)⟩
theorem frG.cs {a : Nat} {h h' : mH} {s : Sh} (f : frG h h') (ha : a + 2 < 65) (m : CS h a s) : CS h' a s := m.congr (fun k => f.1 _ k (by omega)) (fun k => f.1 _ k (by omega)) (fun k => f.1 _ k (by omega))
theorem choose_eq {N a t : Nat} {s : Sh} {h : mH} {L : Nat → Int32} (hN : 10 < N) (w : WS s) (ha : a + 2 < 65) (cs : CS h a s) (ht : t ≤ sW s) (hL : ∀ c, c < sW s → mgi h 66 c = L c) : ∃ h', x_X3_chooseColumns N a (nI t) h = some (nI (P5 fun c => decide (c < sW s) && decide (ahd L (sW s) c < t)), h') ∧ (∀ c, c < sW s → mgi h' 66 c = lkX L (sW s) t c) ∧ frG h h' := by
  have w5 := w.2.2.2.1
  unfold x_X3_chooseColumns
  refine lpI (fun f (x : Int32 × mH) i => x_X3_chooseColumns_5 N a (nI t) f x.1 i x.2) (fun n x => x.1 = nI (P5 fun c => decide (c < sW s) && decide (ahd L (sW s) c < n)) ∧ (∀ c, c < sW s → mgi x.2 66 c = lkX L (sW s) n c) ∧ frG h x.2) (fun o => ∃ h', o = some (nI (P5 fun c => decide (c < sW s) && decide (ahd L (sW s) c < t)), h') ∧ (∀ c, c < sW s → mgi h' 66 c = lkX L (sW s) t c) ∧ frG h h') t (fun f n x hn hx => ?_) (fun f x hx => ?_) N 0 (0, h) (by omega) (by omega) ⟨?_, fun c hc => by rw [hL c hc]; unfold lkX; rw [if_neg (by omega)], frG.refl⟩
  · obtain ⟨x1, x2, x3⟩ := hx
    have cs' := x3.cs ha cs
    show (∃ a' : Int32 × mH, x_X3_chooseColumns_5 N a (nI t) (f + 1) x.1 (nI n) x.2 = x_X3_chooseColumns_5 N a (nI t) f a'.1 (nI (n + 1)) a'.2 ∧ _) ∨ _
    rw [x_X3_chooseColumns_5_s, if_neg (nI_ge hn (by omega)), x1]
    refine Or.inl (lpI (fun g (v : Int32) i => x_X3_chooseColumns_18 N (x_X3_chooseColumns_5 N a (nI t) f) a (nI t) (nI (P5 fun c => decide (c < sW s) && decide (ahd L (sW s) c < n))) (nI n) g v i x.2) (fun k v => mst L (sW s) n k v) (fun o => ∃ a' : Int32 × mH, o = x_X3_chooseColumns_5 N a (nI t) f a'.1 (nI (n + 1)) a'.2 ∧ (a'.1 = nI (P5 fun c => decide (c < sW s) && decide (ahd L (sW s) c < n + 1)) ∧ (∀ c, c < sW s → mgi a'.2 66 c = lkX L (sW s) (n + 1) c) ∧ frG h a'.2)) (sW s) (fun g k v hk hv => ?_) (fun g v hv => ?_) N 0 (-9) (by omega) (by omega) (Or.inl ⟨rfl, fun j hj => by omega⟩))
    · show (∃ a' : Int32, x_X3_chooseColumns_18 N (x_X3_chooseColumns_5 N a (nI t) f) a (nI t) (nI (P5 fun c => decide (c < sW s) && decide (ahd L (sW s) c < n))) (nI n) (g + 1) v (nI k) x.2 = x_X3_chooseColumns_18 N (x_X3_chooseColumns_5 N a (nI t) f) a (nI t) (nI (P5 fun c => decide (c < sW s) && decide (ahd L (sW s) c < n))) (nI n) g a' (nI (k + 1)) x.2 ∧ _) ∨ _
      rw [x_X3_chooseColumns_18_s, cs'.2.1, if_neg (nI_ge hk (by omega)), colBit k (by omega), Option.bind_some, mlet_eq]
      unfold x_X3_chooseColumns_73 x_X3_chooseColumns_77
      refine Or.inl ?_
      by_cases c : ahd L (sW s) k < n
      · refine ⟨v, ?_, ?_⟩
        · rw [if_pos (show ¬ nI (P5 fun c => decide (c < sW s) && decide (ahd L (sW s) c < n)) &&& nI (2 ^ (4 - k)) = 0 from fun e => by rw [P5_and (by omega)] at e; simp [hk, c] at e), if_pos rfl, nI_1]
        · rcases hv with ⟨v1, v2⟩ | ⟨m, v1, v2, v3, v4⟩
          · refine Or.inl ⟨v1, fun j hj => ?_⟩
            by_cases d : j = k
            · rw [d]; exact c
            · exact v2 j (by omega)
          · refine Or.inr ⟨m, by omega, v2, v3, fun j hj h1 h2 => ?_⟩
            by_cases d : j = k
            · rw [d] at h1; omega
            · exact v4 j (by omega) h1 h2
      · rw [if_neg (not_not_intro ((P5_and (f := fun c => decide (c < sW s) && decide (ahd L (sW s) c < n)) (by omega)).mpr (by simp [c]))), if_neg (by decide)]
        rcases hv with ⟨v1, v2⟩ | ⟨m, v1, v2, v3, v4⟩
        · refine ⟨nI k, by rw [if_pos v1, nI_1], Or.inr ⟨k, by omega, rfl, by omega, fun j hj h1 h2 => ?_⟩⟩
          have := v2 j (by omega)
          omega
        · have m1 : mgi x.2 66 k = L k := by rw [x2 k hk]; unfold lkX; rw [if_neg c]
          have m2 : mgi x.2 66 m = L m := by rw [x2 m (by omega)]; unfold lkX; rw [if_neg (by omega)]
          rw [v2, if_neg (nI_n9 (by omega)), mck_ok (vp_in_nI (by omega) (by decide)), mck_ok (vp_in_nI (by omega) (by decide)), nI_clamp (by omega), nI_clamp (by omega), m1, m2, nI_1]
          by_cases d : L k ≤ L m
          · refine ⟨nI m, by rw [if_pos d], Or.inr ⟨m, by omega, rfl, v3, fun j hj h1 h2 => ?_⟩⟩
            by_cases e : j = k
            · rw [e, ahB_iff]
              rw [fa_le] at d
              omega
            · exact v4 j (by omega) h1 h2
          · refine ⟨nI k, by rw [if_neg d], Or.inr ⟨k, by omega, rfl, by omega, fun j hj h1 h2 => ?_⟩⟩
            rw [fa_le] at d
            by_cases e : j = m
            · rw [e, ahB_iff]
              omega
            · have := v4 j (by omega) h1 e
              rw [ahB_iff] at this ⊢
              omega
    · obtain ⟨m, e1, e2, e3⟩ := mst_end (by omega) hv
      have m0 : mgi x.2 66 m = L m := by rw [x2 m e1]; unfold lkX; rw [if_neg (by omega)]
      refine ⟨(nI (P5 fun c => decide (c < sW s) && decide (ahd L (sW s) c < n + 1)), msi x.2 66 m (L m - 1)), ?_, rfl, fun c hc => ?_, x3.trans ⟨fun b k hb => by rw [mgi_msi, if_neg (by omega)], fun b k => rfl⟩⟩
      · show x_X3_chooseColumns_18 N (x_X3_chooseColumns_5 N a (nI t) f) a (nI t) (nI (P5 fun c => decide (c < sW s) && decide (ahd L (sW s) c < n))) (nI n) (g + 1) v (nI (sW s)) x.2 = x_X3_chooseColumns_5 N a (nI t) f (nI (P5 fun c => decide (c < sW s) && decide (ahd L (sW s) c < n + 1))) (nI (n + 1)) (msi x.2 66 m (L m - 1))
        rw [x_X3_chooseColumns_18_s, cs'.2.1, if_pos (nI_le (Nat.le_refl _) (by omega)), e2, if_neg (nI_n9 (by omega)), colBit m (by omega), Option.bind_some, mlet_eq, mck_ok (vp_in_nI (by omega) (by decide)), mck_ok (vp_in_nI (by omega) (by decide)), nI_clamp (by omega), mlet_eq, m0]
        unfold x_X3_chooseColumns_109
        rw [nI_1, fa_or, P5_or (by omega)]
        congr 2
        refine P5_congr fun c hc => ?_
        by_cases d : c = m
        · subst d
          simp [e1, e3]
        · have : c < sW s → ahd L (sW s) c ≠ n := fun q => by rw [← e3]; exact ahd_inj q e1 d
          by_cases q : c < sW s
          · have := this q
            have e4 : (ahd L (sW s) c < n + 1) ↔ (ahd L (sW s) c < n) := by omega
            simp [q, d, e4]
          · simp [q, d]
      · show mgi (msi x.2 66 m (L m - 1)) 66 c = _
        rw [mgi_msi]
        unfold lkX
        by_cases d : c = m
        · rw [if_pos ⟨rfl, d⟩, if_pos (by rw [d]; omega), d]
        · rw [if_neg (fun q => d q.2), x2 c hc]
          unfold lkX
          have : ahd L (sW s) c ≠ n := by rw [← e3]; exact ahd_inj hc e1 d
          by_cases q : ahd L (sW s) c < n
          · rw [if_pos q, if_pos (by omega)]
          · rw [if_neg q, if_neg (by omega)]
  · refine ⟨x.2, ?_, hx.2⟩
    show x_X3_chooseColumns_5 N a (nI t) (f + 1) x.1 (nI t) x.2 = _
    rw [x_X3_chooseColumns_5_s, if_pos (nI_le (Nat.le_refl _) (by omega)), hx.1]
  · show (0 : Int32) = _
    refine b_ext fun i hi => ?_
    rw [b_0, bt_nI _ _ hi, P5_bit]
    simp
/-! the class's filling -/
theorem placed_bit {a r r' c' : Nat} {s : Sh} {h : mH} (w : WS s) (cs : CS h a s) (f : Nat → Bool) (hr : r < sH s) (hr' : r' < sH s) (hc' : c' < sW s) : ∃ v, x_X6_placed a (nI (P5 fun c => decide (c < sW s) && f c)) (nI r) h = some v ∧ bt v (19 - (sW s * r' + c')) = (decide (r' = r) && f c') := by
  have w5 := w.2.2.2.1
  have h4 := w.2.1
  have w1 := w.2.2.1
  have hb : sW s * r ≤ 15 := Nat.le_trans (Nat.mul_le_mul w5 (show r ≤ 3 by omega)) (by decide)
  have hb' : sW s * r' ≤ 15 := Nat.le_trans (Nat.mul_le_mul w5 (show r' ≤ 3 by omega)) (by decide)
  unfold x_X6_placed
  rw [cs.2.1, pk_mul, show (15 : Int32) = nI 15 from rfl, pk_sub hb]
  refine ⟨_, rfl, ?_⟩
  rw [b_shl _ (by omega) _ (by omega), bt_nI _ _ (by omega), P5_bit]
  rcases Nat.lt_trichotomy r' r with q | q | q
  · have := Nat.mul_le_mul_left (sW s) (show r' + 1 ≤ r from q)
    rw [Nat.mul_succ] at this
    have e1 : ¬ (19 - (sW s * r' + c') - (15 - sW s * r) < 5) := by omega
    have e2 : ¬ r' = r := by omega
    simp [e1, e2]
  · subst q
    have e1 : 15 - sW s * r' ≤ 19 - (sW s * r' + c') := by omega
    have e2 : 19 - (sW s * r' + c') - (15 - sW s * r') < 5 := by omega
    have e3 : 4 - (19 - (sW s * r' + c') - (15 - sW s * r')) = c' := by omega
    rw [e3]
    simp [e1, e2, hc']
  · have := Nat.mul_le_mul_left (sW s) (show r + 1 ≤ r' from q)
    rw [Nat.mul_succ] at this
    have e2 : ¬ r' = r := by omega
    by_cases e1 : 15 - sW s * r ≤ 19 - (sW s * r' + c')
    · have e3 : ¬ 4 - (19 - (sW s * r' + c') - (15 - sW s * r)) < sW s := by omega
      simp [e2, e3]
    · simp [e1, e2]
def lkS (s : Sh) : Nat → (Nat → Int32)
  | 0 => fun c => nI (sC s c)
  | k + 1 => lkX (lkS s k) (sW s) (tA s (oR s k))
def fiB (s : Sh) (r c i : Nat) : Bool := decide (r = oR s i) && decide (ahd (lkS s i) (sW s) c < tA s (oR s i))
def fil (s : Sh) (r c n : Nat) : Bool := (List.range n).any (fiB s r c)
theorem fil_succ (s : Sh) (r c n : Nat) : fil s r c (n + 1) = (fil s r c n || fiB s r c n) := by
  unfold fil
  rw [List.range_succ, List.any_append]
  simp
def frH (h h' : mH) : Prop := (∀ b k, b ≠ 65 → b ≠ 66 → mgi h' b k = mgi h b k) ∧ ∀ b k, mgl h' b k = mgl h b k
theorem tA_w {s : Sh} (w : WS s) {j : Nat} (h : j < sH s) : tA s j ≤ sW s := by rw [tA_eq h]; exact w.2.2.2.2.1 j h
theorem fill_eq {N a : Nat} {s : Sh} {h : mH} (hN : 10 < N) (w : WS s) (ha : a + 2 < 65) (cs : CS h a s) : ∃ v h', x_X3_fill N a h = some (v, h') ∧ (∀ r c, r < sH s → c < sW s → bt v (19 - (sW s * r + c)) = fil s r c (sH s)) ∧ frH h h' := by
  have w5 := w.2.2.2.1
  have h4 := w.2.1
  unfold x_X3_fill
  obtain ⟨h1, o1, o2, o3⟩ := orderRows_eq (N := N) hN w ha cs
  have cs1 := o3.cs ha cs
  rw [o1, Option.bind_some]
  refine lpI (fun f (x : mH) i => x_X3_fill_7 N a f i x) (fun k x => (∀ c, c < k → mgi x 66 c = nI (sC s c)) ∧ frG h1 x) (fun o => ∃ v h', o = some (v, h') ∧ (∀ r c, r < sH s → c < sW s → bt v (19 - (sW s * r + c)) = fil s r c (sH s)) ∧ frH h h') (sW s) (fun f k x hk hx => ?_) (fun f x hx => ?_) N 0 h1 (by omega) (by omega) ⟨fun c hc => by omega, frG.refl⟩
  · have csx := hx.2.cs ha cs1
    refine Or.inl ⟨msi x 66 k (nI (sC s k)), ?_, fun c hc => ?_, hx.2.trans ⟨fun b k hb => by rw [mgi_msi, if_neg (by omega)], fun b k => rfl⟩⟩
    · show x_X3_fill_7 N a (f + 1) (nI k) x = x_X3_fill_7 N a f (nI (k + 1)) (msi x 66 k (nI (sC s k)))
      rw [x_X3_fill_7_s, csx.2.1, if_neg (nI_ge hk (by omega)), to_col w csx hk, Option.bind_some, mck_ok (vp_in_nI (by omega) (by decide)), nI_clamp (by omega), mlet_eq, nI_1]
    · rw [mgi_msi]
      by_cases d : c = k
      · rw [if_pos ⟨rfl, d⟩, d]
      · rw [if_neg (fun q => d q.2)]; exact hx.1 c (by omega)
  · have csx := hx.2.cs ha cs1
    show ∃ v h', x_X3_fill_7 N a (f + 1) (nI (sW s)) x = some (v, h') ∧ _
    rw [x_X3_fill_7_s, csx.2.1, if_pos (nI_le (Nat.le_refl _) (by omega))]
    refine lpI (fun g (y : Int32 × mH) i => x_X3_fill_37 N a g y.1 i y.2) (fun k y => (∀ r c, r < sH s → c < sW s → bt y.1 (19 - (sW s * r + c)) = fil s r c k) ∧ (∀ c, c < sW s → mgi y.2 66 c = lkS s k c) ∧ frG h1 y.2) (fun o => ∃ v h', o = some (v, h') ∧ (∀ r c, r < sH s → c < sW s → bt v (19 - (sW s * r + c)) = fil s r c (sH s)) ∧ frH h h') (sH s) (fun g k y hk hy => ?_) (fun g y hy => ?_) N 0 (0, x) (by omega) (by omega) ⟨fun r c _ _ => by rw [b_0]; rfl, fun c hc => hx.1 c hc, hx.2⟩
    · obtain ⟨y1, y2, y3⟩ := hy
      have csy := y3.cs ha cs1
      have ok : oR s k < sH s := oR_lt hk
      have om : mgi y.2 65 k = nI (oR s k) := by rw [y3.1 65 k (by decide)]; exact o2 k hk
      obtain ⟨h2, c1, c2, c3⟩ := choose_eq (N := N) hN w ha csy (tA_w w ok) y2
      have csz := c3.cs ha csy
      have om2 : mgi h2 65 k = nI (oR s k) := by rw [c3.1 65 k (by decide)]; exact om
      obtain ⟨v, p1, -⟩ := placed_bit (r' := oR s k) (c' := 0) w csz (fun c => decide (ahd (lkS s k) (sW s) c < tA s (oR s k))) ok ok (by have := w.2.2.1; omega)
      refine Or.inl ⟨(y.1 ||| v, h2), ?_, fun r c hr hc => ?_, c2, y3.trans c3⟩
      · show x_X3_fill_37 N a (g + 1) y.1 (nI k) y.2 = x_X3_fill_37 N a g (y.1 ||| v) (nI (k + 1)) h2
        rw [x_X3_fill_37_s, csy.1, if_neg (nI_ge hk (by omega)), mck_ok (vp_in_nI (by omega) (by decide)), nI_clamp (by omega), om, totalOf0 w csy ok, Option.bind_some, c1, Option.bind_some, mlet_eq, mck_ok (vp_in_nI (by omega) (by decide)), om2, p1, Option.bind_some, mlet_eq, nI_1]
      · obtain ⟨v', q1, q2⟩ := placed_bit (r' := r) (c' := c) w csz (fun c => decide (ahd (lkS s k) (sW s) c < tA s (oR s k))) ok hr hc
        rw [p1] at q1
        cases q1
        show bt (y.1 ||| v) _ = _
        rw [b_or, y1 r c hr hc, q2, fil_succ]
        rfl
    · refine ⟨y.1, y.2, ?_, hy.1, fun b k h5 h6 => by rw [hy.2.2.1 b k h6, o3.1 b k h5], fun b k => by rw [hy.2.2.2 b k, o3.2 b k]⟩
      show x_X3_fill_37 N a (g + 1) y.1 (nI (sH s)) y.2 = _
      rw [x_X3_fill_37_s, (hy.2.2.cs ha cs1).1, if_pos (nI_le (Nat.le_refl _) (by omega))]
