/-! the model's filling -/
def moR (T : Nat → Nat) (h : Nat) : Nat → List Nat
  | 0 => []
  | v + 1 => (List.range h).filter (fun r => T r == v) ++ moR T h v
def chO (l : List Nat) : Bool := (List.range 6).all fun w => !(l.all (fun x => decide (x ≤ w))) || (moR (fun j => l.getD j 0) l.length (w + 1) == (List.range l.length).map (ord (fun j => l.getD j 0) l.length))
def chI (l : List Nat) : Bool := (List.range l.length).all fun i => (List.range l.length).all fun j => i == j || ord (fun j => l.getD j 0) l.length i != ord (fun j => l.getD j 0) l.length j
theorem chO_1 : (allL 1).all (fun l => chO l && chI l) = true := by decide +kernel
theorem chO_2 : (allL 2).all (fun l => chO l && chI l) = true := by decide +kernel
theorem chO_3 : (allL 3).all (fun l => chO l && chI l) = true := by decide +kernel
theorem chO_4 : (allL 4).all (fun l => chO l && chI l) = true := by decide +kernel
theorem tL_ch {s : Sh} (w : WS s) : chO (tL s) = true ∧ chI (tL s) = true := by
  have h1 := w.1
  have h4 := w.2.1
  have hm := tL_mem w
  rw [← Bool.and_eq_true]
  rcases (by omega : sH s = 1 ∨ sH s = 2 ∨ sH s = 3 ∨ sH s = 4) with e | e | e | e
  · rw [e] at hm; exact List.all_eq_true.mp chO_1 _ hm
  · rw [e] at hm; exact List.all_eq_true.mp chO_2 _ hm
  · rw [e] at hm; exact List.all_eq_true.mp chO_3 _ hm
  · rw [e] at hm; exact List.all_eq_true.mp chO_4 _ hm
theorem tL_len (s : Sh) : (tL s).length = sH s := by simp [tL]
theorem moR_ord {s : Sh} (w : WS s) : moR (tA s) (sH s) (sW s + 1) = (List.range (sH s)).map (oR s) := by
  have hc := (tL_ch w).1
  have w5 := w.2.2.2.1
  unfold chO at hc
  rw [List.all_eq_true] at hc
  have := hc (sW s) (List.mem_range.mpr (by omega))
  rw [Bool.or_eq_true, beq_iff_eq, tL_len] at this
  rcases this with q | q
  · have : (tL s).all (fun x => decide (x ≤ sW s)) = true := by
      rw [List.all_eq_true]
      intro x hx
      unfold tL at hx
      rw [List.mem_map] at hx
      obtain ⟨r, hr, rfl⟩ := hx
      rw [List.mem_range] at hr
      simpa using w.2.2.2.2.1 r hr
    rw [this] at q
    cases q
  · exact q
theorem oR_inj {s : Sh} (w : WS s) {i j : Nat} (hi : i < sH s) (hj : j < sH s) (h : i ≠ j) : oR s i ≠ oR s j := by
  have hc := (tL_ch w).2
  unfold chI at hc
  rw [tL_len, List.all_eq_true] at hc
  have := List.all_eq_true.mp (hc i (List.mem_range.mpr hi)) j (List.mem_range.mpr hj)
  rw [Bool.or_eq_true, beq_iff_eq] at this
  rcases this with q | q
  · exact absurd q h
  · exact bne_iff_ne.mp q
def frO (h h' : mH) : Prop := (∀ b k, b ≠ 97 → mgi h' b k = mgi h b k) ∧ ∀ b k, mgl h' b k = mgl h b k
theorem frO.refl {h : mH} : frO h h := ⟨fun _ _ _ => rfl, fun _ _ => rfl⟩
theorem frO.trans {h h1 h2 : mH} (a : frO h h1) (b : frO h1 h2) : frO h h2 := ⟨fun c k x => (b.1 c k x).trans (a.1 c k x), fun c k => (b.2 c k).trans (a.2 c k)⟩
theorem filt_succ (p : Nat → Bool) (n : Nat) : (List.range (n + 1)).filter p = (List.range n).filter p ++ (if p n then [n] else []) := by
  rw [List.range_succ, List.filter_append]
  congr 1
  by_cases c : p n = true
  · simp [c]
  · simp [c]
theorem filt_mono (p : Nat → Bool) {a b : Nat} (h : a ≤ b) : ((List.range a).filter p).length ≤ ((List.range b).filter p).length := by
  obtain ⟨d, rfl⟩ : ∃ d, b = a + d := ⟨b - a, by omega⟩
  induction d with
  | zero => exact Nat.le_refl _
  | succ d ih =>
    have := ih (by omega)
    rw [← Nat.add_assoc, filt_succ, List.length_append]
    omega
def OL (h : mH) (A : List Nat) : Prop := ∀ j, j < A.length → mgi h 97 j = nI (A.getD j 0)
theorem morder_eq {N : Nat} {s : Sh} {h : mH} (hN : 40 < N) (w : WS s) (m : MS h 85 0 s) : ∃ h', x_X9_orderRows N h = some h' ∧ (∀ j, j < sH s → mgi h' 97 j = nI (oR s j)) ∧ frO h h' := by
  have w5 := w.2.2.2.1
  have h4 := w.2.1
  have e1 := m.2.1
  rw [Nat.zero_add] at e1
  have key : ∀ (v f : Nat) (A : List Nat) (x : mH), v < f → v ≤ 6 → A ++ moR (tA s) (sH s) v = (List.range (sH s)).map (oR s) → OL x A → frO h x → ∃ h', x_X9_orderRows_9 N f (nI A.length) (nI v - 1) x = some h' ∧ (∀ j, j < sH s → mgi h' 97 j = nI (oR s j)) ∧ frO h h' := by
    intro v
    induction v with
    | zero =>
      intro f A x hf _ hA o fr
      obtain ⟨f, rfl⟩ : ∃ e, f = e + 1 := ⟨f - 1, by omega⟩
      refine ⟨x, by rw [x_X9_orderRows_9_s, if_pos (by decide)], fun j hj => ?_, fr⟩
      rw [moR, List.append_nil] at hA
      rw [hA] at o
      rw [o j (by simpa using hj)]
      simp [hj]
    | succ v ih =>
      intro f A x hf hv hA o fr
      obtain ⟨f, rfl⟩ : ∃ e, f = e + 1 := ⟨f - 1, by omega⟩
      have len : A.length + (((List.range (sH s)).filter (fun r => tA s r == v)).length + (moR (tA s) (sH s) v).length) = sH s := by
        have := congrArg List.length hA
        rw [moR, List.length_append, List.length_append] at this
        simpa using this
      rw [x_X9_orderRows_9_s, nI_pred, if_neg (nI_pos (by omega))]
      refine lpI (fun g (y : Int32 × mH) i => x_X9_orderRows_15 N (x_X9_orderRows_9 N f) (nI v) g y.1 i y.2) (fun r y => y.1 = nI (A ++ (List.range r).filter (fun r => tA s r == v)).length ∧ OL y.2 (A ++ (List.range r).filter (fun r => tA s r == v)) ∧ frO h y.2) (fun o => ∃ h', o = some h' ∧ (∀ j, j < sH s → mgi h' 97 j = nI (oR s j)) ∧ frO h h') (sH s) (fun g r y hr hy => ?_) (fun g y hy => ?_) N 0 (nI A.length, x) (by omega) (by omega) ⟨by simp, by simpa using o, fr⟩
      · obtain ⟨y1, y2, y3⟩ := hy
        have my : MS y.2 85 0 s := m.congr (fun k => y3.1 85 k (by decide))
        have mr := my.2.2.1 r hr
        rw [Nat.zero_add] at mr
        have tl := tA_le w r
        have mono := filt_mono (fun r => tA s r == v) (show r + 1 ≤ sH s from hr)
        rw [filt_succ, List.length_append] at mono
        refine Or.inl ?_
        show ∃ a' : Int32 × mH, x_X9_orderRows_15 N (x_X9_orderRows_9 N f) (nI v) (g + 1) y.1 (nI r) y.2 = x_X9_orderRows_15 N (x_X9_orderRows_9 N f) (nI v) g a'.1 (nI (r + 1)) a'.2 ∧ _
        rw [x_X9_orderRows_15_s, my.1, if_neg (nI_ge hr (by omega)), show (2 : Int32) = nI 2 from rfl, nI_add, mck_ok (vp_in_nI (by omega) (by decide)), nI_clamp (by omega), mr, ← tA_eq hr]
        unfold x_X9_orderRows_47
        by_cases c : tA s r = v
        · have c' : (tA s r == v) = true := by simp [c]
          rw [if_pos c'] at mono
          simp only [List.length_cons, List.length_nil] at mono
          have l4 : (A ++ (List.range r).filter (fun r => tA s r == v)).length < 4 := by rw [List.length_append]; omega
          refine ⟨(nI ((A ++ (List.range r).filter (fun r => tA s r == v)).length + 1), msi y.2 97 (A ++ (List.range r).filter (fun r => tA s r == v)).length (nI r)), ?_, ?_, ?_, y3.trans ⟨fun b k hb => by rw [mgi_msi, if_neg (by omega)], fun b k => rfl⟩⟩
          · rw [if_neg (not_not_intro (by rw [c])), y1, mck_ok (vp_in_nI l4 (by decide)), nI_clamp (by omega), mlet_eq, nI_1, nI_1]
          · rw [filt_succ, if_pos c', ← List.append_assoc]
            simp [Nat.add_assoc]
          · rw [filt_succ, if_pos c', ← List.append_assoc]
            intro j hj
            rw [getD_appN hj, mgi_msi]
            by_cases d : j = (A ++ (List.range r).filter (fun r => tA s r == v)).length
            · rw [if_pos ⟨rfl, d⟩, if_pos d]
            · rw [if_neg (fun q => d q.2), if_neg d]
              refine y2 j ?_
              rw [List.length_append] at hj
              simp only [List.length_cons, List.length_nil] at hj
              omega
        · have c' : ¬ (tA s r == v) = true := by simp [c]
          refine ⟨(y.1, y.2), ?_, ?_, ?_, y3⟩
          · rw [if_pos (fun q => c ((nI_eq (by omega) (by omega)).mp q)), nI_1]
          · rw [filt_succ, if_neg c', List.append_nil]; exact y1
          · rw [filt_succ, if_neg c', List.append_nil]; exact y2
      · obtain ⟨y1, y2, y3⟩ := hy
        have my : MS y.2 85 0 s := m.congr (fun k => y3.1 85 k (by decide))
        show ∃ h', x_X9_orderRows_15 N (x_X9_orderRows_9 N f) (nI v) (g + 1) y.1 (nI (sH s)) y.2 = some h' ∧ _
        rw [x_X9_orderRows_15_s, my.1, if_pos (nI_le (Nat.le_refl _) (by omega)), y1, show nI v + (-1 : Int32) = nI v - 1 from by rw [Int32.sub_eq_add_neg]]
        exact ih f _ y.2 (by omega) (by omega) (by rw [← hA, moR, List.append_assoc]) y2 y3
  unfold x_X9_orderRows
  rw [mlet_eq, e1]
  have := key (sW s + 1) N [] h (by omega) (by omega) (by rw [List.nil_append]; exact moR_ord w) (fun j hj => by simp at hj) frO.refl
  rw [nI_pred] at this
  exact this
/-- columns as the model's set -/
def stN (f : Nat → Bool) : Nat → Nat
  | 0 => 0
  | n + 1 => stN f n + (if f n then 2 ^ n else 0)
theorem stN_lt (f : Nat → Bool) : ∀ n, stN f n < 2 ^ n
  | 0 => by rw [stN]; decide
  | n + 1 => by
    have := stN_lt f n
    rw [stN, Nat.pow_succ]
    split <;> omega
theorem stN_bit (f : Nat → Bool) : ∀ n i, (stN f n).testBit i = (decide (i < n) && f i)
  | 0, i => by rw [stN]; simp
  | n + 1, i => by
    have h1 := stN_lt f n
    have h2 := stN_bit f n i
    rw [stN]
    by_cases c : f n = true
    · rw [if_pos c, Nat.add_comm, show 2 ^ n = 2 ^ n * 1 by omega, Nat.two_pow_add_eq_or_of_lt h1, Nat.testBit_or, Nat.mul_one, Nat.testBit_two_pow, h2]
      by_cases d : n = i
      · subst d; simp [c]
      · have e : (i < n + 1) ↔ (i < n) := by omega
        simp [d, e]
    · rw [if_neg c, Nat.add_zero, h2]
      by_cases d : i = n
      · subst d
        have c' : f i = false := by simpa using c
        simp [c']
      · have e : (i < n + 1) ↔ (i < n) := by omega
        simp [e]
theorem stN_or (f : Nat → Bool) (n : Nat) : nI (stN f n) ||| nI (if f n then 2 ^ n else 0) = nI (stN f (n + 1)) := by
  rw [fa_or]
  congr 1
  refine Nat.eq_of_testBit_eq fun i => ?_
  rw [Nat.testBit_or, stN_bit, stN_bit]
  by_cases c : f n = true
  · rw [if_pos c, Nat.testBit_two_pow]
    by_cases d : n = i
    · subst d; simp [c]
    · have e : (i < n + 1) ↔ (i < n) := by omega
      simp [d, e]
  · rw [if_neg c, Nat.zero_testBit, Bool.or_false]
    by_cases d : i = n
    · subst d
      have c' : f i = false := by simpa using c
      simp [c']
    · have e : (i < n + 1) ↔ (i < n) := by omega
      simp [e]
theorem stN_congr {f g : Nat → Bool} : ∀ {n : Nat}, (∀ k, k < n → f k = g k) → stN f n = stN g n
  | 0, _ => rfl
  | n + 1, h => by rw [stN, stN, stN_congr (fun k hk => h k (by omega)), h n (by omega)]
theorem ahead_eq {N c : Nat} {s : Sh} {h : mH} {L : Nat → Int32} (hN : 40 < N) (w : WS s) (m : MS h 85 0 s) (hc : c < sW s) (hL : ∀ c, c < sW s → mgi h 98 c = L c) : x_X9_ahead N (nI c) h = some (nI (ahd L (sW s) c)) := by
  have w5 := w.2.2.2.1
  have e1 := m.2.1
  rw [Nat.zero_add] at e1
  unfold x_X9_ahead
  refine lpV (fun f (x : Int32) i => x_X9_ahead_4 N (nI c) h f x i) (fun j => nI (fb_ct (ahB L c) j)) (sW s) _ (fun f j hj => ?_) (fun f => ?_) (by omega)
  · show x_X9_ahead_4 N (nI c) h (f + 1) _ (nI j) = x_X9_ahead_4 N (nI c) h f _ (nI (j + 1))
    rw [x_X9_ahead_4_s, e1, if_neg (nI_ge hj (by omega)), mck_ok (vp_in_nI (by omega) (by decide)), mck_ok (vp_in_nI (by omega) (by decide)), nI_clamp (by omega), nI_clamp (by omega), hL c hc, hL j hj, fb_ct_succ]
    unfold x_X9_ahead_50 x_X9_ahead_55
    by_cases q : L c < L j
    · rw [if_pos q, mlet_eq, nI_1, nI_1, if_pos (by unfold ahB; simp [q])]
    · rw [if_neg q, mck_ok (vp_in_nI (by omega) (by decide)), mck_ok (vp_in_nI (by omega) (by decide)), mlet_eq, nI_1]
      congr 1
      by_cases r : L j = L c
      · rw [if_neg (not_not_intro r)]
        by_cases u : j < c
        · rw [if_neg (nI_ge u (by omega)), if_pos (by unfold ahB; simp [r, u]), nI_1]
        · rw [if_pos (nI_le (by omega) (by omega)), if_neg (by unfold ahB; simp [q, u])]
          show nI _ + nI 0 = _
          rw [nI_add]
      · rw [if_pos r, if_neg (by unfold ahB; simp [q, r])]
        show nI _ + nI 0 = _
        rw [nI_add]
  · show x_X9_ahead_4 N (nI c) h (f + 1) _ (nI (sW s)) = _
    rw [x_X9_ahead_4_s, e1, if_pos (nI_le (Nat.le_refl _) (by omega))]
    rfl
def frP (h h' : mH) : Prop := (∀ b k, b ≠ 97 → b ≠ 98 → mgi h' b k = mgi h b k) ∧ ∀ b k, mgl h' b k = mgl h b k
def frQ (h h' : mH) : Prop := (∀ b k, b ≠ 98 → mgi h' b k = mgi h b k) ∧ ∀ b k, mgl h' b k = mgl h b k
theorem frQ.refl {h : mH} : frQ h h := ⟨fun _ _ _ => rfl, fun _ _ => rfl⟩
theorem frQ.trans {h h1 h2 : mH} (a : frQ h h1) (b : frQ h1 h2) : frQ h h2 := ⟨fun c k x => (b.1 c k x).trans (a.1 c k x), fun c k => (b.2 c k).trans (a.2 c k)⟩
theorem pow5 : ∀ c, c < 5 → (1 : Int32) <<< (nI c &&& 31) = nI (2 ^ c) := by decide +kernel
theorem mfill_eq {N row : Nat} {s : Sh} {h : mH} (hN : 40 < N) (w : WS s) (m : MS h 85 0 s) (hrow : row < sH s) : ∃ h', x_X9_fill N (nI row) h = some (nI (stN (fun c => fil s row c (sH s)) (sW s)), h') ∧ frP h h' := by
  have w5 := w.2.2.2.1
  have h4 := w.2.1
  unfold x_X9_fill
  obtain ⟨h1, o1, o2, o3⟩ := morder_eq hN w m
  have m1 : MS h1 85 0 s := m.congr (fun k => o3.1 85 k (by decide))
  rw [o1, Option.bind_some]
  have e0 : ∀ x, frQ h1 x → MS x 85 0 s := fun x f => m1.congr (fun k => f.1 85 k (by decide))
  refine lpI (fun f (x : mH) i => x_X9_fill_6 N (nI row) f i x) (fun k x => (∀ c, c < k → mgi x 98 c = nI (sC s c)) ∧ frQ h1 x) (fun o => ∃ h', o = some (nI (stN (fun c => fil s row c (sH s)) (sW s)), h') ∧ frP h h') (sW s) (fun f k x hk hx => ?_) (fun f x hx => ?_) N 0 h1 (by omega) (by omega) ⟨fun c hc => by omega, frQ.refl⟩
  · have mx := e0 x hx.2
    have ew := mx.2.1
    rw [Nat.zero_add] at ew
    have mc := mx.2.2.2.1 k hk
    rw [Nat.zero_add] at mc
    refine Or.inl ⟨msi x 98 k (nI (sC s k)), ?_, fun c hc => ?_, hx.2.trans ⟨fun b k hb => by rw [mgi_msi, if_neg (by omega)], fun b k => rfl⟩⟩
    · show x_X9_fill_6 N (nI row) (f + 1) (nI k) x = x_X9_fill_6 N (nI row) f (nI (k + 1)) (msi x 98 k (nI (sC s k)))
      rw [x_X9_fill_6_s, ew, if_neg (nI_ge hk (by omega)), show (6 : Int32) = nI 6 from rfl, nI_add, mck_ok (vp_in_nI (by omega) (by decide)), mck_ok (vp_in_nI (by omega) (by decide)), nI_clamp (by omega), nI_clamp (by omega), mc, mlet_eq, nI_1]
    · rw [mgi_msi]
      by_cases d : c = k
      · rw [if_pos ⟨rfl, d⟩, d]
      · rw [if_neg (fun q => d q.2)]; exact hx.1 c (by omega)
  · have mx := e0 x hx.2
    have ew := mx.2.1
    rw [Nat.zero_add] at ew
    show ∃ h', x_X9_fill_6 N (nI row) (f + 1) (nI (sW s)) x = some (_, h') ∧ _
    rw [x_X9_fill_6_s, ew, if_pos (nI_le (Nat.le_refl _) (by omega))]
    refine lpI (fun g (y : Int32 × mH) i => x_X9_fill_41 N (nI row) g y.1 i y.2) (fun k y => y.1 = nI (stN (fun c => fil s row c k) (sW s)) ∧ (∀ c, c < sW s → mgi y.2 98 c = lkS s k c) ∧ frQ h1 y.2) (fun o => ∃ h', o = some (nI (stN (fun c => fil s row c (sH s)) (sW s)), h') ∧ frP h h') (sH s) (fun g k y hk hy => ?_) (fun g y hy => ?_) N 0 (0, x) (by omega) (by omega) ⟨?_, fun c hc => hx.1 c hc, hx.2⟩
    · obtain ⟨y1, y2, y3⟩ := hy
      have my := e0 y.2 y3
      have ewy := my.2.1
      rw [Nat.zero_add] at ewy
      have ok : oR s k < sH s := oR_lt hk
      have om : mgi y.2 97 k = nI (oR s k) := by rw [y3.1 97 k (by decide)]; exact o2 k hk
      have mr := my.2.2.1 (oR s k) ok
      rw [Nat.zero_add, ← tA_eq ok] at mr
      have tl := tA_le w (oR s k)
      refine Or.inl ?_
      show ∃ a' : Int32 × mH, x_X9_fill_41 N (nI row) (g + 1) y.1 (nI k) y.2 = x_X9_fill_41 N (nI row) g a'.1 (nI (k + 1)) a'.2 ∧ _
      rw [x_X9_fill_41_s, my.1, if_neg (nI_ge hk (by omega))]
      have K := lpV (fun u (v : Int32) i => x_X9_fill_57 N (x_X9_fill_41 N (nI row) g) (nI row) y.1 (nI k) u v i y.2) (fun j => nI (stN (fun c => decide (ahd (lkS s k) (sW s) c < tA s (oR s k))) j)) (sW s) (x_X9_fill_112 N (x_X9_fill_41 N (nI row) g) (nI row) y.1 (nI k) (nI (stN (fun c => decide (ahd (lkS s k) (sW s) c < tA s (oR s k))) (sW s))) N 0 y.2) (fun u j hj => ?_) (fun u => ?_) (f := N) (by omega)
      · have K' : x_X9_fill_57 N (x_X9_fill_41 N (nI row) g) (nI row) y.1 (nI k) N 0 0 y.2 = x_X9_fill_112 N (x_X9_fill_41 N (nI row) g) (nI row) y.1 (nI k) (nI (stN (fun c => decide (ahd (lkS s k) (sW s) c < tA s (oR s k))) (sW s))) N 0 y.2 := K
        rw [K']
        refine lpI (fun u (v : mH) i => x_X9_fill_112 N (x_X9_fill_41 N (nI row) g) (nI row) y.1 (nI k) (nI (stN (fun c => decide (ahd (lkS s k) (sW s) c < tA s (oR s k))) (sW s))) u i v) (fun j v => (∀ c, c < sW s → mgi v 98 c = if c < j then lkS s (k + 1) c else lkS s k c) ∧ frQ h1 v) (fun o => ∃ a' : Int32 × mH, o = x_X9_fill_41 N (nI row) g a'.1 (nI (k + 1)) a'.2 ∧ (a'.1 = nI (stN (fun c => fil s row c (k + 1)) (sW s)) ∧ (∀ c, c < sW s → mgi a'.2 98 c = lkS s (k + 1) c) ∧ frQ h1 a'.2)) (sW s) (fun u j v hj hv => ?_) (fun u v hv => ?_) N 0 y.2 (by omega) (by omega) ⟨fun c hc => by rw [if_neg (by omega)]; exact y2 c hc, y3⟩
        · have mv := e0 v hv.2
          have ewv := mv.2.1
          rw [Nat.zero_add] at ewv
          have bl := stN_lt (fun c => decide (ahd (lkS s k) (sW s) c < tA s (oR s k))) (sW s)
          refine Or.inl ⟨msi v 98 j (lkS s (k + 1) j), ?_, fun c hc => ?_, hv.2.trans ⟨fun b k hb => by rw [mgi_msi, if_neg (by omega)], fun b k => rfl⟩⟩
          · show x_X9_fill_112 N (x_X9_fill_41 N (nI row) g) (nI row) y.1 (nI k) (nI (stN (fun c => decide (ahd (lkS s k) (sW s) c < tA s (oR s k))) (sW s))) (u + 1) (nI j) v = x_X9_fill_112 N (x_X9_fill_41 N (nI row) g) (nI row) y.1 (nI k) (nI (stN (fun c => decide (ahd (lkS s k) (sW s) c < tA s (oR s k))) (sW s))) u (nI (j + 1)) (msi v 98 j (lkS s (k + 1) j))
            rw [x_X9_fill_112_s, ewv, if_neg (nI_ge hj (by omega)), mck_ok (vp_in_nI (by omega) (by decide)), mck_ok (vp_in_nI (by omega) (by decide)), nI_clamp (by omega), hv.1 j hj, if_neg (by omega), sar_bit _ _ (by omega), stN_bit, mlet_eq, nI_1]
            congr 2
            rw [lkS]
            unfold lkX
            by_cases d : ahd (lkS s k) (sW s) j < tA s (oR s k)
            · rw [if_pos (by simp [hj, d]), if_pos d]
            · rw [if_neg (by simp [d]), if_neg d]
              simp
          · rw [mgi_msi]
            by_cases d : c = j
            · rw [if_pos ⟨rfl, d⟩, if_pos (by omega), d]
            · rw [if_neg (fun q => d q.2), hv.1 c hc]
              by_cases e : c < j
              · rw [if_pos e, if_pos (by omega)]
              · rw [if_neg e, if_neg (by omega)]
        · have mv := e0 v hv.2
          have ewv := mv.2.1
          rw [Nat.zero_add] at ewv
          have omv : mgi v 97 k = nI (oR s k) := by rw [hv.2.1 97 k (by decide)]; exact o2 k hk
          refine ⟨(nI (stN (fun c => fil s row c (k + 1)) (sW s)), v), ?_, rfl, fun c hc => by rw [hv.1 c hc, if_pos hc], hv.2⟩
          show x_X9_fill_112 N (x_X9_fill_41 N (nI row) g) (nI row) y.1 (nI k) (nI (stN (fun c => decide (ahd (lkS s k) (sW s) c < tA s (oR s k))) (sW s))) (u + 1) (nI (sW s)) v = x_X9_fill_41 N (nI row) g _ (nI (k + 1)) v
          rw [x_X9_fill_112_s, ewv, if_pos (nI_le (Nat.le_refl _) (by omega)), mck_ok (vp_in_nI (by omega) (by decide)), nI_clamp (by omega), omv, mlet_eq, nI_1, y1]
          congr 1
          by_cases d : oR s k = row
          · rw [if_neg (not_not_intro (by rw [d]))]
            congr 1
            refine stN_congr fun c hc => ?_
            rw [fil_succ]
            have z : fil s row c k = false := by
              unfold fil
              refine Bool.eq_false_iff.mpr fun q => ?_
              rw [List.any_eq_true] at q
              obtain ⟨i, hi, hq⟩ := q
              rw [List.mem_range] at hi
              unfold fiB at hq
              rw [Bool.and_eq_true, decide_eq_true_eq] at hq
              exact oR_inj w (show i < sH s by omega) hk (by omega) (by rw [d]; exact hq.1.symm)
            rw [z, Bool.false_or]
            unfold fiB
            simp [d]
          · rw [if_pos (fun q => d ((nI_eq (by omega) (by omega)).mp q))]
            congr 1
            refine stN_congr fun c hc => ?_
            rw [fil_succ]
            have : fiB s row c k = false := by unfold fiB; simp [Ne.symm d]
            rw [this, Bool.or_false]
      · show x_X9_fill_57 N (x_X9_fill_41 N (nI row) g) (nI row) y.1 (nI k) (u + 1) _ (nI j) y.2 = x_X9_fill_57 N (x_X9_fill_41 N (nI row) g) (nI row) y.1 (nI k) u _ (nI (j + 1)) y.2
        rw [x_X9_fill_57_s, ewy, if_neg (nI_ge hj (by omega)), ahead_eq hN w my hj y2, Option.bind_some, mck_ok (vp_in_nI (by omega) (by decide)), nI_clamp (by omega), om, show (2 : Int32) = nI 2 from rfl, nI_add, mck_ok (vp_in_nI (by omega) (by decide)), nI_clamp (by omega), mr, mlet_eq, nI_1, ← stN_or, pow5 j (by omega)]
        congr 2
        have al : ahd (lkS s k) (sW s) j ≤ sW s := fb_ct_le _ _
        by_cases d : ahd (lkS s k) (sW s) j < tA s (oR s k)
        · rw [if_neg (nI_ge d (by omega)), if_pos (by simp [d])]
        · rw [if_pos (nI_le (by omega) (by omega)), if_neg (by simp [d])]
          rfl
      · show x_X9_fill_57 N (x_X9_fill_41 N (nI row) g) (nI row) y.1 (nI k) (u + 1) _ (nI (sW s)) y.2 = _
        rw [x_X9_fill_57_s, ewy, if_pos (nI_le (Nat.le_refl _) (by omega))]
    · refine ⟨y.2, ?_, fun b k h5 h6 => by rw [hy.2.2.1 b k h6, o3.1 b k h5], fun b k => by rw [hy.2.2.2 b k, o3.2 b k]⟩
      show x_X9_fill_41 N (nI row) (g + 1) y.1 (nI (sH s)) y.2 = _
      rw [x_X9_fill_41_s, (e0 y.2 hy.2.2).1, if_pos (nI_le (Nat.le_refl _) (by omega)), hy.1]
    · show (0 : Int32) = nI (stN (fun c => fil s row c 0) (sW s))
      have : stN (fun c => fil s row c 0) (sW s) = 0 := by
        refine Nat.eq_of_testBit_eq fun i => ?_
        rw [stN_bit]
        simp [fil]
      rw [this]
      rfl
theorem S_filled {N t : Nat} {h : mH} {z : St} (hN : 1000 < N) (hw : WF z) (hc : IC t h z) (hm : IM h z) (a : Int32) : GW t (xcW (x_X8_filled N a h) (fun h1 => x_X9_filled N a h1)) := by
  have w := hw.2.1.1
  have cs := hc.2.1
  have n20 := w.n20
  have h4 := w.2.1
  have w1 := w.2.2.1
  have w5 := w.2.2.2.1
  have F0 : ∀ h1, frM h1 (msi h1 82 0 0) := fun h1 => frM_i (by decide)
  rcases in_cases a (n := sN z.2.1) (by omega) with ⟨k, hk, rfl⟩ | ⟨-, ca⟩
  · have hcell : ∃ j, j < sN z.2.1 ∧ nI k = nI j := ⟨k, hk, rfl⟩
    have hkr : k / sW z.2.1 < sH z.2.1 := Nat.div_lt_of_lt_mul (by rw [Nat.mul_comm]; exact hk)
    have hkc : k % sW z.2.1 < sW z.2.1 := Nat.mod_lt _ w1
    have hke : sW z.2.1 * (k / sW z.2.1) + k % sW z.2.1 = k := Nat.div_add_mod _ _
    obtain ⟨h2, f1, f2⟩ := failsAt_eq (N := N) (by omega) w (by decide) cs
    by_cases c : tst z.2.1 = -9
    · refine ok_W (r := if fil z.2.1 (k / sW z.2.1) (k % sW z.2.1) (sH z.2.1) then 1 else 0) (z' := z) hm hw ?_ (fun h1 hm1 => ?_)
      · obtain ⟨v, h3, g1, g2, g3⟩ := fill_eq (N := N) (by omega) w (by decide) (f2.cs (by decide) cs)
        refine ⟨h3, ?_, IC.next (hc.scr' (fun b k hb => by rw [g3.1 b k (by unfold icb at hb; omega) (by unfold icb at hb; omega), f2.1 b k (by unfold icb at hb; omega)]) (fun b k => by rw [g3.2, f2.2])), fun b hb => ⟨fun k => by rw [g3.1 b k (by omega) (by omega), f2.1 b k (by omega)], fun k => by rw [g3.2, f2.2]⟩⟩
        unfold x_X8_filled
        rw [hasCell_eq w cs, Option.bind_some, if_pos hcell, if_pos (by decide), f1, Option.bind_some, if_pos c, g1, Option.bind_some, yesIn_eq _ (by omega), Option.bind_some]
        have := g2 _ _ hkr hkc
        rw [hke] at this
        rw [this]
      · have i1 := hm1.thr 0
        have ms := i1.2.1
        have ew := ms.2.1
        rw [Nat.zero_add] at ew
        obtain ⟨h3, g1, g2⟩ := mfill_eq (N := N) (by omega) w ms hkr
        have ew3 : mgi h3 85 1 = nI (sW z.2.1) := by rw [g2.1 85 1 (by decide) (by decide)]; exact ew
        refine ⟨h3, ?_, i1.scr (fun b hb k => g2.1 b k (by omega) (by omega)) (fun k _ => g2.1 82 k (by omega) (by omega)) (fun k => g2.2 82 k), (F0 h1).trans (fun b hb => ⟨fun k => g2.1 b k (by omega) (by omega), fun k => g2.2 b k⟩)⟩
        unfold x_X9_filled
        simp only [mlet_eq]
        rw [noCell_eq ms w, Option.bind_some, if_pos hcell, if_pos rfl, tested_eq (by omega) w ms, Option.bind_some, if_pos c, ew, mzd_ok w1 (by omega), pk_div (by omega) w1 (by omega), g1, Option.bind_some, ew3, mzd_ok w1 (by omega), xrem_nI (by omega) w1 (by omega), sar_bit _ _ (by omega), stN_bit]
        simp [hkc]
    · refine ok_W (r := -3) (z' := z) hm hw ⟨h2, ?_, IC.next (hc.scr' (fun b k hb => f2.1 b k (by unfold icb at hb; omega)) f2.2), fun b hb => ⟨fun k => f2.1 b k (by omega), fun k => f2.2 b k⟩⟩ (fun h1 hm1 => ⟨_, ?_, hm1.thr 0, F0 h1⟩)
      · unfold x_X8_filled
        rw [hasCell_eq w cs, Option.bind_some, if_pos hcell, if_pos (by decide), f1, Option.bind_some, if_neg c]
      · have ms := (hm1.thr 0).2.1
        unfold x_X9_filled
        simp only [mlet_eq]
        rw [noCell_eq ms w, Option.bind_some, if_pos hcell, if_pos rfl, tested_eq (by omega) w ms, Option.bind_some, if_neg c]
  · refine ok_W (r := -1) (z' := z) hm hw ⟨h, ?_, hc.next, frC.rfl⟩ (fun h1 hm1 => ⟨_, ?_, hm1.thr 0, F0 h1⟩)
    · unfold x_X8_filled
      rw [hasCell_eq w cs, Option.bind_some, if_neg ca, if_neg (by decide)]
    · unfold x_X9_filled
      simp only [mlet_eq]
      rw [noCell_eq (hm1.thr 0).2.1 w, Option.bind_some, if_neg ca, if_neg (by decide)]
