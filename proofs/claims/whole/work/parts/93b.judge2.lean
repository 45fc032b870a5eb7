/-! judge: the model's doing -/
def frY (h h' : mH) : Prop := (∀ b k, b ≠ 86 → b ≠ 92 → b ≠ 93 → b ≠ 94 → ¬ (b = 82 ∧ k = 17) → mgi h' b k = mgi h b k) ∧ ∀ b k, mgl h' b k = mgl h b k
theorem frY.refl {h : mH} : frY h h := ⟨fun _ _ _ _ _ _ _ => rfl, fun _ _ => rfl⟩
theorem frY.trans {h h1 h2 : mH} (a : frY h h1) (b : frY h1 h2) : frY h h2 := ⟨fun c k x1 x2 x3 x4 x5 => (b.1 c k x1 x2 x3 x4 x5).trans (a.1 c k x1 x2 x3 x4 x5), fun c k => (b.2 c k).trans (a.2 c k)⟩
def MRes (h : mH) (o : Option (Int32 × mH)) (x : Bool × Sh) : Prop := ∃ h', o = some (b2i x.1, h') ∧ MS h' 86 0 x.2 ∧ frY h h'
theorem mkSwM {a b c d : Nat} {s : Sh} {h : mH} (w : WS s) (wp : WP s) (j : MS h 86 0 s) (ha : a < 10) (hb : b < 10) (hc : c < 10) (hd : d < 10) : MRes h (x_X9_putSwitch (nI a) (nI b) (nI c) (nI d) h) (if (a < sH s ∧ b < sH s) ∧ c < sW s ∧ d < sW s then (swO s a b c d, (s.1, swQ s a b c d)) else (false, s)) := by
  have h4 := w.2.1
  have w5 := w.2.2.2.1
  have e0 := j.1
  have e1 := j.2.1
  rw [Nat.zero_add] at e1
  by_cases e : (a < sH s ∧ b < sH s) ∧ c < sW s ∧ d < sW s
  · rw [if_pos e]
    obtain ⟨h', p1, p2, p3, p4⟩ := putSw_eq w (PB_of wp) j e.1.1 e.1.2 e.2.1 e.2.2
    exact ⟨h', p1, p2, fun b k hb _ _ _ _ => p3 b k hb, p4⟩
  · rw [if_neg e]
    have z : (if nI (sH s) ≤ nI a then (0 : Int32) else (if nI (sH s) ≤ nI b then 0 else (if nI (sW s) ≤ nI c then 0 else (if nI (sW s) ≤ nI d then 0 else 1)))) = 0 := by
      by_cases x1 : a < sH s
      · rw [if_neg (nI_ge x1 (by omega))]
        by_cases x2 : b < sH s
        · rw [if_neg (nI_ge x2 (by omega))]
          by_cases x3 : c < sW s
          · rw [if_neg (nI_ge x3 (by omega))]
            by_cases x4 : d < sW s
            · exact absurd ⟨⟨x1, x2⟩, x3, x4⟩ e
            · rw [if_pos (nI_le (by omega) (by omega))]
          · rw [if_pos (nI_le (by omega) (by omega))]
        · rw [if_pos (nI_le (by omega) (by omega))]
      · rw [if_pos (nI_le (by omega) (by omega))]
    unfold x_X9_putSwitch
    rw [mlet_eq, e0, e1, z, if_pos rfl]
    unfold x_X9_putSwitch_69
    rw [mlet_eq, if_pos rfl, if_neg (by decide)]
    have sm : ∀ b k, mgi (msi h 86 31 (mgi h 86 31)) b k = mgi h b k := fun b k => by
      rw [mgi_msi]
      by_cases q : b = 86 ∧ k = 31
      · rw [if_pos q, q.1, q.2]
      · rw [if_neg q]
    exact ⟨_, rfl, j.congr (fun k => sm 86 k), fun b k _ _ _ _ _ => sm b k, fun b k => rfl⟩
theorem mset {N jj v : Nat} {s : Sh} {h : mH} (hN : 400 < N) (w : WS s) (pb : PB s) (m : MS h 86 0 s) (h2 : 2 ≤ jj) (h3 : jj < 31) (w' : WS (spT s jj v)) : ∃ h', x_X9_settle N 86 (msi h 86 jj (nI v)) = some h' ∧ MS h' 86 0 (stl (spT s jj v)) ∧ frY h h' := by
  obtain ⟨h', s1, s2, s3, s4⟩ := msettle_eq (N := N) (p := 86) hN (by decide) w' (PB_set h2 pb) (m.set w h2 h3)
  exact ⟨h', s1, s2, fun b k x1 x2 x3 x4 x5 => by rw [s4.1 b k x2 x3 x4 x5 (by omega), mgi_msi, if_neg (by omega)], fun b k => by rw [s4.2]; rfl⟩
theorem mkPinM {N k d : Nat} {s : Sh} {h : mH} (hN : 400 < N) (w : WS s) (wp : WP s) (j : MS h 86 0 s) (hk : k < 100) (hd : d < 10) : MRes h (x_X9_putPin N (nI k) (nI d) h) (if k < sN s ∧ d ≤ 2 ∧ ¬ (d ≠ 0 ∧ sP s k = 0 ∧ pinN s = 6) then (true, stl (spT s (11 + k) d)) else (false, s)) := by
  have n20 := w.n20
  have n6 : pinN s ≤ 6 := w.2.2.2.2.2.2.2
  have pb := PB_of wp
  have bad : MRes h (some (0, h)) (false, s) := ⟨h, rfl, j, frY.refl⟩
  unfold x_X9_putPin x_X9_putPin_32 x_X9_putPin_33
  rw [cells_eq j, Option.bind_some, if_pos (show (0 : Int32) = 0 from rfl), mzc0]
  by_cases c1 : k < sN s
  · rw [if_neg (nI_ge c1 (by omega))]
    by_cases c2 : d ≤ 2
    · rw [if_neg (show ¬ (3 : Int32) ≤ nI d from nI_ge (b := 3) (by omega) (by decide)), tooMany_eq (by omega) w j c1 c2, Option.bind_some, mlet_eq]
      by_cases c3 : d ≠ 0 ∧ sP s k = 0 ∧ pinN s = 6
      · rw [if_pos c3, if_neg (show ¬ (k < sN s ∧ d ≤ 2 ∧ ¬ (d ≠ 0 ∧ sP s k = 0 ∧ pinN s = 6)) from fun q => q.2.2 c3), show (if ¬ (1 : Int32) = 0 then (0 : Int32) else 1) = 0 by decide, if_pos rfl, mzc0]
        exact bad
      · have w' : WS (spT s (11 + k) d) := by
          refine WS_pin w c1 c2 ?_
          by_cases d0 : d = 0
          · exact Or.inl d0
          · by_cases p0 : sP s k = 0
            · refine Or.inr (Or.inr ?_)
              have : ¬ pinN s = 6 := fun q => c3 ⟨d0, p0, q⟩
              omega
            · exact Or.inr (Or.inl p0)
        obtain ⟨h', s1, s2, s3⟩ := mset (N := N) hN w pb j (show 2 ≤ 11 + k by omega) (by omega) w'
        rw [if_neg c3, if_pos (show k < sN s ∧ d ≤ 2 ∧ ¬ (d ≠ 0 ∧ sP s k = 0 ∧ pinN s = 6) from ⟨c1, c2, c3⟩), show (if ¬ (0 : Int32) = 0 then (0 : Int32) else 1) = 1 by decide, if_neg (by decide), show (11 : Int32) + nI k = nI (11 + k) from nI_add 11 k, mck_ok (vp_in_nI (by omega) (by decide)), nI_clamp (by omega), mlet_eq, s1, Option.bind_some, mzc1]
        exact ⟨h', rfl, s2, s3⟩
    · rw [if_pos (show (3 : Int32) ≤ nI d from nI_le (a := 3) (by omega) (by omega)), if_neg (fun q => c2 q.2.1)]
      exact bad
  · rw [if_pos (nI_le (by omega) (by omega)), if_neg (fun q => c1 q.1)]
    exact bad
theorem mkTotM {N a b d : Nat} {s : Sh} {h : mH} (hN : 400 < N) (w : WS s) (wp : WP s) (j : MS h 86 0 s) (ha : a < 10) (hb : b < 10) (hd : d < 10) : MRes h (x_X9_putTotal N (nI a) (nI b) (nI d) h) (if a < 2 ∧ b < cntS s a ∧ d ≤ mostS s a then (true, stl (spT s (slotS a b) d)) else (false, s)) := by
  have pb := PB_of wp
  have bad : MRes h (some (0, h)) (false, s) := ⟨h, rfl, j, frY.refl⟩
  unfold x_X9_putTotal x_X9_putTotal_49 x_X9_putTotal_50
  rw [if_pos (show (0 : Int32) = 0 from rfl), mzc0]
  by_cases c1 : a < 2
  · have n5 := cntS_le w a
    have m5 := mostS_le w a
    have ni : ¬ (2 : Int32) ≤ nI a := nI_ge (b := 2) c1 (by decide)
    have e0 : mgi h 86 a = nI (cntS s a) := by
      unfold cntS
      rcases (by omega : a = 0 ∨ a = 1) with q | q
      · subst q; rw [if_pos rfl]; exact j.1
      · subst q; rw [if_neg (by decide)]; have := j.2.1; rwa [Nat.zero_add] at this
    have e1 : mgi h 86 (1 - a) = nI (mostS s a) := by
      unfold mostS
      rcases (by omega : a = 0 ∨ a = 1) with q | q
      · subst q; rw [if_pos rfl]; have := j.2.1; rwa [Nat.zero_add] at this
      · subst q; rw [if_neg (by decide)]; exact j.1
    rw [if_neg ni, if_neg ni, if_neg ni, mck_ok (vp_in_nI (by omega) (by decide)), nI_clamp (by omega), e0, show (1 : Int32) - nI a = nI (1 - a) from by rw [show (1 : Int32) = nI 1 from rfl, pk_sub (by omega)], mck_ok (vp_in_nI (by omega) (by decide)), nI_clamp (by omega), e1, mlet_eq]
    by_cases c2 : b < cntS s a
    · rw [if_neg (nI_ge c2 (by omega))]
      by_cases c3 : d ≤ mostS s a
      · have sl : slotS a b < 31 := by unfold slotS; split <;> omega
        obtain ⟨h', s1, s2, s3⟩ := mset (N := N) hN w pb j (slot_2 a b) sl (WS_tot w c1 c2 c3)
        rw [if_pos (show a < 2 ∧ b < cntS s a ∧ d ≤ mostS s a from ⟨c1, c2, c3⟩), if_neg (nI_nlt c3 (by omega)), if_neg (by decide), totalAt_eq c1, Option.bind_some, mck_ok (vp_in_nI (by omega) (by decide)), nI_clamp (by omega), mlet_eq, s1, Option.bind_some, mzc1]
        exact ⟨h', rfl, s2, s3⟩
      · rw [if_neg (show ¬ (a < 2 ∧ b < cntS s a ∧ d ≤ mostS s a) from fun q => c3 q.2.2), if_pos (nI_lt (by omega) (by omega)), if_pos rfl, mzc0]
        exact bad
    · rw [if_pos (nI_le (by omega) (by omega)), if_neg (fun q => c2 q.2.1)]
      exact bad
  · rw [if_pos (show (2 : Int32) ≤ nI a from nI_le (a := 2) (by omega) (by omega)), if_neg (fun q => c1 q.1)]
    exact bad
theorem does_eq {N k a b c d : Nat} {s : Sh} {h : mH} (hN : 400 < N) (w : WS s) (wp : WP s) (j : MS h 86 0 s) (hk : k < 10) (ha : a < 10) (hb : b < 10) (hc : c < 10) (hd : d < 10) : MRes h (x_X9_does N (nI (fvN k a b c d)) h) (jd s k a b c d) := by
  have n20 := w.n20
  have pb := PB_of wp
  have l310 := ans_310 w
  have fl : fvN k a b c d < 100000 := by unfold fvN; omega
  obtain ⟨d0, d1, d2, d3, d4, d5⟩ := fv_dig (k := k) ha hb hc hd
  have z1 : fvN k a b c d / 1000 ≤ fvN k a b c d := Nat.div_le_self _ _
  have z2 : fvN k a b c d / 100 ≤ fvN k a b c d := Nat.div_le_self _ _
  have z3 : fvN k a b c d / 10 ≤ fvN k a b c d := Nat.div_le_self _ _
  unfold x_X9_does
  simp only [mlet_eq]
  rw [show (10000 : Int32) = nI 10000 from rfl, show (1000 : Int32) = nI 1000 from rfl, show (100 : Int32) = nI 100 from rfl, show (10 : Int32) = nI 10 from rfl, pk_div (by omega) (by decide) (by decide), pk_div (by omega) (by decide) (by decide), pk_div (by omega) (by decide) (by decide), pk_div (by omega) (by decide) (by decide), xrem_nI (by omega) (by decide) (by decide), xrem_nI (by omega) (by decide) (by decide), xrem_nI (by omega) (by decide) (by decide), xrem_nI (by omega) (by decide) (by decide), xrem_nI (by omega) (by decide) (by decide), d0, d1, d2, d3, d4, d5, pk_mul, nI_add, cells_eq j, Option.bind_some]
  have kq : ∀ m : Nat, m < 10 → (nI k = nI m ↔ k = m) := fun m hm => nI_eq (by omega) (by omega)
  have bad : MRes h (some (0, h)) (false, s) := ⟨h, rfl, j, frY.refl⟩
  have say : ∀ p : Bool, MRes h (some (b2i p, h)) (p, s) := fun p => ⟨h, rfl, j, frY.refl⟩
  have c0 : nI c = 0 ↔ c = 0 := nI_eq (b := 0) (by omega) (by decide)
  have th : ∀ e : 10 * a + b < sN s, (if nI (sN s) ≤ nI (10 * a + b) then (0 : Int32) else 1) = 1 := fun e => by rw [if_neg (nI_ge e (by omega))]
  have nth : ¬ 10 * a + b < sN s → (if nI (sN s) ≤ nI (10 * a + b) then (0 : Int32) else 1) = 0 := fun e => by rw [if_pos (nI_le (by omega) (by omega))]
  unfold jd
  by_cases c1 : k = 1
  · rw [if_pos (show nI k = (1 : Int32) from (kq 1 (by decide)).mpr c1), if_pos c1]
    obtain ⟨h', e1, e2, e3⟩ := mkSwM w wp j ha hb hc hd
    rw [e1, Option.bind_some]
    refine ⟨h', ?_, e2, e3⟩
    cases (if (a < sH s ∧ b < sH s) ∧ c < sW s ∧ d < sW s then (swO s a b c d, ((s.1, swQ s a b c d) : Sh)) else (false, s)).1 <;> rfl
  rw [if_neg (show ¬ nI k = (1 : Int32) from fun q => c1 ((kq 1 (by decide)).mp q)), if_neg c1]
  by_cases c2 : k = 2
  · rw [if_pos (show nI k = (2 : Int32) from (kq 2 (by decide)).mpr c2), if_pos c2]
    by_cases e : c = 0
    · rw [if_neg (not_not_intro (c0.mpr e))]
      by_cases f : 10 * a + b < sN s
      · rw [th f, if_neg (by decide)]
        obtain ⟨h', e1, e2, e3⟩ := mkPinM hN w wp j (show 10 * a + b < 100 by omega) hd
        rw [e1, Option.bind_some]
        have eq : (if c = 0 ∧ 10 * a + b < sN s ∧ d ≤ 2 ∧ ¬ (d ≠ 0 ∧ sP s (10 * a + b) = 0 ∧ pinN s = 6) then (true, stl (spT s (11 + (10 * a + b)) d)) else (false, s)) = (if 10 * a + b < sN s ∧ d ≤ 2 ∧ ¬ (d ≠ 0 ∧ sP s (10 * a + b) = 0 ∧ pinN s = 6) then (true, stl (spT s (11 + (10 * a + b)) d)) else (false, s)) := by simp only [e, true_and]
        rw [eq]
        refine ⟨h', ?_, e2, e3⟩
        cases (if 10 * a + b < sN s ∧ d ≤ 2 ∧ ¬ (d ≠ 0 ∧ sP s (10 * a + b) = 0 ∧ pinN s = 6) then (true, stl (spT s (11 + (10 * a + b)) d)) else (false, s)).1 <;> rfl
      · rw [nth f, if_pos rfl, if_neg (fun q => f q.2.1)]
        exact bad
    · rw [if_pos (fun q => e (c0.mp q)), if_neg (fun q => e q.1)]
      exact bad
  rw [if_neg (show ¬ nI k = (2 : Int32) from fun q => c2 ((kq 2 (by decide)).mp q)), if_neg c2]
  by_cases c3 : k = 3
  · rw [if_pos (show nI k = (3 : Int32) from (kq 3 (by decide)).mpr c3), if_pos c3]
    by_cases e : c = 0
    · rw [if_neg (not_not_intro (c0.mpr e))]
      obtain ⟨h', e1, e2, e3⟩ := mkTotM hN w wp j ha hb hd
      rw [e1, Option.bind_some]
      have eq : (if c = 0 ∧ a < 2 ∧ b < cntS s a ∧ d ≤ mostS s a then (true, stl (spT s (slotS a b) d)) else (false, s)) = (if a < 2 ∧ b < cntS s a ∧ d ≤ mostS s a then (true, stl (spT s (slotS a b) d)) else (false, s)) := by simp only [e, true_and]
      rw [eq]
      refine ⟨h', ?_, e2, e3⟩
      cases (if a < 2 ∧ b < cntS s a ∧ d ≤ mostS s a then (true, stl (spT s (slotS a b) d)) else (false, s)).1 <;> rfl
    · rw [if_pos (fun q => e (c0.mp q)), if_neg (fun q => e q.1)]
      exact bad
  rw [if_neg (show ¬ nI k = (3 : Int32) from fun q => c3 ((kq 3 (by decide)).mp q)), if_neg c3]
  by_cases c4 : k = 4
  · rw [if_pos (show nI k = (4 : Int32) from (kq 4 (by decide)).mpr c4), if_pos c4]
    have := say (decide (c = 0 ∧ 10 * a + b < sN s ∧ plA s (10 * a + b) = nI d))
    by_cases e : c = 0
    · rw [if_neg (not_not_intro (c0.mpr e))]
      by_cases f : 10 * a + b < sN s
      · rw [th f, if_neg (by decide), j.pl]
        cases es : s.2 with
        | none =>
          rw [plM_none es, if_pos rfl]
          have ne : ¬ plA s (10 * a + b) = nI d := by rw [plA_none es]; exact fun q => nI_n9 (by omega) q.symm
          simpa [ne, b2i] using this
        | some q =>
          have q20 := pw20 w (pb q es)
          have pe : (if (if cb s q (10 * a + b) = true then (1 : Int32) else 0) = 0 then (0 : Int32) else 1) = plA s (10 * a + b) := by
            rw [plA_some es]
            cases cb s q (10 * a + b) <;> rfl
          rw [plM_some es, if_neg (nI_n9 (by omega)), isYes_eq j w _ _ f, Option.bind_some, pe]
          by_cases g : plA s (10 * a + b) = nI d
          · rw [if_neg (not_not_intro g)]; simpa [e, f, g, b2i] using this
          · rw [if_pos g]; simpa [e, f, g, b2i] using this
      · rw [nth f, if_pos rfl]
        simpa [f, b2i] using this
    · rw [if_pos (fun q => e (c0.mp q))]
      simpa [e, b2i] using this
  rw [if_neg (show ¬ nI k = (4 : Int32) from fun q => c4 ((kq 4 (by decide)).mp q)), if_neg c4]
  obtain ⟨h1, l1, l2, l3⟩ := list_eq (N := N) (p := 86) true (by omega) (by decide) w j
  have l2' : LsA h1 (ans s) := by simpa using l2
  have l1' : x_X9_list N 86 1 h = some h1 := l1
  have j1 : MS h1 86 0 s := l3.ms (by decide) j
  have say1 : ∀ p : Bool, MRes h (some (b2i p, h1)) (p, s) := fun p => ⟨h1, rfl, j1, fun b k x1 x2 x3 x4 x5 => l3.1 b k x2 x3 x4 x5, l3.2⟩
  by_cases c5 : k = 5
  · rw [if_pos (show nI k = (5 : Int32) from (kq 5 (by decide)).mpr c5), if_pos c5, l1', Option.bind_some]
    have := say1 (decide (c = 0 ∧ 10 * a + b < sN s ∧ sureS s (10 * a + b) = nI d))
    by_cases e : c = 0
    · rw [if_neg (not_not_intro (c0.mpr e))]
      by_cases f : 10 * a + b < sN s
      · rw [th f, if_neg (by decide), msure_eq hN w j1 l2' f, Option.bind_some]
        by_cases g : sureS s (10 * a + b) = nI d
        · rw [if_neg (not_not_intro g)]; simpa [e, f, g, b2i] using this
        · rw [if_pos g]; simpa [e, f, g, b2i] using this
      · rw [nth f, if_pos rfl]
        simpa [f, b2i] using this
    · rw [if_pos (fun q => e (c0.mp q))]
      simpa [e, b2i] using this
  rw [if_neg (show ¬ nI k = (5 : Int32) from fun q => c5 ((kq 5 (by decide)).mp q)), if_neg c5]
  by_cases c6 : k = 6
  · have a0 : nI a = 0 ↔ a = 0 := nI_eq (b := 0) (by omega) (by decide)
    rw [if_pos (show nI k = (6 : Int32) from (kq 6 (by decide)).mpr c6), if_pos c6, l1', Option.bind_some, l2'.1]
    have := say1 (decide (a = 0 ∧ 100 * b + 10 * c + d ≤ (ans s).length))
    by_cases e : a = 0
    · rw [if_neg (not_not_intro (a0.mpr e))]
      by_cases f : 100 * b + 10 * c + d ≤ (ans s).length
      · rw [if_neg (nI_nlt (by omega) (by omega))]; simpa [e, f, b2i] using this
      · rw [if_pos (nI_lt (by omega) (by omega))]; simpa [e, f, b2i] using this
    · rw [if_pos (fun q => e (a0.mp q))]; simpa [e, b2i] using this
  rw [if_neg (show ¬ nI k = (6 : Int32) from fun q => c6 ((kq 6 (by decide)).mp q)), if_neg c6]
  exact bad
/-! the row of doings -/
def jdF (s : Sh) (n : Nat) : Bool × Sh := jd s (n / 10000) (n / 1000 % 10) (n / 100 % 10) (n / 10 % 10) (n % 10)
def jr (R n : Nat) : Nat → Nat → Sh → Int32 × Sh
  | 0, _, s => (-9, s)
  | r + 1, i, s => if (jdF s (R / 100000 ^ (n - 1 - i) % 100000)).1 = true then jr R n r (i + 1) (jdF s (R / 100000 ^ (n - 1 - i) % 100000)).2 else (nI i, (jdF s (R / 100000 ^ (n - 1 - i) % 100000)).2)
theorem mU : ∀ j, j < 4 → mUnits j = lN (100000 ^ j) := by decide +kernel
theorem p15 : ∀ j, j < 4 → 100000 ^ j ≤ 1000000000000000 ∧ 0 < 100000 ^ j := by decide +kernel
theorem five_eq {R j : Nat} (hR : R < 2 ^ 62) (hj : j < 4) : (xlrem (lN R / lN (100000 ^ j)) (lN 100000)).toInt32 = nI (R / 100000 ^ j % 100000) := by
  obtain ⟨p1, p2⟩ := p15 j hj
  have z : R / 100000 ^ j ≤ R := Nat.div_le_self _ _
  unfold xlrem
  rw [pk_lDiv (by omega) p2 (by omega), pk_lRem (by omega) (by decide) (by decide), lN_i]
theorem mzdL_ok {β : Type} {j : Nat} (hj : j < 4) (k : Option β) : mzdL (lN (100000 ^ j)) k = k := by
  obtain ⟨p1, p2⟩ := p15 j hj
  unfold mzdL
  rw [if_neg]
  intro e
  have := (pk_lEQ (a := 100000 ^ j) (b := 0) (by omega) (by decide)).mp e
  omega
theorem cjr {N R n : Nat} (hN : 400 < N) (hR : R < 2 ^ 62) (hn : n ≤ 3) : ∀ (r i f : Nat) (s : Sh) (h : mH), i + r = n → r < f → WS s → WP s → JC h s → ∃ h', x_X8_judge_56 N (nI n) (lN R) f (nI i) h = some ((jr R n r i s).1, h') ∧ (∃ s', WS s' ∧ JC h' s') ∧ frV h h' := by
  intro r
  induction r with
  | zero =>
    intro i f s h hi hf w wp j
    obtain ⟨f, rfl⟩ : ∃ e, f = e + 1 := ⟨f - 1, by omega⟩
    refine ⟨h, ?_, ⟨s, w, j⟩, frV.refl⟩
    rw [x_X8_judge_56_s, if_pos (nI_le (by omega) (by omega))]
    rfl
  | succ r ih =>
    intro i f s h hi hf w wp j
    obtain ⟨f, rfl⟩ : ∃ e, f = e + 1 := ⟨f - 1, by omega⟩
    have u1 : mUnits ((1 : Int32).toNatClampNeg) = lN 100000 := by decide +kernel
    have jw := jd_W w wp ((R / 100000 ^ (n - 1 - i) % 100000) / 10000) ((R / 100000 ^ (n - 1 - i) % 100000) / 1000 % 10) ((R / 100000 ^ (n - 1 - i) % 100000) / 100 % 10) ((R / 100000 ^ (n - 1 - i) % 100000) / 10 % 10) ((R / 100000 ^ (n - 1 - i) % 100000) % 10)
    obtain ⟨h1, t1, t2, t3⟩ := takes_eq (N := N) (k := (R / 100000 ^ (n - 1 - i) % 100000) / 10000) (a := (R / 100000 ^ (n - 1 - i) % 100000) / 1000 % 10) (b := (R / 100000 ^ (n - 1 - i) % 100000) / 100 % 10) (c := (R / 100000 ^ (n - 1 - i) % 100000) / 10 % 10) (d := (R / 100000 ^ (n - 1 - i) % 100000) % 10) hN w wp j (by omega) (by omega) (by omega) (by omega) (by omega)
    rw [← fv_of] at t1
    have st : x_X8_judge_56 N (nI n) (lN R) (f + 1) (nI i) h = if ¬ b2i (jdF s (R / 100000 ^ (n - 1 - i) % 100000)).1 = 0 then x_X8_judge_56 N (nI n) (lN R) f (nI (i + 1)) h1 else some (nI i, h1) := by
      rw [x_X8_judge_56_s, if_neg (nI_ge (by omega) (by omega)), sub1 (by omega), mck_ok (vp_in_nI (by omega) (by decide)), nI_clamp (by omega), mlet_eq, mU _ (by omega), mzdL_ok (by omega), mck_ok (show vp_in (1 : Int32) 4 by unfold vp_in; decide), u1, show lN 100000 = lN (100000 ^ 1) from rfl, mzdL_ok (by decide), mlet_eq, show lN (100000 ^ 1) = lN 100000 from rfl, five_eq hR (by omega), t1, Option.bind_some, nI_1]
      rfl
    rw [st, jr]
    by_cases c : (jdF s (R / 100000 ^ (n - 1 - i) % 100000)).1 = true
    · rw [c, if_pos (by decide), if_pos rfl]
      obtain ⟨h2, q1, q2, q3⟩ := ih (i + 1) f _ h1 (by omega) (by omega) jw.1 jw.2 t2
      exact ⟨h2, q1, q2, t3.trans q3⟩
    · have c' : (jdF s (R / 100000 ^ (n - 1 - i) % 100000)).1 = false := by simpa using c
      rw [c', if_neg (by decide), if_neg (by decide)]
      exact ⟨h1, rfl, ⟨_, jw.1, t2⟩, t3⟩
theorem lpow_eq {N j : Nat} (hN : 40 < N) (hj : j < 10) : x_X9_longPower N 100000 (nI j) = some (lN (100000 ^ j)) := by
  unfold x_X9_longPower
  refine lpV (fun f (x : Int64) i => x_X9_longPower_5 N 100000 (nI j) f x i) (fun k => lN (100000 ^ k)) j _ (fun f k hk => ?_) (fun f => ?_) (by omega)
  · show x_X9_longPower_5 N 100000 (nI j) (f + 1) _ (nI k) = x_X9_longPower_5 N 100000 (nI j) f _ (nI (k + 1))
    rw [x_X9_longPower_5_s, if_neg (nI_ge hk (by omega)), mlet_eq, nI_1, show (100000 : Int64) = lN 100000 from rfl, lN_mul, Nat.pow_succ]
  · show x_X9_longPower_5 N 100000 (nI j) (f + 1) _ (nI j) = _
    rw [x_X9_longPower_5_s, if_pos (nI_le (Nat.le_refl _) (by omega))]
theorem mjr {N R n : Nat} (hN : 400 < N) (hR : R < 2 ^ 62) (hn : n ≤ 3) : ∀ (r i f : Nat) (s : Sh) (h : mH), i + r = n → r < f → WS s → WP s → MS h 86 0 s → ∃ h', x_X9_judge_51 N (nI n) (lN R) f (nI i) h = some ((jr R n r i s).1, h') ∧ frY h h' := by
  intro r
  induction r with
  | zero =>
    intro i f s h hi hf w wp j
    obtain ⟨f, rfl⟩ : ∃ e, f = e + 1 := ⟨f - 1, by omega⟩
    refine ⟨h, ?_, frY.refl⟩
    rw [x_X9_judge_51_s, if_pos (nI_le (by omega) (by omega))]
    rfl
  | succ r ih =>
    intro i f s h hi hf w wp j
    obtain ⟨f, rfl⟩ : ∃ e, f = e + 1 := ⟨f - 1, by omega⟩
    have jw := jd_W w wp ((R / 100000 ^ (n - 1 - i) % 100000) / 10000) ((R / 100000 ^ (n - 1 - i) % 100000) / 1000 % 10) ((R / 100000 ^ (n - 1 - i) % 100000) / 100 % 10) ((R / 100000 ^ (n - 1 - i) % 100000) / 10 % 10) ((R / 100000 ^ (n - 1 - i) % 100000) % 10)
    obtain ⟨h1, t1, t2, t3⟩ := does_eq (N := N) (k := (R / 100000 ^ (n - 1 - i) % 100000) / 10000) (a := (R / 100000 ^ (n - 1 - i) % 100000) / 1000 % 10) (b := (R / 100000 ^ (n - 1 - i) % 100000) / 100 % 10) (c := (R / 100000 ^ (n - 1 - i) % 100000) / 10 % 10) (d := (R / 100000 ^ (n - 1 - i) % 100000) % 10) hN w wp j (by omega) (by omega) (by omega) (by omega) (by omega)
    rw [← fv_of] at t1
    have st : x_X9_judge_51 N (nI n) (lN R) (f + 1) (nI i) h = if ¬ b2i (jdF s (R / 100000 ^ (n - 1 - i) % 100000)).1 = 0 then x_X9_judge_51 N (nI n) (lN R) f (nI (i + 1)) h1 else some (nI i, h1) := by
      rw [x_X9_judge_51_s, if_neg (nI_ge (by omega) (by omega)), sub1 (by omega), lpow_eq (by omega) (by omega), Option.bind_some, mzdL_ok (by omega), show (100000 : Int64) = lN 100000 from rfl, five_eq hR (by omega), t1, Option.bind_some, nI_1]
      rfl
    rw [st, jr]
    by_cases c : (jdF s (R / 100000 ^ (n - 1 - i) % 100000)).1 = true
    · rw [c, if_pos (by decide), if_pos rfl]
      obtain ⟨h2, q1, q3⟩ := ih (i + 1) f _ h1 (by omega) (by omega) jw.1 jw.2 t2
      exact ⟨h2, q1, t3.trans q3⟩
    · have c' : (jdF s (R / 100000 ^ (n - 1 - i) % 100000)).1 = false := by simpa using c
      rw [c', if_neg (by decide), if_neg (by decide)]
      exact ⟨h1, rfl, t3⟩
theorem cmpLt (x a : Int64) : (lg_cmp x a < 0) ↔ x < a := by
  have h1 : (lg_cmp x a < 0) ↔ ¬ a ≤ x := by
    rw [← lg_cmp_ge]
    constructor
    · intro h q
      rw [fa_lt] at h; rw [fa_le] at q; simp at h q; omega
    · intro h
      rw [fa_lt]; rw [fa_le] at h; simp at h ⊢; omega
  rw [h1, fa_le64, fa_lt64]
  omega
theorem in13 (x : Int32) : x_X9_in x.toInt64 1 3 = some (if 1 ≤ x ∧ x ≤ 3 then 1 else 0) := by
  rw [show (1 : Int64) = (1 : Int32).toInt64 by decide, show (3 : Int64) = (3 : Int32).toInt64 by decide, xin32]
theorem S_judge {N t : Nat} {h : mH} {z : St} (hN : 1000 < N) (hw : WF z) (hc : IC t h z) (hm : IM h z) (a : Int32) (b : Int64) : GW t (xcW (x_X8_judge N a b h) (fun h1 => x_X9_judge N a b h1)) := by
  have w := hw.2.1.1
  have wp := hw.2.1.2
  have F0 : ∀ h1, frM h1 (msi h1 82 0 0) := fun h1 => frM_i (by decide)
  by_cases ca : 1 ≤ a ∧ a ≤ 3
  · obtain ⟨n, n1, n3, rfl⟩ : ∃ n, 1 ≤ n ∧ n ≤ 3 ∧ a = nI n := by
      obtain ⟨x1, x2⟩ := ca
      have hx : ¬ a < 0 := by
        rw [fa_lt]; rw [fa_le] at x1
        rw [show (1 : Int32).toInt = 1 from by decide] at x1
        rw [show (0 : Int32).toInt = 0 from by decide]
        omega
      obtain ⟨m, hm, rfl⟩ := nI_of hx
      exact ⟨m, (nI_leI (a := 1) (by decide) hm).mp x1, (nI_leI (b := 3) hm (by decide)).mp x2, rfl⟩
    obtain ⟨p1, p2⟩ := p15 n (by omega)
    have a1 : ¬ nI n < (1 : Int32) := nI_nlt (b := 1) n1 (by omega)
    have a3 : ¬ (3 : Int32) < nI n := nI_nlt (a := 3) n3 (by decide)
    have hdM : ∀ h1, x_X9_judge N (nI n) b h1 = if 0 ≤ b ∧ b ≤ lN (100000 ^ n) - 1 then (x_X9_lay N 86 85 (msi h1 82 0 0)).bind fun q7 => x_X9_judge_51 N (nI n) b N 0 q7 else some (-2, msi h1 82 0 0) := fun h1 => by
      unfold x_X9_judge
      simp only [mlet_eq]
      rw [in13, Option.bind_some, if_pos ca, if_neg (by decide), lpow_eq (by omega) (by omega), Option.bind_some, xin_eq, Option.bind_some]
      by_cases q : 0 ≤ b ∧ b ≤ lN (100000 ^ n) - 1
      · rw [if_pos q, if_pos (by decide), if_pos q]
      · rw [if_neg q, if_neg (by decide), if_neg q]
    by_cases cb : b < 0
    · have nb : ¬ (0 ≤ b ∧ b ≤ lN (100000 ^ n) - 1) := fun q => by
        rw [fa_lt64] at cb
        have := q.1
        rw [fa_le64] at this
        omega
      refine ok_W (r := -2) (z' := z) hm hw ⟨h, ?_, hc.next, frC.rfl⟩ (fun h1 hm1 => ⟨_, ?_, hm1.thr 0, F0 h1⟩)
      · unfold x_X8_judge
        rw [if_neg a1, if_neg a3, if_pos ((cmpLt b 0).mpr cb)]
      · rw [hdM h1, if_neg nb]
    · obtain ⟨R, hR, rfl⟩ := pk_lOf cb
      have hdC : x_X8_judge N (nI n) (lN R) h = if R < 100000 ^ n then (x_X6_become 9 2 h).bind fun q5 => (x_X2_settle N 8 q5).bind fun q6 => x_X8_judge_56 N (nI n) (lN R) N 0 q6 else some (-2, h) := by
        unfold x_X8_judge
        rw [if_neg a1, if_neg a3, if_neg (fun q => cb ((cmpLt _ 0).mp q)), mck_ok (vp_in_nI (by omega) (by decide)), nI_clamp (by omega), mU n (by omega)]
        by_cases q : R < 100000 ^ n
        · rw [if_pos ((cmpLt _ _).mpr ((pk_lLT hR (by omega)).mpr q)), if_pos q]
        · rw [if_neg (fun r => q ((pk_lLT hR (by omega)).mp ((cmpLt _ _).mp r))), if_neg q]
      have inM' : (0 ≤ lN R ∧ lN R ≤ lN (100000 ^ n) - 1) ↔ R < 100000 ^ n := by
        rw [show (1 : Int64) = lN 1 from rfl, lN_sub (by omega), pk_lLE hR (by omega)]
        have z0 : (0 : Int64) ≤ lN R := (pk_lLE (a := 0) (by decide) hR).mpr (Nat.zero_le _)
        constructor
        · rintro ⟨-, q⟩; omega
        · intro q; exact ⟨z0, by omega⟩
      by_cases cR : R < 100000 ^ n
      · refine ok_W (r := (jr R n n 0 z.2.1).1) (z' := z) hm hw ?_ (fun h1 hm1 => ?_)
        · obtain ⟨h1, b1, b2, b3⟩ := become_eq (t := 9) (p := 2) w (by omega) hc.2.1
          have al1 : mgl h1 12 7 = -9 ∨ ∃ s0, WS s0 ∧ AL h1 12 s0 := by
            rcases hc.2.2.2.2.2.1 with g | ⟨s, g1, g2⟩
            · exact Or.inl (by rw [b3.2]; exact g)
            · exact Or.inr ⟨s, g1, g2.congr (fun k => b3.1 _ k (by omega) (by omega) (by omega)) (fun k => b3.1 _ k (by omega) (by omega) (by omega)) (fun k => b3.1 _ k (by omega) (by omega) (by omega)) (fun k => b3.2 _ k)⟩
          obtain ⟨h2, e2, c2, a2, f2, -⟩ := settle_eq (t := 8) (N := N) (by omega) w (PB_of wp) b2 al1
          rw [stl_self wp] at c2 a2
          obtain ⟨h3, q1, ⟨s', q2, q3⟩, q4⟩ := cjr (N := N) (R := R) (n := n) (by omega) (by omega) n3 n 0 N z.2.1 h2 (by omega) (by omega) w wp ⟨c2, a2⟩
          have F : ∀ b k, ¬ (9 ≤ b ∧ b ≤ 14) → mgi h3 b k = mgi h b k := fun b k hb => by rw [q4.1 b k hb, f2.1 b k (by omega) (by omega) (by omega) (by omega), b3.1 b k (by omega) (by omega) (by omega)]
          have FL : ∀ b k, b ≠ 12 → mgl h3 b k = mgl h b k := fun b k hb => by rw [q4.2 b k hb, f2.2 b k (by omega), b3.2]
          refine ⟨h3, ?_, IC.next (hc.scr (fun b k hb => F b k (by unfold icb at hb; omega)) FL (Or.inr ⟨s', q2, q3.2⟩)), fun b hb => ⟨fun k => F b k (by omega), fun k => FL b k (by omega)⟩⟩
          rw [hdC, if_pos cR, b1, Option.bind_some, e2, Option.bind_some]
          exact q1
        · have i1 := hm1.thr 0
          obtain ⟨h2, l1, l2, l3, l4⟩ := lay_eq (N := N) (a := 86) (b := 85) (by omega) (by decide) (msi h1 82 0 0)
          have m86 : MS h2 86 0 z.2.1 := i1.2.1.copy w (fun k hk => by rw [Nat.zero_add]; exact l2 k hk)
          obtain ⟨h3, q1, q2⟩ := mjr (N := N) (R := R) (n := n) (by omega) (by omega) n3 n 0 N z.2.1 h2 (by omega) (by omega) w wp m86
          have F : ∀ b k, b ≠ 86 → b ≠ 92 → b ≠ 93 → b ≠ 94 → ¬ (b = 82 ∧ k = 17) → mgi h3 b k = mgi (msi h1 82 0 0) b k := fun b k x1 x2 x3 x4 x5 => by rw [q2.1 b k x1 x2 x3 x4 x5, l3 b k x1]
          have FL : ∀ b k, mgl h3 b k = mgl (msi h1 82 0 0) b k := fun b k => by rw [q2.2, l4]
          refine ⟨h3, ?_, i1.scr (fun b hb k => F b k (by omega) (by omega) (by omega) (by omega) (by omega)) (fun k hk => F 82 k (by omega) (by omega) (by omega) (by omega) (by omega)) (fun k => FL 82 k), (F0 h1).trans (fun b hb => ⟨fun k => F b k (by omega) (by omega) (by omega) (by omega) (by omega), fun k => FL b k⟩)⟩
          rw [hdM h1, if_pos (inM'.mpr cR), l1, Option.bind_some]
          exact q1
      · refine ok_W (r := -2) (z' := z) hm hw ⟨h, ?_, hc.next, frC.rfl⟩ (fun h1 hm1 => ⟨_, ?_, hm1.thr 0, F0 h1⟩)
        · rw [hdC, if_neg cR]
        · rw [hdM h1, if_neg (fun q => cR (inM'.mp q))]
  · refine ok_W (r := -2) (z' := z) hm hw ⟨h, ?_, hc.next, frC.rfl⟩ (fun h1 hm1 => ⟨_, ?_, hm1.thr 0, F0 h1⟩)
    · unfold x_X8_judge
      by_cases q : a < 1
      · rw [if_pos q]
      · rw [if_neg q]
        by_cases r : 3 < a
        · rw [if_pos r]
        · exact absurd ⟨fa_of_nlt q, fa_of_nlt r⟩ ca
    · unfold x_X9_judge
      simp only [mlet_eq]
      rw [in13, Option.bind_some, if_neg ca, if_pos rfl]
