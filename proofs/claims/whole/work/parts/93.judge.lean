/-! judge: one doing -/
def plA (s : Sh) (k : Nat) : Int32 := match s.2 with
  | none => -9
  | some q => if cb s q k then 1 else 0
theorem plA_none {s : Sh} (p : s.2 = none) (k : Nat) : plA s k = -9 := by unfold plA; rw [p]
theorem plA_some {s : Sh} {q : Nat} (p : s.2 = some q) (k : Nat) : plA s k = if cb s q k then 1 else 0 := by unfold plA; rw [p]
def jd (s : Sh) (k a b c d : Nat) : Bool × Sh :=
  if k = 1 then (if (a < sH s ∧ b < sH s) ∧ c < sW s ∧ d < sW s then (swO s a b c d, (s.1, swQ s a b c d)) else (false, s))
  else if k = 2 then (if c = 0 ∧ 10 * a + b < sN s ∧ d ≤ 2 ∧ ¬ (d ≠ 0 ∧ sP s (10 * a + b) = 0 ∧ pinN s = 6) then (true, stl (spT s (11 + (10 * a + b)) d)) else (false, s))
  else if k = 3 then (if c = 0 ∧ a < 2 ∧ b < cntS s a ∧ d ≤ mostS s a then (true, stl (spT s (slotS a b) d)) else (false, s))
  else if k = 4 then (decide (c = 0 ∧ 10 * a + b < sN s ∧ plA s (10 * a + b) = nI d), s)
  else if k = 5 then (decide (c = 0 ∧ 10 * a + b < sN s ∧ sureS s (10 * a + b) = nI d), s)
  else if k = 6 then (decide (a = 0 ∧ 100 * b + 10 * c + d ≤ (ans s).length), s)
  else (false, s)
theorem swQ_PB {s : Sh} (w : WS s) (wp : WP s) {r r' c d : Nat} (hr : r < sH s) (hr' : r' < sH s) (hc : c < sW s) (hd : d < sW s) : PB (s.1, swQ s r r' c d) := PB_of (swQ_WP w wp hr hr' hc hd)
theorem jd_W {s : Sh} (w : WS s) (wp : WP s) (k a b c d : Nat) : WS (jd s k a b c d).2 ∧ WP (jd s k a b c d).2 := by
  have id : WS s ∧ WP s := ⟨w, wp⟩
  unfold jd
  by_cases c1 : k = 1
  · rw [if_pos c1]
    by_cases e : (a < sH s ∧ b < sH s) ∧ c < sW s ∧ d < sW s
    · rw [if_pos e]; exact ⟨w, swQ_WP w wp e.1.1 e.1.2 e.2.1 e.2.2⟩
    · rw [if_neg e]; exact id
  rw [if_neg c1]
  by_cases c2 : k = 2
  · rw [if_pos c2]
    by_cases e : c = 0 ∧ 10 * a + b < sN s ∧ d ≤ 2 ∧ ¬ (d ≠ 0 ∧ sP s (10 * a + b) = 0 ∧ pinN s = 6)
    · rw [if_pos e]
      have n6 : pinN s ≤ 6 := w.2.2.2.2.2.2.2
      refine ⟨WS_pin w e.2.1 e.2.2.1 ?_, WP_stl _⟩
      by_cases d0 : d = 0
      · exact Or.inl d0
      · by_cases p0 : sP s (10 * a + b) = 0
        · refine Or.inr (Or.inr ?_)
          have : ¬ pinN s = 6 := fun q => e.2.2.2 ⟨d0, p0, q⟩
          omega
        · exact Or.inr (Or.inl p0)
    · rw [if_neg e]; exact id
  rw [if_neg c2]
  by_cases c3 : k = 3
  · rw [if_pos c3]
    by_cases e : c = 0 ∧ a < 2 ∧ b < cntS s a ∧ d ≤ mostS s a
    · rw [if_pos e]; exact ⟨WS_tot w e.2.1 e.2.2.1 e.2.2.2, WP_stl _⟩
    · rw [if_neg e]; exact id
  rw [if_neg c3]
  split
  · exact id
  · split
    · exact id
    · split <;> exact id
theorem exN {a n : Nat} (ha : a < 2 ^ 31) (hn : n < 2 ^ 31) : (∃ k, k < n ∧ nI a = nI k) ↔ a < n := ⟨fun ⟨k, h1, h2⟩ => by rw [(nI_eq ha (by omega)).mp h2]; exact h1, fun h => ⟨a, h, rfl⟩⟩
theorem planeAt_eq {t k : Nat} {s : Sh} {h : mH} (w : WS s) (pb : PB s) (cs : CS h (t + 1) s) (hk : k < sN s) : x_X2_planeAt t (nI k) h = some (plA s k) := by
  have n20 := w.n20
  have pc : mgi h (t + 1) 6 = plC s := cs.2.2.2.2.2.2
  unfold x_X2_planeAt
  cases e : s.2 with
  | none => rw [pc, plC_none e, if_neg (by decide), plA_none e]
  | some q =>
    have hq := pb q e
    rw [pc, plC_some e, if_pos (shl_pos w hq), yesIn_eq _ (by omega), bt_shl_at w hq hk, plA_some e]
    rfl
def frV (h h' : mH) : Prop := (∀ b k, ¬ (9 ≤ b ∧ b ≤ 14) → mgi h' b k = mgi h b k) ∧ ∀ b k, b ≠ 12 → mgl h' b k = mgl h b k
theorem frV.refl {h : mH} : frV h h := ⟨fun _ _ _ => rfl, fun _ _ _ => rfl⟩
theorem frV.trans {h h1 h2 : mH} (a : frV h h1) (b : frV h1 h2) : frV h h2 := ⟨fun c k x => (b.1 c k x).trans (a.1 c k x), fun c k x => (b.2 c k x).trans (a.2 c k x)⟩
def JC (h : mH) (s : Sh) : Prop := CS h 9 s ∧ AL h 12 s
theorem jset {N : Nat} {s s' : Sh} {h h1 : mH} (hN : 400 < N) (w : WS s) (al : AL h 12 s) (w' : WS s') (pb : PB s') (cs : CS h1 9 s') (f : fr3 9 h h1) : ∃ h', x_X2_settle N 8 h1 = some h' ∧ JC h' (stl s') ∧ frV h h' := by
  have al1 : AL h1 12 s := al.congr (fun k => f.1 _ k (by omega) (by omega) (by omega)) (fun k => f.1 _ k (by omega) (by omega) (by omega)) (fun k => f.1 _ k (by omega) (by omega) (by omega)) (fun k => f.2 _ k)
  obtain ⟨h2, e2, c2, a2, f2, -⟩ := settle_eq (t := 8) hN w' pb cs (Or.inr ⟨s, w, al1⟩)
  refine ⟨h2, e2, ⟨c2, a2⟩, fun b k hb => ?_, fun b k hb => ?_⟩
  · rw [f2.1 b k (by omega) (by omega) (by omega) (by omega), f.1 b k (by omega) (by omega) (by omega)]
  · rw [f2.2 b k (by omega), f.2]
theorem mzc1 {β : Type} (k : Option β) : mzc 1 k = k := if_pos (Or.inr rfl)
theorem mzc0 {β : Type} (k : Option β) : mzc 0 k = k := if_pos (Or.inl rfl)
def JRes (h : mH) (o : Option (Int32 × mH)) (x : Bool × Sh) : Prop := ∃ h', o = some (b2i x.1, h') ∧ JC h' x.2 ∧ frV h h'
theorem tkSw {a b c d : Nat} {s : Sh} {h : mH} (w : WS s) (wp : WP s) (j : JC h s) (ha : a < 10) (hb : b < 10) (hc : c < 10) (hd : d < 10) : JRes h (x_X2_takesSwitch 8 (nI a) (nI b) (nI c) (nI d) h) (if (a < sH s ∧ b < sH s) ∧ c < sW s ∧ d < sW s then (swO s a b c d, (s.1, swQ s a b c d)) else (false, s)) := by
  have h4 := w.2.1
  have w5 := w.2.2.2.1
  have pb := PB_of wp
  unfold x_X2_takesSwitch
  by_cases e : (a < sH s ∧ b < sH s) ∧ c < sW s ∧ d < sW s
  · rw [if_pos e, swRef_ok w pb j.1 e.1.1 e.1.2 e.2.1 e.2.2, Option.bind_some, mlet_eq]
    by_cases g : swO s a b c d = true
    · obtain ⟨q, p1⟩ : ∃ q, s.2 = some q := by
        cases e : s.2 with
        | none => rw [swO_none e] at g; cases g
        | some q => exact ⟨q, rfl⟩
      have g' := g
      rw [swO_some p1] at g'
      have eq : swQ s a b c d = some (swt s q a b c d) := by rw [swQ_some p1, if_pos g']
      rw [if_pos g, if_neg (by decide), if_neg (by decide), mkSw_eq w j.1 p1 e.1.1 e.1.2 e.2.1 e.2.2, Option.bind_some, mzc1, eq, g]
      refine ⟨_, rfl, ⟨j.1.plane (q := some (swt s q a b c d)), ?_⟩, fun b k hb => by rw [mgi_msi, if_neg (by omega)], fun b k _ => rfl⟩
      show AL _ 12 s
      exact AL.congr (h := h) (fun k => by rw [mgi_msi, if_neg (by omega)]) (fun k => by rw [mgi_msi, if_neg (by omega)]) (fun k => by rw [mgi_msi, if_neg (by omega)]) (fun k => rfl) j.2
    · have g' : swO s a b c d = false := by simpa using g
      have eq : swQ s a b c d = s.2 := by
        cases e : s.2 with
        | none => rw [swQ_none e]
        | some q => rw [swQ_some e, if_neg (by rw [swO_some e] at g; exact g)]
      rw [if_neg g, show (if ¬ (-3 : Int32) = 0 then (0 : Int32) else 1) = 0 by decide, if_pos rfl, mzc0, eq, g']
      exact ⟨h, rfl, j, frV.refl⟩
  · rw [if_neg e, swRef_bad w j.1 (fun o => e ⟨⟨(exN (by omega) (by omega)).mp o.1.1, (exN (by omega) (by omega)).mp o.1.2⟩, (exN (by omega) (by omega)).mp o.2.1, (exN (by omega) (by omega)).mp o.2.2⟩), Option.bind_some, mlet_eq, show (if ¬ (-1 : Int32) = 0 then (0 : Int32) else 1) = 0 by decide, if_pos rfl, mzc0]
    exact ⟨h, rfl, j, frV.refl⟩
theorem tkPin {N k d : Nat} {s : Sh} {h : mH} (hN : 400 < N) (w : WS s) (wp : WP s) (j : JC h s) (hk : k < 100) (hd : d < 10) : JRes h (x_X2_takesPin N 8 (nI k) (nI d) h) (if k < sN s ∧ d ≤ 2 ∧ ¬ (d ≠ 0 ∧ sP s k = 0 ∧ pinN s = 6) then (true, stl (spT s (11 + k) d)) else (false, s)) := by
  have n20 := w.n20
  have n6 : pinN s ≤ 6 := w.2.2.2.2.2.2.2
  have pb := PB_of wp
  have no : ∀ v : Int32, ¬ v = 0 → x_X2_pinRefusal 8 (nI k) (nI d) h = some v → JRes h (x_X2_takesPin N 8 (nI k) (nI d) h) (false, s) := fun v hv e => by
    unfold x_X2_takesPin
    rw [e, Option.bind_some, mlet_eq, if_pos hv, if_pos rfl, mzc0]
    exact ⟨h, rfl, j, frV.refl⟩
  by_cases c1 : k < sN s
  · by_cases c2 : d ≤ 2
    · have pr := pinRef_eq (t := 8) (v := d) w j.1 c1 c2
      by_cases c3 : d ≠ 0 ∧ sP s k = 0 ∧ pinN s = 6
      · rw [if_neg (fun q => q.2.2 c3)]
        rw [if_pos c3] at pr
        exact no (-4) (by decide) pr
      · rw [if_pos ⟨c1, c2, c3⟩]
        rw [if_neg c3] at pr
        unfold x_X2_takesPin
        obtain ⟨h1, p1, p2, p3⟩ := putPin_eq (v := d) w j.1 c1 c2
        have w' : WS (spT s (11 + k) d) := by
          refine WS_pin w c1 c2 ?_
          by_cases d0 : d = 0
          · exact Or.inl d0
          · by_cases p0 : sP s k = 0
            · refine Or.inr (Or.inr ?_)
              have : ¬ pinN s = 6 := fun q => c3 ⟨d0, p0, q⟩
              omega
            · exact Or.inr (Or.inl p0)
        obtain ⟨h2, q1, q2, q3⟩ := jset hN w j.2 w' (PB_set (by omega) pb) p2 p3
        rw [pr, Option.bind_some, mlet_eq, if_neg (by decide), if_neg (by decide), p1, Option.bind_some, q1, Option.bind_some, mzc1]
        exact ⟨h2, rfl, q2, q3⟩
    · rw [if_neg (fun q => c2 q.2.1)]
      refine no (-2) (by decide) ?_
      have g : ∃ j, j < sN s ∧ nI k = nI j := ⟨k, c1, rfl⟩
      unfold x_X2_pinRefusal
      rw [hasCell_eq w j.1, Option.bind_some, if_pos g, if_pos (by decide), if_neg (nI_pos (by omega)), if_neg (show ¬ nI d ≤ (2 : Int32) from nI_ge (a := 2) (by omega) (by omega))]
  · rw [if_neg (fun q => c1 q.1)]
    refine no (-1) (by decide) ?_
    have g : ¬ ∃ j, j < sN s ∧ nI k = nI j := fun q => c1 ((exN (by omega) (by omega)).mp q)
    unfold x_X2_pinRefusal
    rw [hasCell_eq w j.1, Option.bind_some, if_neg g, if_neg (by decide)]
theorem tkTot {N a b d : Nat} {s : Sh} {h : mH} (hN : 400 < N) (w : WS s) (wp : WP s) (j : JC h s) (ha : a < 10) (hb : b < 10) (hd : d < 10) : JRes h (x_X2_takesTotal N 8 (nI a) (nI b) (nI d) h) (if a < 2 ∧ b < cntS s a ∧ d ≤ mostS s a then (true, stl (spT s (slotS a b) d)) else (false, s)) := by
  have pb := PB_of wp
  have no : ∀ v : Int32, ¬ v = 0 → x_X2_totalRefusal 8 (nI a) (nI b) (nI d) h = some v → JRes h (x_X2_takesTotal N 8 (nI a) (nI b) (nI d) h) (false, s) := fun v hv e => by
    unfold x_X2_takesTotal
    rw [e, Option.bind_some, mlet_eq, if_pos hv, if_pos rfl, mzc0]
    exact ⟨h, rfl, j, frV.refl⟩
  by_cases c1 : a < 2
  · have n5 := cntS_le w a
    have m5 := mostS_le w a
    have hd' : x_X2_totalRefusal 8 (nI a) (nI b) (nI d) h = x_X2_totalRefusal_12 8 (nI a) (nI b) (nI d) h := by
      unfold x_X2_totalRefusal
      rcases (by omega : a = 0 ∨ a = 1) with q | q
      · subst q; rw [if_pos (by decide)]
      · subst q; rw [if_neg (by decide), if_pos (by decide)]
    by_cases c2 : b < cntS s a
    · have g : ∃ k, k < cntS s a ∧ nI b = nI k := ⟨b, c2, rfl⟩
      have tr : x_X2_totalRefusal 8 (nI a) (nI b) (nI d) h = some (if d ≤ mostS s a then 0 else -2) := by
        rw [hd']
        unfold x_X2_totalRefusal_12
        rw [hasTotal_eq w j.1 c1, Option.bind_some, if_pos g, if_pos (by decide), if_neg (nI_pos (by omega)), mostTotal_eq j.1 c1, Option.bind_some]
        congr 1
        by_cases e : d ≤ mostS s a
        · rw [if_pos (nI_le e (by omega)), if_pos e]
        · rw [if_neg (nI_ge (by omega) (by omega)), if_neg e]
      by_cases c3 : d ≤ mostS s a
      · rw [if_pos ⟨c1, c2, c3⟩]
        rw [if_pos c3] at tr
        obtain ⟨h1, p1, p2, p3⟩ := putTotal_eq (v := d) w j.1 c1 c2
        obtain ⟨h2, q1, q2, q3⟩ := jset hN w j.2 (WS_tot w c1 c2 c3) (PB_set (slot_2 a b) pb) p2 p3
        unfold x_X2_takesTotal
        rw [tr, Option.bind_some, mlet_eq, if_neg (by decide), if_neg (by decide), p1, Option.bind_some, q1, Option.bind_some, mzc1]
        exact ⟨h2, rfl, q2, q3⟩
      · rw [if_neg (fun q => c3 q.2.2)]
        rw [if_neg c3] at tr
        exact no (-2) (by decide) tr
    · rw [if_neg (fun q => c2 q.2.1)]
      have g : ¬ ∃ k, k < cntS s a ∧ nI b = nI k := fun q => c2 ((exN (by omega) (by omega)).mp q)
      refine no (-1) (by decide) ?_
      rw [hd']
      unfold x_X2_totalRefusal_12
      rw [hasTotal_eq w j.1 c1, Option.bind_some, if_neg g, if_neg (by decide)]
  · rw [if_neg (fun q => c1 q.1)]
    refine no (-2) (by decide) ?_
    unfold x_X2_totalRefusal
    rw [if_neg (nI_ne0 (by omega) (by omega)), if_neg (show ¬ nI a = (1 : Int32) from fun q => by have := (nI_eq (b := 1) (by omega) (by decide)).mp q; omega)]
def fvN (k a b c d : Nat) : Nat := (((k * 10 + a) * 10 + b) * 10 + c) * 10 + d
theorem fv_dig {k a b c d : Nat} (ha : a < 10) (hb : b < 10) (hc : c < 10) (hd : d < 10) : fvN k a b c d / 10000 = k ∧ fvN k a b c d / 1000 % 10 = a ∧ fvN k a b c d / 100 % 10 = b ∧ fvN k a b c d / 10 % 10 = c ∧ fvN k a b c d % 10 = d ∧ fvN k a b c d % 1000 = 100 * b + 10 * c + d := by
  unfold fvN
  omega
theorem fv_of (n : Nat) : n = fvN (n / 10000) (n / 1000 % 10) (n / 100 % 10) (n / 10 % 10) (n % 10) := by
  unfold fvN
  omega
theorem takes_eq {N k a b c d : Nat} {s : Sh} {h : mH} (hN : 400 < N) (w : WS s) (wp : WP s) (j : JC h s) (hk : k < 10) (ha : a < 10) (hb : b < 10) (hc : c < 10) (hd : d < 10) : JRes h (x_X2_takes N 8 (nI (fvN k a b c d)) h) (jd s k a b c d) := by
  have n20 := w.n20
  have pb := PB_of wp
  have l310 := ans_310 w
  have fl : fvN k a b c d < 100000 := by unfold fvN; omega
  obtain ⟨d0, d1, d2, d3, d4, -⟩ := fv_dig (k := k) ha hb hc hd
  have z1 : fvN k a b c d / 1000 ≤ fvN k a b c d := Nat.div_le_self _ _
  have z2 : fvN k a b c d / 100 ≤ fvN k a b c d := Nat.div_le_self _ _
  have z3 : fvN k a b c d / 10 ≤ fvN k a b c d := Nat.div_le_self _ _
  unfold x_X2_takes
  simp only [mlet_eq]
  rw [show (10000 : Int32) = nI 10000 from rfl, show (1000 : Int32) = nI 1000 from rfl, show (100 : Int32) = nI 100 from rfl, show (10 : Int32) = nI 10 from rfl, pk_div (by omega) (by decide) (by decide), pk_div (by omega) (by decide) (by decide), pk_div (by omega) (by decide) (by decide), pk_div (by omega) (by decide) (by decide), xrem_nI (by omega) (by decide) (by decide), xrem_nI (by omega) (by decide) (by decide), xrem_nI (by omega) (by decide) (by decide), xrem_nI (by omega) (by decide) (by decide), d0, d1, d2, d3, d4, pk_mul, nI_add, pk_mul, pk_mul, nI_add, nI_add]
  have kq : ∀ m : Nat, m < 10 → (nI k = nI m ↔ k = m) := fun m hm => nI_eq (by omega) (by omega)
  have bad : JRes h (some (0, h)) (false, s) := ⟨h, rfl, j, frV.refl⟩
  have say : ∀ p : Bool, JRes h (some (b2i p, h)) (p, s) := fun p => ⟨h, rfl, j, frV.refl⟩
  have c0 : nI c = 0 ↔ c = 0 := nI_eq (b := 0) (by omega) (by decide)
  have hcell : ∀ e : 10 * a + b < sN s, ∃ m, m < sN s ∧ nI (10 * a + b) = nI m := fun e => ⟨_, e, rfl⟩
  have ncell : ¬ 10 * a + b < sN s → ¬ ∃ m, m < sN s ∧ nI (10 * a + b) = nI m := fun e q => e ((exN (by omega) (by omega)).mp q)
  unfold jd
  by_cases c1 : k = 1
  · rw [if_pos (show nI k = (1 : Int32) from (kq 1 (by decide)).mpr c1), if_pos c1]
    obtain ⟨h', e1, e2, e3⟩ := tkSw w wp j ha hb hc hd
    rw [e1, Option.bind_some]
    refine ⟨h', ?_, e2, e3⟩
    cases (if (a < sH s ∧ b < sH s) ∧ c < sW s ∧ d < sW s then (swO s a b c d, ((s.1, swQ s a b c d) : Sh)) else (false, s)).1 <;> rfl
  rw [if_neg (show ¬ nI k = (1 : Int32) from fun q => c1 ((kq 1 (by decide)).mp q)), if_neg c1]
  by_cases c2 : k = 2
  · rw [if_pos (show nI k = (2 : Int32) from (kq 2 (by decide)).mpr c2), if_pos c2]
    by_cases e : c = 0
    · rw [if_neg (not_not_intro (c0.mpr e))]
      obtain ⟨h', e1, e2, e3⟩ := tkPin hN w wp j (show 10 * a + b < 100 by omega) hd
      rw [e1, Option.bind_some]
      have eq : (if c = 0 ∧ 10 * a + b < sN s ∧ d ≤ 2 ∧ ¬ (d ≠ 0 ∧ sP s (10 * a + b) = 0 ∧ pinN s = 6) then (true, stl (spT s (11 + (10 * a + b)) d)) else (false, s)) = (if 10 * a + b < sN s ∧ d ≤ 2 ∧ ¬ (d ≠ 0 ∧ sP s (10 * a + b) = 0 ∧ pinN s = 6) then (true, stl (spT s (11 + (10 * a + b)) d)) else (false, s)) := by simp only [e, true_and]
      rw [eq]
      refine ⟨h', ?_, e2, e3⟩
      cases (if 10 * a + b < sN s ∧ d ≤ 2 ∧ ¬ (d ≠ 0 ∧ sP s (10 * a + b) = 0 ∧ pinN s = 6) then (true, stl (spT s (11 + (10 * a + b)) d)) else (false, s)).1 <;> rfl
    · rw [if_pos (fun q => e (c0.mp q)), if_neg (fun q => e q.1)]
      exact bad
  rw [if_neg (show ¬ nI k = (2 : Int32) from fun q => c2 ((kq 2 (by decide)).mp q)), if_neg c2]
  by_cases c3 : k = 3
  · rw [if_pos (show nI k = (3 : Int32) from (kq 3 (by decide)).mpr c3), if_pos c3]
    by_cases e : c = 0
    · rw [if_neg (not_not_intro (c0.mpr e))]
      obtain ⟨h', e1, e2, e3⟩ := tkTot hN w wp j ha hb hd
      rw [e1, Option.bind_some]
      have eq : (if c = 0 ∧ a < 2 ∧ b < cntS s a ∧ d ≤ mostS s a then (true, stl (spT s (slotS a b) d)) else (false, s)) = (if a < 2 ∧ b < cntS s a ∧ d ≤ mostS s a then (true, stl (spT s (slotS a b) d)) else (false, s)) := by simp only [e, true_and]
      rw [eq]
      refine ⟨h', ?_, e2, e3⟩
      cases (if a < 2 ∧ b < cntS s a ∧ d ≤ mostS s a then (true, stl (spT s (slotS a b) d)) else (false, s)).1 <;> rfl
    · rw [if_pos (fun q => e (c0.mp q)), if_neg (fun q => e q.1)]
      exact bad
  rw [if_neg (show ¬ nI k = (3 : Int32) from fun q => c3 ((kq 3 (by decide)).mp q)), if_neg c3]
  by_cases c4 : k = 4
  · rw [if_pos (show nI k = (4 : Int32) from (kq 4 (by decide)).mpr c4), if_pos c4]
    by_cases e : c = 0
    · rw [if_neg (not_not_intro (c0.mpr e)), hasCell_eq w j.1, Option.bind_some]
      by_cases f : 10 * a + b < sN s
      · rw [if_pos (hcell f), if_neg (by decide), planeAt_eq (t := 8) w pb j.1 f, Option.bind_some]
        have := say (decide (c = 0 ∧ 10 * a + b < sN s ∧ plA s (10 * a + b) = nI d))
        by_cases g : plA s (10 * a + b) = nI d
        · rw [if_neg (not_not_intro g)]; simpa [e, f, g, b2i] using this
        · rw [if_pos g]; simpa [e, f, g, b2i] using this
      · rw [if_neg (ncell f), if_pos rfl]
        have := say (decide (c = 0 ∧ 10 * a + b < sN s ∧ plA s (10 * a + b) = nI d))
        simpa [f, b2i] using this
    · rw [if_pos (fun q => e (c0.mp q))]
      have := say (decide (c = 0 ∧ 10 * a + b < sN s ∧ plA s (10 * a + b) = nI d))
      simpa [e, b2i] using this
  rw [if_neg (show ¬ nI k = (4 : Int32) from fun q => c4 ((kq 4 (by decide)).mp q)), if_neg c4]
  by_cases c5 : k = 5
  · rw [if_pos (show nI k = (5 : Int32) from (kq 5 (by decide)).mpr c5), if_pos c5]
    by_cases e : c = 0
    · rw [if_neg (not_not_intro (c0.mpr e)), hasCell_eq w j.1, Option.bind_some]
      by_cases f : 10 * a + b < sN s
      · rw [if_pos (hcell f), if_neg (by decide), sureAt_eq w j.2 f, Option.bind_some]
        have := say (decide (c = 0 ∧ 10 * a + b < sN s ∧ sureS s (10 * a + b) = nI d))
        by_cases g : sureS s (10 * a + b) = nI d
        · rw [if_neg (not_not_intro g)]; simpa [e, f, g, b2i] using this
        · rw [if_pos g]; simpa [e, f, g, b2i] using this
      · rw [if_neg (ncell f), if_pos rfl]
        have := say (decide (c = 0 ∧ 10 * a + b < sN s ∧ sureS s (10 * a + b) = nI d))
        simpa [f, b2i] using this
    · rw [if_pos (fun q => e (c0.mp q))]
      have := say (decide (c = 0 ∧ 10 * a + b < sN s ∧ sureS s (10 * a + b) = nI d))
      simpa [e, b2i] using this
  rw [if_neg (show ¬ nI k = (5 : Int32) from fun q => c5 ((kq 5 (by decide)).mp q)), if_neg c5]
  by_cases c6 : k = 6
  · have a0 : nI a = 0 ↔ a = 0 := nI_eq (b := 0) (by omega) (by decide)
    have sz : mgi h (8 + 4) 3 = nI (ans s).length := j.2.2.2.1
    rw [if_pos (show nI k = (6 : Int32) from (kq 6 (by decide)).mpr c6), if_pos c6, sz]
    have := say (decide (a = 0 ∧ 100 * b + 10 * c + d ≤ (ans s).length))
    by_cases e : a = 0
    · rw [if_neg (not_not_intro (a0.mpr e))]
      by_cases f : 100 * b + 10 * c + d ≤ (ans s).length
      · rw [if_neg (nI_nlt (by omega) (by omega))]; simpa [e, f, b2i] using this
      · rw [if_pos (nI_lt (by omega) (by omega))]; simpa [e, f, b2i] using this
    · rw [if_pos (fun q => e (a0.mp q))]; simpa [e, b2i] using this
  rw [if_neg (show ¬ nI k = (6 : Int32) from fun q => c6 ((kq 6 (by decide)).mp q)), if_neg c6]
  exact bad
