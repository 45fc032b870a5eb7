/-! switches, swap, drawn -/
theorem S_switches {N t : Nat} {h : mH} {z : St} (hN : 1000 < N) (hw : WF z) (hc : IC t h z) (hm : IM h z) (a : Int32) : GW t (xcR (x_X8_switches N a h) h (fun h1 => x_X9_switches N a h1)) := by
  have w := hw.2.1.1
  have cs := hc.2.1
  have pb := PB_of hw.2.1.2
  have i0 := hm.thr 0
  have F0 : frM h (msi h 82 0 0) := frM_i (by decide)
  rcases side_cases a with ⟨v, hv, rfl⟩ | ⟨n0, n1, na⟩
  · refine ok_R (r := if ¬ nI v = 0 then fsV (swP z.2.1) (swV z.2.1) (swM z.2.1) else nI (fb_ct (swP z.2.1) (swM z.2.1))) hc hm hw ?_ ⟨_, ?_, i0, F0⟩
    · have hd : x_X8_switches N (nI v) h = x_X8_switches_12 N (nI v) h := by
        unfold x_X8_switches
        rcases (by omega : v = 0 ∨ v = 1) with q | q
        · subst q; rw [if_pos (by decide)]
        · subst q; rw [if_neg (by decide), if_pos (by decide)]
      rw [hd]
      unfold x_X8_switches_12
      rcases hw.2.1.2 with ⟨p1, p2⟩ | ⟨q, p1, p2⟩
      · have pl : mgi h 2 6 = -1 := by rw [← plC_none p1]; exact cs.2.2.2.2.2.2
        have zz : ∀ j, swP z.2.1 j = false := fun j => by unfold swP; rw [swO_none p1, Bool.and_false]
        unfold x_X6_firstSwitch x_X6_switchCount
        by_cases u : nI v = 0
        · rw [if_neg (not_not_intro u), if_neg (not_not_intro u), pl, if_neg (by decide), fb_ct_zero.mpr (fun j _ => zz j)]
          rfl
        · rw [if_pos u, if_pos u, pl, if_neg (by decide), ← fsV_eq (r := -9) (Or.inl ⟨rfl, fun j _ => zz j⟩)]
          rfl
      · have hq := ans_lt p2
        rw [cfirst_some hN w cs p1 hq, ccount_some hN w cs p1 hq, sw_count w p1]
        split <;> rfl
    · unfold x_X9_switches
      simp only [mlet_eq]
      rw [show (1 : Int64) = (nI 1).toInt64 by decide, inN _ (by decide), if_pos ⟨v, hv, rfl⟩, Option.bind_some, if_neg (by decide), mcount_eq hN w pb i0.2.1]
      rfl
  · refine ok_R (r := -2) hc hm hw ?_ ⟨_, ?_, i0, F0⟩
    · unfold x_X8_switches
      rw [if_neg n0, if_neg n1]
    · unfold x_X9_switches
      simp only [mlet_eq]
      rw [show (1 : Int64) = (nI 1).toInt64 by decide, inN _ (by decide), if_neg na, Option.bind_some, if_pos (by decide)]
theorem hasRow_eq {a : Nat} {s : Sh} {h : mH} (w : WS s) (cs : CS h a s) (x : Int32) : x_X6_hasRow a x h = some (if ∃ k, k < sH s ∧ x = nI k then 1 else 0) := by
  have h4 := w.2.1
  unfold x_X6_hasRow
  rw [cs.1]
  congr 1
  rcases in_cases x (n := sH s) (by omega) with ⟨k, hk, rfl⟩ | ⟨c1, c⟩
  · rw [if_neg (nI_pos (by omega)), if_neg (nI_ge hk (by omega)), if_pos ⟨k, hk, rfl⟩]
  · rw [if_neg c]
    by_cases q : x < 0
    · rw [if_pos q]
    · rw [if_neg q, if_pos (c1.resolve_left q)]
theorem hasColumn_eq {a : Nat} {s : Sh} {h : mH} (w : WS s) (cs : CS h a s) (x : Int32) : x_X6_hasColumn a x h = some (if ∃ k, k < sW s ∧ x = nI k then 1 else 0) := by
  have h4 := w.2.2.2.1
  unfold x_X6_hasColumn
  rw [cs.2.1]
  congr 1
  rcases in_cases x (n := sW s) (by omega) with ⟨k, hk, rfl⟩ | ⟨c1, c⟩
  · rw [if_neg (nI_pos (by omega)), if_neg (nI_ge hk (by omega)), if_pos ⟨k, hk, rfl⟩]
  · rw [if_neg c]
    by_cases q : x < 0
    · rw [if_pos q]
    · rw [if_neg q, if_pos (c1.resolve_left q)]
def okL (s : Sh) (a b c d : Int32) : Prop := ((∃ k, k < sH s ∧ a = nI k) ∧ ∃ k, k < sH s ∧ b = nI k) ∧ (∃ k, k < sW s ∧ c = nI k) ∧ ∃ k, k < sW s ∧ d = nI k
theorem swRef_bad {t : Nat} {s : Sh} {h : mH} (w : WS s) (cs : CS h (t + 1) s) {a b c d : Int32} (hb : ¬ okL s a b c d) : x_X2_switchRefusal t a b c d h = some (-1) := by
  unfold x_X2_switchRefusal
  rw [hasRow_eq w cs, hasRow_eq w cs, hasColumn_eq w cs, hasColumn_eq w cs, Option.bind_some]
  by_cases c1 : ∃ k, k < sH s ∧ a = nI k
  · rw [if_pos c1, if_neg (by decide), Option.bind_some]
    by_cases c2 : ∃ k, k < sH s ∧ b = nI k
    · rw [if_pos c2, if_neg (by decide), Option.bind_some]
      by_cases c3 : ∃ k, k < sW s ∧ c = nI k
      · rw [if_pos c3, if_neg (by decide), Option.bind_some]
        by_cases c4 : ∃ k, k < sW s ∧ d = nI k
        · exact absurd ⟨⟨c1, c2⟩, c3, c4⟩ hb
        · rw [if_neg c4, if_neg (by decide)]
      · rw [if_neg c3, if_pos (by decide)]
    · rw [if_neg c2, if_pos (by decide)]
  · rw [if_neg c1, if_pos (by decide)]
theorem swRef_ok {t r r' c d : Nat} {s : Sh} {h : mH} (w : WS s) (pb : PB s) (cs : CS h (t + 1) s) (hr : r < sH s) (hr' : r' < sH s) (hc : c < sW s) (hd : d < sW s) : x_X2_switchRefusal t (nI r) (nI r') (nI c) (nI d) h = some (if swO s r r' c d then 0 else -3) := by
  unfold x_X2_switchRefusal
  have g1 : ∃ k, k < sH s ∧ nI r = nI k := ⟨r, hr, rfl⟩
  have g2 : ∃ k, k < sH s ∧ nI r' = nI k := ⟨r', hr', rfl⟩
  have g3 : ∃ k, k < sW s ∧ nI c = nI k := ⟨c, hc, rfl⟩
  have g4 : ∃ k, k < sW s ∧ nI d = nI k := ⟨d, hd, rfl⟩
  rw [hasRow_eq w cs, hasRow_eq w cs, hasColumn_eq w cs, hasColumn_eq w cs, Option.bind_some, if_pos g1, if_neg (by decide), Option.bind_some, if_pos g2, if_neg (by decide), Option.bind_some, if_pos g3, if_neg (by decide), Option.bind_some, if_pos g4, if_pos (by decide)]
  have pc : mgi h (t + 1) 6 = plC s := cs.2.2.2.2.2.2
  cases e : s.2 with
  | none =>
    rw [pc, plC_none e, if_pos rfl, swO_none e]
    rfl
  | some q =>
    have hq := pb q e
    rw [pc, plC_some e, if_neg (shl_pos w hq), isSwitch_eq w cs hr hr' hc hd hq, Option.bind_some, mlet_eq, swO_some e]
    cases swc s q r r' c d <;> rfl
theorem mkSw_eq {t r r' c d q : Nat} {s : Sh} {h : mH} (w : WS s) (cs : CS h (t + 1) s) (p1 : s.2 = some q) (hr : r < sH s) (hr' : r' < sH s) (hc : c < sW s) (hd : d < sW s) : x_X2_makeSwitch t (nI r) (nI r') (nI c) (nI d) h = some (msi h (t + 1) 6 (shl s (swt s q r r' c d))) := by
  have pc : mgi h (t + 1) 6 = plC s := cs.2.2.2.2.2.2
  unfold x_X2_makeSwitch
  rw [pc, plC_some p1, switched_eq w cs hr hr' hc hd]
  rfl
theorem noLine0 {h : mH} {s : Sh} (m : MS h 85 0 s) (w : WS s) (x : Int32) : x_X9_noLine 0 x h = some (if ∃ k, k < cntS s 0 ∧ x = nI k then 0 else 1) := noLine_eq (side := 0) m w (by decide) x
theorem noLine1 {h : mH} {s : Sh} (m : MS h 85 0 s) (w : WS s) (x : Int32) : x_X9_noLine 1 x h = some (if ∃ k, k < cntS s 1 ∧ x = nI k then 0 else 1) := noLine_eq (side := 1) m w (by decide) x
theorem S_swap {N t : Nat} {h : mH} {z : St} (hN : 1000 < N) (ht : t < 512) (hw : WF z) (hc : IC t h z) (hm : IM h z) (a b c d : Int32) : GW t (xcW (x_X8_swap N a b c d h) (fun h1 => x_X9_swap N a b c d h1)) := by
  have w := hw.2.1.1
  have cs := hc.2.1
  have pb := PB_of hw.2.1.2
  have F0 : ∀ h1, frM h1 (msi h1 82 0 0) := fun h1 => frM_i (by decide)
  by_cases ok : okL z.2.1 a b c d
  · obtain ⟨⟨⟨r, hr, rfl⟩, r', hr', rfl⟩, ⟨c, hc', rfl⟩, d, hd, rfl⟩ := ok
    have mhead : ∀ h1, IM h1 z → x_X9_swap N (nI r) (nI r') (nI c) (nI d) h1 = (x_X9_four 85 (nI r) (nI r') (nI c) (nI d) (msi h1 82 0 0)).bind fun q10 => if ¬ q10 = 0 then (x_X9_note N (msi h1 82 0 0)).bind fun q12 => (x_X9_countSwitches N 0 (msi q12 85 31 ((mgi q12 85 31) ^^^ q10))).bind fun q14 => some (q14, msi q12 85 31 ((mgi q12 85 31) ^^^ q10)) else some (-3, msi h1 82 0 0) := fun h1 hm1 => by
      have ms := (hm1.thr 0).2.1
      unfold x_X9_swap
      simp only [mlet_eq]
      have g1 : ∃ k, k < cntS z.2.1 0 ∧ nI r = nI k := ⟨r, hr, rfl⟩
      have g2 : ∃ k, k < cntS z.2.1 0 ∧ nI r' = nI k := ⟨r', hr', rfl⟩
      have g3 : ∃ k, k < cntS z.2.1 1 ∧ nI c = nI k := ⟨c, hc', rfl⟩
      have g4 : ∃ k, k < cntS z.2.1 1 ∧ nI d = nI k := ⟨d, hd, rfl⟩
      rw [noLine0 ms w, noLine0 ms w, noLine1 ms w, noLine1 ms w, Option.bind_some, if_pos g1, if_neg (by decide), Option.bind_some, if_pos g2, if_neg (by decide), Option.bind_some, if_pos g3, if_neg (by decide), Option.bind_some, if_pos g4, if_pos (by decide)]
    by_cases sw : swO z.2.1 r r' c d = true
    · obtain ⟨q0, p1, p2⟩ : ∃ q, z.2.1.2 = some q ∧ q ∈ ans z.2.1 := by
        rcases hw.2.1.2 with ⟨p1, _⟩ | p
        · rw [swO_none p1] at sw; cases sw
        · exact p
      have hq0 := ans_lt p2
      have sw' := sw
      rw [swO_some p1] at sw'
      have ha := swt_ans w hr hr' hc' hd sw' p2
      have hq1 := ans_lt ha
      refine ok_W (r := nI (fb_ct (swP (z.2.1.1, some (swt z.2.1 q0 r r' c d))) (swM z.2.1))) (z' := (z.1, (z.2.1.1, some (swt z.2.1 q0 r r' c d)), addA z.2.2.1 z.2.1, z.2.2.2.1, z.2.2.2.2.1, z.2.2.2.2.2)) hm ?_ ?_ (fun h1 hm1 => ?_)
      · exact WF_act hw (s' := (z.2.1.1, some (swt z.2.1 q0 r r' c d))) w (Or.inr ⟨_, rfl, ha⟩)
      · obtain ⟨h1, e1, a1, f1, g1⟩ := add_eq hw.2.2.1.1 hc.2.2.2.2.2.2.1 w hc.2.1
        have cs1 : CS h1 (1 + 1) z.2.1 := cs.congr (fun k => f1 _ k (by omega)) (fun k => f1 _ k (by omega)) (fun k => f1 _ k (by omega))
        obtain ⟨k1, k2⟩ := C_plane (q := swt z.2.1 q0 r r' c d) (by omega) hc a1 f1 g1
        refine ⟨_, ?_, k1, k2⟩
        unfold x_X8_swap
        rw [swRef_ok (t := 1) w pb cs hr hr' hc' hd, Option.bind_some, if_pos sw, if_pos rfl, e1, Option.bind_some, mkSw_eq (t := 1) w cs1 p1 hr hr' hc' hd, Option.bind_some, ccount_some (s := (z.2.1.1, some (swt z.2.1 q0 r r' c d))) hN w k1.2.1 rfl hq1, Option.bind_some, ← sw_count (s := (z.2.1.1, some (swt z.2.1 q0 r r' c d))) w rfl]
        rfl
      · have i1 := hm1.thr 0
        obtain ⟨h3, e3, b3, f3⟩ := M_note hN hw i1
        have ms3 : MS h3 85 0 z.2.1 := i1.2.1.congr (fun k => f3.1 85 k (by omega) (by omega))
        have nz : ¬ nI (fourN z.2.1 r r' c d) = 0 := nI_ne0 (fourN_pos hr hr' hc' hd) (by have := pw20 w (four_lt w r r' c d); omega)
        have ex : mgi h3 85 31 ^^^ nI (fourN z.2.1 r r' c d) = nI (swt z.2.1 q0 r r' c d) := by rw [ms3.pl, plM_some p1, fb_xorI]; rfl
        have ms4 : MS (msi h3 85 31 (nI (swt z.2.1 q0 r r' c d))) 85 0 (z.2.1.1, some (swt z.2.1 q0 r r' c d)) := by
          have := ms3.plane w (q := some (swt z.2.1 q0 r r' c d))
          rw [Nat.zero_add] at this
          exact this
        refine ⟨msi h3 85 31 (nI (swt z.2.1 q0 r r' c d)), ?_, ?_, (F0 h1).trans ?_⟩
        · rw [mhead h1 hm1, four_some w i1.2.1 p1 hq0 hr hr' hc' hd, if_pos sw', Option.bind_some, if_pos nz, e3, Option.bind_some, ex, show (0 : Int32) = nI 0 from rfl, mcount_eq (s := (z.2.1.1, some (swt z.2.1 q0 r r' c d))) hN w (fun q hq => by cases hq; exact hq1) ms4, Option.bind_some, if_neg (by decide)]
          rfl
        · refine i1.board (fun b k hb => ?_) ?_ ?_ ?_ ms4 ?_ ?_
          · rw [mgi_msi, if_neg (by omega), f3.1 b k (by omega) (by omega)]
          · rw [mgi_msi, if_neg (by omega), f3.1 82 2 (by omega) (by omega)]
          · rw [mgi_msi, if_neg (by omega), f3.1 82 10 (by omega) (by omega)]
          · exact f3.2 82 13
          · exact b3.congr (by rw [mgi_msi, if_neg (by omega)]) (fun k => by rw [mgi_msi, if_neg (by omega)])
          · have kp : iKM (msi h1 82 0 0) z.2.2.2.1 := i1.2.2.2.1
            exact kp.congr (fun k => by rw [mgi_msi, if_neg (by omega), f3.1 89 k (by omega) (by omega)]) (fun k => by rw [mgi_msi, if_neg (by omega), f3.1 88 k (by omega) (by omega)])
        · exact fun b hb => ⟨fun k => by rw [mgi_msi, if_neg (by omega), f3.1 b k (by omega) (by omega)], fun k => f3.2 b k⟩
    · have sw' : swO z.2.1 r r' c d = false := by simpa using sw
      refine ok_W (r := -3) (z' := z) hm hw ⟨h, ?_, hc.next, frC.rfl⟩ (fun h1 hm1 => ⟨_, ?_, hm1.thr 0, F0 h1⟩)
      · unfold x_X8_swap
        rw [swRef_ok (t := 1) w pb cs hr hr' hc' hd, Option.bind_some, if_neg sw, if_neg (by decide)]
      · obtain ⟨v, e, z0⟩ := four_O w pb (hm1.thr 0).2.1 hr hr' hc' hd
        rw [mhead h1 hm1, e, Option.bind_some, if_neg (not_not_intro (z0.mpr sw'))]
  · refine ok_W (r := -1) (z' := z) hm hw ⟨h, ?_, hc.next, frC.rfl⟩ (fun h1 hm1 => ⟨_, ?_, hm1.thr 0, F0 h1⟩)
    · unfold x_X8_swap
      rw [swRef_bad (t := 1) w cs ok, Option.bind_some, if_neg (by decide)]
    · have ms := (hm1.thr 0).2.1
      unfold x_X9_swap
      simp only [mlet_eq]
      rw [noLine0 ms w, noLine0 ms w, noLine1 ms w, noLine1 ms w, Option.bind_some]
      by_cases c1 : ∃ k, k < cntS z.2.1 0 ∧ a = nI k
      · rw [if_pos c1, if_neg (by decide), Option.bind_some]
        by_cases c2 : ∃ k, k < cntS z.2.1 0 ∧ b = nI k
        · rw [if_pos c2, if_neg (by decide), Option.bind_some]
          by_cases c3 : ∃ k, k < cntS z.2.1 1 ∧ c = nI k
          · rw [if_pos c3, if_neg (by decide), Option.bind_some]
            by_cases c4 : ∃ k, k < cntS z.2.1 1 ∧ d = nI k
            · exact absurd ⟨⟨c1, c2⟩, c3, c4⟩ ok
            · rw [if_neg c4, if_neg (by decide)]
          · rw [if_neg c3, if_pos (by decide)]
        · rw [if_neg c2, if_pos (by decide)]
      · rw [if_neg c1, if_pos (by decide)]
