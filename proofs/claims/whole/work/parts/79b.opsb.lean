theorem spT_H {s : Sh} {j v : Nat} (h : 2 ≤ j) : sH (spT s j v) = sH s := by show (if 0 = j then v else s.1 0) = _; rw [if_neg (by omega)]; rfl
theorem spT_W {s : Sh} {j v : Nat} (h : 2 ≤ j) : sW (spT s j v) = sW s := by show (if 1 = j then v else s.1 1) = _; rw [if_neg (by omega)]; rfl
theorem spT_N {s : Sh} {j v : Nat} (h : 2 ≤ j) : sN (spT s j v) = sN s := by unfold sN; rw [spT_H h, spT_W h]
theorem spT_R (s : Sh) (j v r : Nat) : sR (spT s j v) r = if 2 + r = j then v else sR s r := rfl
theorem spT_C (s : Sh) (j v c : Nat) : sC (spT s j v) c = if 6 + c = j then v else sC s c := rfl
theorem spT_P (s : Sh) (j v k : Nat) : sP (spT s j v) k = if 11 + k = j then v else sP s k := rfl
theorem MS.set {h : mH} {p j v : Nat} {s : Sh} (w : WS s) (m : MS h p 0 s) (h2 : 2 ≤ j) (h3 : j < 31) : MS (msi h p j (nI v)) p 0 (spT s j v) := by
  obtain ⟨a, b, c, d, e, f⟩ := m
  simp only [Nat.zero_add] at *
  have n20 := w.n20
  unfold MS
  rw [spT_H h2, spT_W h2, spT_N h2]
  simp only [spT_R, spT_C, spT_P, Nat.zero_add]
  refine ⟨?_, ?_, fun r hr => ?_, fun r hr => ?_, fun k hk => ?_, ?_⟩
  · rw [mgi_msi, if_neg (by omega)]; exact a
  · rw [mgi_msi, if_neg (by omega)]; exact b
  · rw [mgi_msi]
    by_cases q : 2 + r = j
    · rw [if_pos ⟨rfl, q⟩, if_pos q]
    · rw [if_neg (fun x => q x.2), if_neg q]; exact c r hr
  · rw [mgi_msi]
    by_cases q : 6 + r = j
    · rw [if_pos ⟨rfl, q⟩, if_pos q]
    · rw [if_neg (fun x => q x.2), if_neg q]; exact d r hr
  · rw [mgi_msi]
    by_cases q : 11 + k = j
    · rw [if_pos ⟨rfl, q⟩, if_pos q]
    · rw [if_neg (fun x => q x.2), if_neg q]; exact e k hk
  · rw [mgi_msi, if_neg (by omega)]
    exact f
theorem WS_tot {s : Sh} (w : WS s) {side i v : Nat} (hs : side < 2) (hi : i < cntS s side) (hv : v ≤ mostS s side) : WS (spT s (slotS side i) v) := by
  have h2 : 2 ≤ slotS side i := by unfold slotS; split <;> omega
  have h4 := w.2.1
  have w5 := w.2.2.2.1
  unfold cntS at hi
  unfold mostS at hv
  unfold WS
  rw [spT_H h2, spT_W h2, spT_N h2]
  simp only [spT_R, spT_C, spT_P]
  have np : ∀ k, ¬ 11 + k = slotS side i := fun k => by
    unfold slotS
    split at hi <;> rename_i z <;> simp only [z, if_true, if_false] <;> omega
  refine ⟨w.1, w.2.1, w.2.2.1, w.2.2.2.1, fun r hr => ?_, fun c hc => ?_, fun k hk => ?_, ?_⟩
  · split
    · rename_i q
      unfold slotS at q
      by_cases z : side = 0
      · rw [if_pos z] at hv; exact hv
      · rw [if_neg z] at q; omega
    · exact w.2.2.2.2.1 r hr
  · split
    · rename_i q
      unfold slotS at q
      by_cases z : side = 0
      · rw [if_pos z] at q hi; omega
      · rw [if_neg z] at hv; exact hv
    · exact w.2.2.2.2.2.1 c hc
  · rw [if_neg (np k)]; exact w.2.2.2.2.2.2.1 k hk
  · simp only [np, if_false]
    exact w.2.2.2.2.2.2.2
theorem pinN_set {s : Sh} {k v : Nat} (hk : k < sN s) : pinN (spT s (11 + k) v) + (if sP s k != 0 then 1 else 0) = pinN s + (if v != 0 then 1 else 0) := by
  unfold pinN
  rw [spT_N (by omega)]
  have := fb_ct_upd (fun j => sP s j != 0) (v != 0) hk
  rw [← this]
  congr 1
  refine fb_ct_cong fun j hj => ?_
  rw [spT_P]
  by_cases q : j = k
  · rw [if_pos (by omega), if_pos q]
  · rw [if_neg (by omega), if_neg q]
theorem WS_pin {s : Sh} (w : WS s) {k v : Nat} (hk : k < sN s) (hv : v ≤ 2) (hp : v = 0 ∨ sP s k ≠ 0 ∨ pinN s < 6) : WS (spT s (11 + k) v) := by
  have h4 := w.2.1
  have w5 := w.2.2.2.1
  have p6 : pinN s ≤ 6 := w.2.2.2.2.2.2.2
  have ps := pinN_set (v := v) hk
  have goal6 : pinN (spT s (11 + k) v) ≤ 6 := by
    rcases hp with q | q | q
    · rw [q] at ps ⊢; simp at ps; omega
    · have : (sP s k != 0) = true := by simp [q]
      rw [this] at ps
      simp only [if_true] at ps
      split at ps <;> omega
    · split at ps <;> split at ps <;> omega
  unfold pinN at goal6
  unfold WS
  rw [spT_N (by omega)] at goal6
  rw [spT_H (by omega), spT_W (by omega), spT_N (by omega)]
  refine ⟨w.1, w.2.1, w.2.2.1, w.2.2.2.1, fun r hr => ?_, fun c hc => ?_, fun j hj => ?_, goal6⟩
  · rw [spT_R, if_neg (by omega)]; exact w.2.2.2.2.1 r hr
  · rw [spT_C, if_neg (by omega)]; exact w.2.2.2.2.2.1 c hc
  · rw [spT_P]
    split
    · exact hv
    · exact w.2.2.2.2.2.2.1 j hj
theorem PB_set {s : Sh} {j v : Nat} (h : 2 ≤ j) (p : PB s) : PB (spT s j v) := fun q hq => by rw [spT_N h]; exact p q hq
/-- the model: note, set a slot, settle -/
theorem M_set {N : Nat} {h : mH} {z : St} {j v : Nat} (hN : 1000 < N) (hw : WF z) (hm : IM h z) (h2 : 2 ≤ j) (h3 : j < 31) (w' : WS (spT z.2.1 j v)) : ∃ h1 h', x_X9_note N h = some h1 ∧ x_X9_settle N 85 (msi h1 85 j (nI v)) = some h' ∧ mgi h' 82 17 = nI (ans (spT z.2.1 j v)).length ∧ IM h' (z.1, stl (spT z.2.1 j v), addA z.2.2.1 z.2.1, z.2.2.2.1, z.2.2.2.2.1, z.2.2.2.2.2) ∧ frM h h' := by
  obtain ⟨h1, e1, b1, f1⟩ := M_note hN hw hm
  have ms1 : MS h1 85 0 z.2.1 := hm.2.1.congr (fun k => f1.1 85 k (by omega) (by omega))
  have ms2 := ms1.set hw.2.1.1 (v := v) h2 h3
  obtain ⟨h3', e3, m3, l3, f3⟩ := msettle_eq (N := N) (by omega) (by decide) w' (PB_set h2 (PB_of hw.2.1.2)) ms2
  have F : ∀ b k, b ≠ 92 → b ≠ 93 → b ≠ 94 → ¬ (b = 82 ∧ k = 17) → b ≠ 85 → mgi h3' b k = mgi h1 b k := fun b k x1 x2 x3 x4 x5 => by
    rw [f3.1 b k x1 x2 x3 x4 (by omega), mgi_msi, if_neg (by omega)]
  refine ⟨h1, h3', e1, e3, l3.1, ?_, ?_⟩
  · refine hm.board (fun b k hb => ?_) ?_ ?_ ?_ m3 ?_ ?_
    · rw [F b k (by omega) (by omega) (by omega) (by omega) (by omega), f1.1 b k (by omega) (by omega)]
    · rw [F _ _ (by omega) (by omega) (by omega) (by omega) (by omega), f1.1 _ _ (by omega) (by omega)]
    · rw [F _ _ (by omega) (by omega) (by omega) (by omega) (by omega), f1.1 _ _ (by omega) (by omega)]
    · rw [f3.2]; exact f1.2 82 13
    · exact b1.congr (F _ _ (by omega) (by omega) (by omega) (by omega) (by omega)) (fun k => F _ _ (by omega) (by omega) (by omega) (by omega) (by omega))
    · have kp : iKM h z.2.2.2.1 := hm.2.2.2.1
      exact kp.congr (fun k => by rw [F _ _ (by omega) (by omega) (by omega) (by omega) (by omega), f1.1 _ _ (by omega) (by omega)]) (fun k => by rw [F _ _ (by omega) (by omega) (by omega) (by omega) (by omega), f1.1 _ _ (by omega) (by omega)])
  · exact fun b hb => ⟨fun k => by rw [F _ _ (by omega) (by omega) (by omega) (by omega) (by omega), f1.1 _ _ (by omega) (by omega)], fun k => by rw [f3.2]; exact f1.2 b k⟩
/-- the class: add, set, settle -/
theorem C_set {N t : Nat} {h h1 h2 : mH} {z : St} {s' : Sh} (hN : 400 < N) (ht : t < 512) (hw : WF z) (hc : IC t h z) (e1 : x_X0_add 2 h = some h1) (ac : iA h1 (addA z.2.2.1 z.2.1)) (f1 : ∀ b k, b < 20 ∨ 64 ≤ b → mgi h1 b k = mgi h b k) (g1 : ∀ b k, mgl h1 b k = mgl h b k) (cs : CS h2 2 s') (f2 : fr3 2 h1 h2) (w' : WS s') (pb : PB s') : ∃ h', x_X2_settle N 1 h2 = some h' ∧ mgi h' 5 3 = nI (ans s').length ∧ IC (t + 1) h' (z.1, stl s', addA z.2.2.1 z.2.1, z.2.2.2.1, z.2.2.2.2.1, z.2.2.2.2.2) ∧ frC h h' := by
  have kp : iK h z.2.2.2.1 := hc.2.2.2.2.2.2.2.1
  have F : ∀ b k, b ≠ 2 → b ≠ 3 → b ≠ 4 → b < 20 ∨ 64 ≤ b → mgi h2 b k = mgi h b k := fun b k x1 x2 x3 x4 => by
    rw [f2.1 b k (by omega) (by omega) (by omega), f1 b k x4]
  obtain ⟨h', a1, a2, a3, a4, a5, a6⟩ := C_act (h1 := h2) (s' := s') (A' := addA z.2.2.1 z.2.1) (K' := z.2.2.2.1) hN (by omega) hc hw w' pb cs (fun b k hb => F b k (by omega) (by omega) (by omega) (by omega)) (fun b k => by rw [f2.2]; exact g1 b k) (ac.congr (fun b b1 b2 k => f2.1 b k (by omega) (by omega) (by omega))) (kp.congr (fun b b1 b2 k => F b k (by omega) (by omega) (by omega) (by omega)))
  exact ⟨h', a1, a3, a2, a5⟩
theorem S_setTotal {N t : Nat} {h : mH} {z : St} (hN : 1000 < N) (ht : t < 512) (hw : WF z) (hc : IC t h z) (hm : IM h z) (a b c : Int32) : GW t (xcW (x_X8_setTotal N a b c h) (fun h1 => x_X9_setTotal N a b c h1)) := by
  have w := hw.2.1.1
  have cs := hc.2.1
  have h4 := w.2.1
  have w5 := w.2.2.2.1
  rcases side_cases a with ⟨side, hs, rfl⟩ | ⟨n0, n1, ca⟩
  · have e12 : x_X2_totalRefusal 1 (nI side) b c h = x_X2_totalRefusal_12 1 (nI side) b c h := by
      unfold x_X2_totalRefusal
      by_cases q : nI side = 0
      · rw [if_pos q]
      · have : side = 1 := by
          have : ¬ side = 0 := fun r => q ((side01 hs).mpr r)
          omega
        rw [if_neg q, if_pos (by rw [this]; rfl)]
    have ein : x_X9_in (nI side).toInt64 0 (1 : Int64) = some 1 := by
      rw [show (1 : Int64) = (nI 1).toInt64 by decide, inN _ (by decide), if_pos ⟨side, hs, rfl⟩]
    have n5 := cntS_le w side
    have m5 : mostS z.2.1 side ≤ 5 := by unfold mostS; split <;> omega
    rcases in_cases b (n := cntS z.2.1 side) (by omega) with ⟨i, hi, rfl⟩ | ⟨-, cb⟩
    · have mo : ∀ h1, MS h1 85 0 z.2.1 → mgi h1 85 ((1 : Int32) - nI side).toNatClampNeg = nI (mostS z.2.1 side) ∧ vp_in ((1 : Int32) - nI side) 32 := by
        intro h1 m
        unfold mostS
        rcases (by omega : side = 0 ∨ side = 1) with q | q
        · subst q
          exact ⟨m.2.1, by rw [show (1 : Int32) - nI 0 = nI 1 by decide]; exact vp_in_nI (by decide) (by decide)⟩
        · subst q
          exact ⟨m.1, by rw [show (1 : Int32) - nI 1 = nI 0 by decide]; exact vp_in_nI (by decide) (by decide)⟩
      rcases in_cases c (n := mostS z.2.1 side + 1) (by omega) with ⟨v, hv, rfl⟩ | ⟨cv, cc⟩
      · have w' := WS_tot w hs hi (v := v) (by omega)
        have h2 : 2 ≤ slotS side i := by unfold slotS; split <;> omega
        have h3 : slotS side i < 31 := by unfold slotS; split <;> omega
        refine ok_W (r := nI (ans (spT z.2.1 (slotS side i) v)).length) (z' := (z.1, stl (spT z.2.1 (slotS side i) v), addA z.2.2.1 z.2.1, z.2.2.2.1, z.2.2.2.2.1, z.2.2.2.2.2)) hm (WF_act hw (s' := stl (spT z.2.1 (slotS side i) v)) w' (WP_stl _)) ?_ (fun h1 hm1 => ?_)
        · obtain ⟨h1, e1, a1, f1, g1⟩ := add_eq hw.2.2.1.1 hc.2.2.2.2.2.2.1 w cs
          have cs1 : CS h1 2 z.2.1 := cs.congr (fun k => f1 _ k (by omega)) (fun k => f1 _ k (by omega)) (fun k => f1 _ k (by omega))
          obtain ⟨h2', e2, c2, f2⟩ := putTotal_eq (v := v) w cs1 hs hi
          obtain ⟨h', e3, a3, i3, fr⟩ := C_set (N := N) (by omega) ht hw hc e1 a1 f1 g1 c2 f2 w' (PB_set h2 (PB_of hw.2.1.2))
          refine ⟨h', ?_, i3, fr⟩
          unfold x_X8_setTotal
          rw [e12]
          unfold x_X2_totalRefusal_12
          rw [hasTotal_eq w cs hs, if_pos ⟨i, hi, rfl⟩]
          simp only [Option.bind_some]
          rw [if_pos (by decide), if_neg (nI_pos (by omega)), mostTotal_eq cs hs]
          simp only [Option.bind_some]
          rw [if_pos (nI_le (by omega) (by omega)), if_pos (by decide), e1]
          simp only [Option.bind_some]
          rw [e2]
          simp only [Option.bind_some]
          rw [e3]
          simp only [Option.bind_some]
          rw [a3]
        · obtain ⟨h2', h3', e2, e3, l3, i3, f3⟩ := M_set hN hw (hm1.thr 0) h2 h3 w'
          refine ⟨h3', ?_, i3, (frM_i (by decide)).trans f3⟩
          obtain ⟨mo1, mo2⟩ := mo _ (hm1.thr 0).2.1
          unfold x_X9_setTotal
          simp only [mlet_eq]
          rw [ein]
          simp only [Option.bind_some]
          rw [if_pos (by decide), noLine_eq (hm1.thr 0).2.1 w hs, if_pos ⟨i, hi, rfl⟩]
          simp only [Option.bind_some]
          rw [if_pos (by decide), mck_ok mo2, mo1, inN _ (by omega), if_pos ⟨v, hv, rfl⟩]
          simp only [Option.bind_some]
          rw [if_pos (by decide), e2]
          simp only [Option.bind_some]
          rw [totalAt_eq hs]
          simp only [Option.bind_some]
          rw [mck_ok (vp_in_nI (by omega) (by decide)), nI_clamp (by omega), e3]
          simp only [Option.bind_some]
          rw [l3]
      · refine ok_W (r := -2) (z' := z) hm hw ?_ (fun h1 hm1 => ?_)
        · refine ⟨h, ?_, hc.next, frC.rfl⟩
          unfold x_X8_setTotal
          rw [e12]
          unfold x_X2_totalRefusal_12
          rw [hasTotal_eq w cs hs, if_pos ⟨i, hi, rfl⟩]
          simp only [Option.bind_some]
          rw [if_pos (by decide)]
          by_cases q : c < 0
          · rw [if_pos q]
            simp only [Option.bind_some]
            rw [if_neg (by decide)]
          · rw [if_neg q, mostTotal_eq cs hs]
            simp only [Option.bind_some]
            have : ¬ c ≤ nI (mostS z.2.1 side) := by
              intro le
              obtain ⟨k, hk, e⟩ := (in_nI c (mostS z.2.1 side) (by omega)).mp ⟨fa_of_nlt q, le⟩
              exact cc ⟨k, by omega, e⟩
            rw [if_neg this, if_neg (by decide)]
        · obtain ⟨mo1, mo2⟩ := mo _ (hm1.thr 0).2.1
          refine ⟨_, ?_, hm1.thr 0, frM_i (by decide)⟩
          unfold x_X9_setTotal
          simp only [mlet_eq]
          rw [ein]
          simp only [Option.bind_some]
          rw [if_pos (by decide), noLine_eq (hm1.thr 0).2.1 w hs, if_pos ⟨i, hi, rfl⟩]
          simp only [Option.bind_some]
          rw [if_pos (by decide), mck_ok mo2, mo1, inN _ (by omega), if_neg cc]
          simp only [Option.bind_some]
          rw [if_neg (by decide)]
    · refine ok_W (r := -1) (z' := z) hm hw ?_ (fun h1 hm1 => ?_)
      · refine ⟨h, ?_, hc.next, frC.rfl⟩
        unfold x_X8_setTotal
        rw [e12]
        unfold x_X2_totalRefusal_12
        rw [hasTotal_eq w cs hs, if_neg cb]
        simp only [Option.bind_some]
        rw [if_neg (by decide)]
        simp only [Option.bind_some]
        rw [if_neg (by decide)]
      · refine ⟨_, ?_, hm1.thr 0, frM_i (by decide)⟩
        unfold x_X9_setTotal
        simp only [mlet_eq]
        rw [ein]
        simp only [Option.bind_some]
        rw [if_pos (by decide), noLine_eq (hm1.thr 0).2.1 w hs, if_neg cb]
        simp only [Option.bind_some]
        rw [if_neg (by decide)]
  · refine ok_W (r := -2) (z' := z) hm hw ?_ (fun h1 hm1 => ?_)
    · refine ⟨h, ?_, hc.next, frC.rfl⟩
      unfold x_X8_setTotal x_X2_totalRefusal
      rw [if_neg n0, if_neg n1]
      simp only [Option.bind_some]
      rw [if_neg (by decide)]
    · refine ⟨_, ?_, hm1.thr 0, frM_i (by decide)⟩
      unfold x_X9_setTotal
      simp only [mlet_eq]
      rw [show (1 : Int64) = (nI 1).toInt64 by decide, inN _ (by decide), if_neg ca]
      simp only [Option.bind_some]
      rw [if_neg (by decide)]
/-- how many pins the model counts -/
theorem pinned_eq {N p : Nat} {h : mH} {s : Sh} (hN : 40 < N) (w : WS s) (m : MS h p 0 s) : x_X9_pinned N p h = some (nI (pinN s)) := by
  have n20 := w.n20
  unfold x_X9_pinned
  refine lpV (fun f (x : Int32) i => x_X9_pinned_4 N p h f x i) (fun k => nI (fb_ct (fun k => sP s k != 0) k)) (sN s) _ (fun f k hk => ?_) (fun f => ?_) (by omega)
  · show x_X9_pinned_4 N p h (f + 1) _ (nI k) = x_X9_pinned_4 N p h f _ (nI (k + 1))
    have e := m.2.2.2.2.1 k hk
    rw [Nat.zero_add] at e
    have p2 := w.2.2.2.2.2.2.1 k hk
    rw [x_X9_pinned_4_s, cells_eq m]
    simp only [Option.bind_some]
    rw [if_neg (nI_ge hk (by omega)), show (11 : Int32) = nI 11 from rfl, nI_add, mck_ok (vp_in_nI (by omega) (by decide)), nI_clamp (by omega), e, mlet_eq, fb_ct_succ]
    congr 1
    · by_cases q : sP s k = 0
      · rw [if_pos (by rw [q]; decide)]
        simp [q]
      · rw [if_neg (nI_nle (by omega) (by omega))]
        simp [q, nI_1]
    · rw [nI_1]
  · show x_X9_pinned_4 N p h (f + 1) _ (nI (sN s)) = _
    rw [x_X9_pinned_4_s, cells_eq m]
    simp only [Option.bind_some]
    rw [if_pos (nI_le (Nat.le_refl _) (by omega))]
    rfl
theorem tooMany_eq {N p k v : Nat} {h : mH} {s : Sh} (hN : 40 < N) (w : WS s) (m : MS h p 0 s) (hk : k < sN s) (hv : v ≤ 2) : x_X9_tooMany N p (nI k) (nI v) h = some (if v ≠ 0 ∧ sP s k = 0 ∧ pinN s = 6 then 1 else 0) := by
  have n20 := w.n20
  have e := m.2.2.2.2.1 k hk
  rw [Nat.zero_add] at e
  have p2 := w.2.2.2.2.2.2.1 k hk
  have p6 : pinN s ≤ 6 := w.2.2.2.2.2.2.2
  unfold x_X9_tooMany
  by_cases z : v = 0
  · rw [if_pos (by rw [z]; decide), if_neg (by omega)]
  · rw [if_neg (nI_nle (by omega) (by omega)), show (11 : Int32) = nI 11 from rfl, nI_add, mck_ok (vp_in_nI (by omega) (by decide)), nI_clamp (by omega), e]
    by_cases q : sP s k = 0
    · rw [if_neg (by rw [q]; exact fun x => x rfl), pinned_eq hN w m]
      simp only [Option.bind_some]
      congr 1
      by_cases r : pinN s = 6
      · rw [if_neg (by rw [r]; exact fun x => x rfl), if_pos ⟨z, q, r⟩]
      · rw [if_pos (by rw [show (6 : Int32) = nI 6 from rfl, nI_eq (by omega) (by decide)]; exact r), if_neg (fun x => r x.2.2)]
    · rw [if_pos (nI_ne0 (by omega) (by omega)), if_neg (fun x => q x.2.1)]
theorem pinRef_eq {t k v : Nat} {h : mH} {s : Sh} (w : WS s) (cs : CS h (t + 1) s) (hk : k < sN s) (hv : v ≤ 2) : x_X2_pinRefusal t (nI k) (nI v) h = some (if v ≠ 0 ∧ sP s k = 0 ∧ pinN s = 6 then -4 else 0) := by
  have n20 := w.n20
  have p2 := w.2.2.2.2.2.2.1 k hk
  have p6 : pinN s ≤ 6 := w.2.2.2.2.2.2.2
  unfold x_X2_pinRefusal
  rw [hasCell_eq w cs, if_pos ⟨k, hk, rfl⟩]
  simp only [Option.bind_some]
  rw [if_pos (by decide), if_neg (nI_pos (by omega)), if_pos (show nI v ≤ (2 : Int32) from nI_le (b := 2) hv (by decide))]
  by_cases z : v = 0
  · rw [if_pos (by rw [z]; rfl), if_neg (by omega)]
    unfold x_X2_pinRefusal_44 x_X2_pinRefusal_45
    rw [if_pos rfl]
  · rw [if_neg (nI_ne0 (by omega) (by omega)), pinOf_eq w cs hk]
    simp only [Option.bind_some, mlet_eq]
    by_cases q : sP s k = 0
    · rw [show (if ¬ nI (sP s k) = 0 then (0 : Int32) else 1) = 1 from if_neg (by rw [q]; exact fun x => x rfl), if_neg (by decide), pinCount_eq w cs]
      simp only [Option.bind_some]
      congr 1
      by_cases r : pinN s = 6
      · rw [if_neg (by rw [r]; decide), if_pos ⟨z, q, r⟩]
      · rw [if_pos (show nI (pinN s) < (6 : Int32) from nI_lt (b := 6) (by omega) (by decide)), if_neg (fun x => r x.2.2)]
    · rw [show (if ¬ nI (sP s k) = 0 then (0 : Int32) else 1) = 0 from if_pos (nI_ne0 (by omega) (by omega)), if_pos (by decide), if_neg (fun x => q x.2.1)]
theorem S_setPin {N t : Nat} {h : mH} {z : St} (hN : 1000 < N) (ht : t < 512) (hw : WF z) (hc : IC t h z) (hm : IM h z) (a b : Int32) : GW t (xcW (x_X8_setPin N a b h) (fun h1 => x_X9_setPin N a b h1)) := by
  have w := hw.2.1.1
  have cs := hc.2.1
  have n20 := w.n20
  have p6 : pinN z.2.1 ≤ 6 := w.2.2.2.2.2.2.2
  rcases in_cases a (n := sN z.2.1) (by omega) with ⟨k, hk, rfl⟩ | ⟨-, ca⟩
  · rcases in_cases b (n := 3) (by decide) with ⟨v, hv, rfl⟩ | ⟨cv, cb⟩
    · have ein : x_X9_in (nI v).toInt64 0 (2 : Int64) = some 1 := by
        rw [show (2 : Int64) = (nI 2).toInt64 by decide, inN _ (by decide), if_pos ⟨v, hv, rfl⟩]
      by_cases full : v ≠ 0 ∧ sP z.2.1 k = 0 ∧ pinN z.2.1 = 6
      · refine ok_W (r := -4) (z' := z) hm hw ?_ (fun h1 hm1 => ?_)
        · refine ⟨h, ?_, hc.next, frC.rfl⟩
          unfold x_X8_setPin
          rw [pinRef_eq w cs hk (by omega), if_pos full]
          simp only [Option.bind_some]
          rw [if_neg (by decide)]
        · refine ⟨_, ?_, hm1.thr 0, frM_i (by decide)⟩
          unfold x_X9_setPin
          simp only [mlet_eq]
          rw [noCell_eq (hm1.thr 0).2.1 w, if_pos ⟨k, hk, rfl⟩]
          simp only [Option.bind_some]
          rw [if_pos (by decide), ein]
          simp only [Option.bind_some]
          rw [if_pos (by decide), tooMany_eq (by omega) w (hm1.thr 0).2.1 hk (by omega), if_pos full]
          simp only [Option.bind_some]
          rw [if_neg (by decide)]
      · have w' := WS_pin w hk (v := v) (by omega) (by omega)
        refine ok_W (r := nI (ans (spT z.2.1 (11 + k) v)).length) (z' := (z.1, stl (spT z.2.1 (11 + k) v), addA z.2.2.1 z.2.1, z.2.2.2.1, z.2.2.2.2.1, z.2.2.2.2.2)) hm (WF_act hw (s' := stl (spT z.2.1 (11 + k) v)) w' (WP_stl _)) ?_ (fun h1 hm1 => ?_)
        · obtain ⟨h1, e1, a1, f1, g1⟩ := add_eq hw.2.2.1.1 hc.2.2.2.2.2.2.1 w cs
          have cs1 : CS h1 2 z.2.1 := cs.congr (fun k => f1 _ k (by omega)) (fun k => f1 _ k (by omega)) (fun k => f1 _ k (by omega))
          obtain ⟨h2', e2, c2, f2⟩ := putPin_eq (v := v) w cs1 hk (by omega)
          obtain ⟨h', e3, a3, i3, fr⟩ := C_set (N := N) (by omega) ht hw hc e1 a1 f1 g1 c2 f2 w' (PB_set (by omega) (PB_of hw.2.1.2))
          refine ⟨h', ?_, i3, fr⟩
          unfold x_X8_setPin
          rw [pinRef_eq w cs hk (by omega), if_neg full]
          simp only [Option.bind_some]
          rw [if_pos (by decide), e1]
          simp only [Option.bind_some]
          rw [e2]
          simp only [Option.bind_some]
          rw [e3]
          simp only [Option.bind_some]
          rw [a3]
        · obtain ⟨h2', h3', e2, e3, l3, i3, f3⟩ := M_set (j := 11 + k) hN hw (hm1.thr 0) (by omega) (by omega) w'
          refine ⟨h3', ?_, i3, (frM_i (by decide)).trans f3⟩
          unfold x_X9_setPin
          simp only [mlet_eq]
          rw [noCell_eq (hm1.thr 0).2.1 w, if_pos ⟨k, hk, rfl⟩]
          simp only [Option.bind_some]
          rw [if_pos (by decide), ein]
          simp only [Option.bind_some]
          rw [if_pos (by decide), tooMany_eq (by omega) w (hm1.thr 0).2.1 hk (by omega), if_neg full]
          simp only [Option.bind_some]
          rw [if_pos (by decide), e2]
          simp only [Option.bind_some]
          rw [show (11 : Int32) = nI 11 from rfl, nI_add, mck_ok (vp_in_nI (by omega) (by decide)), nI_clamp (by omega), e3]
          simp only [Option.bind_some]
          rw [l3]
    · refine ok_W (r := -2) (z' := z) hm hw ?_ (fun h1 hm1 => ?_)
      · refine ⟨h, ?_, hc.next, frC.rfl⟩
        unfold x_X8_setPin x_X2_pinRefusal
        rw [hasCell_eq w cs, if_pos ⟨k, hk, rfl⟩]
        simp only [Option.bind_some]
        rw [if_pos (by decide)]
        by_cases q : b < 0
        · rw [if_pos q]
          simp only [Option.bind_some]
          rw [if_neg (by decide)]
        · have : ¬ b ≤ (2 : Int32) := by
            intro le
            obtain ⟨k, hk, e⟩ := (in_nI b 2 (by decide)).mp ⟨fa_of_nlt q, le⟩
            exact cb ⟨k, by omega, e⟩
          rw [if_neg q, if_neg this]
          simp only [Option.bind_some]
          rw [if_neg (by decide)]
      · refine ⟨_, ?_, hm1.thr 0, frM_i (by decide)⟩
        unfold x_X9_setPin
        simp only [mlet_eq]
        rw [noCell_eq (hm1.thr 0).2.1 w, if_pos ⟨k, hk, rfl⟩]
        simp only [Option.bind_some]
        rw [if_pos (by decide), show (2 : Int64) = (nI 2).toInt64 by decide, inN _ (by decide), if_neg cb]
        simp only [Option.bind_some]
        rw [if_neg (by decide)]
  · refine ok_W (r := -1) (z' := z) hm hw ?_ (fun h1 hm1 => ?_)
    · refine ⟨h, ?_, hc.next, frC.rfl⟩
      unfold x_X8_setPin x_X2_pinRefusal
      rw [hasCell_eq w cs, if_neg ca]
      simp only [Option.bind_some]
      rw [if_neg (by decide)]
      simp only [Option.bind_some]
      rw [if_neg (by decide)]
    · refine ⟨_, ?_, hm1.thr 0, frM_i (by decide)⟩
      unfold x_X9_setPin
      simp only [mlet_eq]
      rw [noCell_eq (hm1.thr 0).2.1 w, if_neg ca]
      simp only [Option.bind_some]
      rw [if_neg (by decide)]
