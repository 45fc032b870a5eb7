/-! count -/
theorem totalCount_eq {a side : Nat} {s : Sh} {h : mH} (cs : CS h a s) (hs : side < 2) : x_X6_totalCount a (nI side) h = some (nI (cntS s side)) := by
  unfold x_X6_totalCount cntS
  by_cases z : side = 0
  · subst z; rw [if_neg (by decide), if_pos rfl, cs.1]
  · have : side = 1 := by omega
    subst this; rw [if_pos (by decide), if_neg z, cs.2.1]
def sumS (s : Sh) (side : Nat) : Nat := fb_sm (totS s side) (cntS s side)
theorem together_eq {N a side : Nat} {s : Sh} {h : mH} (hN : 10 < N) (w : WS s) (cs : CS h a s) (hs : side < 2) : x_X6_together N a (nI side) h = some (nI (sumS s side)) := by
  have n5 := cntS_le w side
  unfold x_X6_together
  refine lpV (fun f (x : Int32) i => x_X6_together_4 N a (nI side) h f x i) (fun j => nI (fb_sm (totS s side) j)) (cntS s side) _ (fun f j hj => ?_) (fun f => ?_) (by omega)
  · show x_X6_together_4 N a (nI side) h (f + 1) _ (nI j) = x_X6_together_4 N a (nI side) h f _ (nI (j + 1))
    rw [x_X6_together_4_s, totalCount_eq cs hs]
    simp only [Option.bind_some]
    rw [if_neg (nI_ge hj (by omega)), totalOf_eq w cs hs hj]
    simp only [Option.bind_some, mlet_eq]
    rw [nI_add, nI_1, fb_sm_succ]
  · show x_X6_together_4 N a (nI side) h (f + 1) _ (nI (cntS s side)) = _
    rw [x_X6_together_4_s, totalCount_eq cs hs]
    simp only [Option.bind_some]
    rw [if_pos (nI_le (Nat.le_refl _) (by omega))]
    rfl
theorem sum_eq {N p side : Nat} {s : Sh} {h : mH} (hN : 10 < N) (w : WS s) (m : MS h p 0 s) (hs : side < 2) : x_X9_sum N p (nI (slotS side 0)) (nI (cntS s side)) h = some (nI (sumS s side)) := by
  have n5 := cntS_le w side
  unfold x_X9_sum
  refine lpV (fun f (x : Int32) i => x_X9_sum_5 N p (nI (slotS side 0)) (nI (cntS s side)) h f x i) (fun j => nI (fb_sm (totS s side) j)) (cntS s side) _ (fun f j hj => ?_) (fun f => ?_) (by omega)
  · show x_X9_sum_5 N p (nI (slotS side 0)) (nI (cntS s side)) h (f + 1) _ (nI j) = x_X9_sum_5 N p (nI (slotS side 0)) (nI (cntS s side)) h f _ (nI (j + 1))
    have es : slotS side 0 + j = slotS side j := by unfold slotS; split <;> omega
    have hl : slotS side j < 32 := by unfold slotS; split <;> omega
    rw [x_X9_sum_5_s, if_neg (nI_ge hj (by omega)), nI_add, es, mck_ok (vp_in_nI hl (by decide)), nI_clamp (by omega), m.tot hj, mlet_eq, nI_add, nI_1, fb_sm_succ]
  · show x_X9_sum_5 N p (nI (slotS side 0)) (nI (cntS s side)) h (f + 1) _ (nI (cntS s side)) = _
    rw [x_X9_sum_5_s, if_pos (nI_le (Nat.le_refl _) (by omega))]
    rfl
theorem open_mask {s : Sh} (w : WS s) : orAll ((ans s).map (shl s)) &&& (andAll ((ans s).map (shl s)) ^^^ (-1)) = nI (cmask (fun k => decide (sureS s k = 2)) (sN s)) := by
  have n20 := w.n20
  refine b_ext fun i hi => ?_
  rw [bt_nI _ _ hi, cmask_bit n20.2]
  by_cases c : i < 20 ∧ 19 - i < sN s
  · obtain ⟨k, hk⟩ : ∃ k, i = 19 - k ∧ k < sN s := ⟨19 - i, by omega, c.2⟩
    obtain ⟨rfl, hk⟩ := hk
    rw [openBit w hk]
    have h1 : 19 - k < 20 := by omega
    have h2 : 19 - (19 - k) = k := by omega
    simp only [h1, h2, hk, decide_true, Bool.true_and]
    unfold sureS
    congr 1
    apply propext
    by_cases e0 : (ans s).length = 0
    · have := yesN_le s k
      rw [if_pos e0]
      constructor
      · rintro ⟨a, b⟩; omega
      · intro q; exact absurd q (by decide)
    · rw [if_neg e0]
      by_cases e1 : yesN s k = 0
      · rw [if_pos e1]
        constructor
        · rintro ⟨a, b⟩; exact absurd e1 a
        · intro q; exact absurd q (by decide)
      · rw [if_neg e1]
        by_cases e2 : yesN s k = (ans s).length
        · rw [if_pos e2]
          constructor
          · rintro ⟨a, b⟩; exact absurd e2 b
          · intro q; exact absurd q (by decide)
        · rw [if_neg e2]
          simp [e1, e2]
  · have hz : bt (orAll ((ans s).map (shl s))) i = false := by
      rw [bt_orAll]
      refine Bool.eq_false_iff.mpr fun q => ?_
      rw [List.any_eq_true] at q
      obtain ⟨x, hx, hb⟩ := q
      obtain ⟨q, hq, rfl⟩ := List.mem_map.mp hx
      rw [shl_bit w hi (ans_lt hq)] at hb
      simp only [Bool.and_eq_true, decide_eq_true_eq] at hb
      exact c ⟨hb.1, hb.2.1⟩
    rw [b_and, hz, Bool.false_and]
    by_cases d : i < 20
    · have : ¬ 19 - i < sN s := fun q => c ⟨d, q⟩
      simp [this]
    · simp [d]
def opnN (s : Sh) : Nat := fb_ct (fun k => decide (sureS s k = 2)) (sN s)
theorem copen_eq {a : Nat} {s : Sh} {h : mH} (w : WS s) (al : AL h a s) : ((x_X1_openCells a h).bind fun q => x_J6_bitCount_0f7a4 q) = some (nI (opnN s)) := by
  have n20 := w.n20
  unfold x_X1_openCells
  rw [al.2.2.2.2.1, al.2.2.2.2.2.1]
  simp only [Option.bind_some]
  rw [open_mask w, bcnt (n := 20) (cmask_lt n20.2) (by decide), bc_cmask n20.2]
  rfl
theorem mopen_eq {N : Nat} {z : St} {h : mH} (hN : 1000 < N) (hw : WF z) (hm : IM h z) : ∃ h', x_X9_openCells N h = some (nI (opnN z.2.1), h') ∧ IM h' z ∧ frL h h' := by
  have w := hw.2.1.1
  have n20 := w.n20
  obtain ⟨h', e', l', i', f'⟩ := M_list (by omega : 400 < N) hw hm
  refine ⟨h', ?_, i', f'⟩
  unfold x_X9_openCells
  rw [e']
  simp only [Option.bind_some]
  refine lpV (fun f (x : Int32) i => x_X9_openCells_13 N f x i h') (fun j => nI (fb_ct (fun k => decide (sureS z.2.1 k = 2)) j)) (sN z.2.1) _ (fun f j hj => ?_) (fun f => ?_) (by omega)
  · show x_X9_openCells_13 N (f + 1) _ (nI j) h' = x_X9_openCells_13 N f _ (nI (j + 1)) h'
    rw [x_X9_openCells_13_s, cells_eq i'.2.1]
    simp only [Option.bind_some]
    rw [if_neg (nI_ge hj (by omega)), msure_eq (by omega) w i'.2.1 l' hj]
    simp only [Option.bind_some, mlet_eq]
    rw [nI_1, fb_ct_succ]
    congr 1
    by_cases c : sureS z.2.1 j = 2
    · rw [if_neg (fun q => q c), if_pos (by simp [c]), nI_1]
    · rw [if_pos c, if_neg (by simp [c])]
      simp
  · show x_X9_openCells_13 N (f + 1) _ (nI (sN z.2.1)) h' = _
    rw [x_X9_openCells_13_s, cells_eq i'.2.1]
    simp only [Option.bind_some]
    rw [if_pos (nI_le (Nat.le_refl _) (by omega))]
    rfl
theorem S_count {N t : Nat} {h : mH} {z : St} (hN : 1000 < N) (hw : WF z) (hc : IC t h z) (hm : IM h z) (a : Int32) : GW t (xcR (x_X8_count N a h) h (fun h1 => x_X9_count N a h1)) := by
  have w := hw.2.1.1
  have cs := hc.2.1
  have al := hc.2.2.1
  have i0 := hm.thr 0
  have ms := i0.2.1
  have F0 : frM h (msi h 82 0 0) := frM_i (by decide)
  unfold x_X8_count x_X9_count
  simp only [mlet_eq]
  by_cases c0 : a = 0
  · refine ok_R (r := nI z.1.length) hc hm hw ?_ ⟨_, ?_, i0, F0⟩
    · rw [if_pos c0, hc.1.1]
    · rw [if_pos c0, i0.1.1]
  by_cases c1 : a = 1
  · refine ok_R (r := nI (sH z.2.1)) hc hm hw ?_ ⟨_, ?_, i0, F0⟩
    · rw [if_neg c0, if_pos c1, cs.1]
    · rw [if_neg c0, if_pos c1]
      unfold x_X9_count_65
      rw [c1, show (1 : Int32) - 1 = nI 0 by decide, mck_ok (vp_in_nI (by decide) (by decide)), nI_clamp (by decide), ms.1]
  by_cases c2 : a = 2
  · refine ok_R (r := nI (sW z.2.1)) hc hm hw ?_ ⟨_, ?_, i0, F0⟩
    · rw [if_neg c0, if_neg c1, if_pos c2, cs.2.1]
    · rw [if_neg c0, if_neg c1, if_pos c2]
      unfold x_X9_count_65
      have := ms.2.1
      rw [Nat.zero_add] at this
      rw [c2, show (2 : Int32) - 1 = nI 1 by decide, mck_ok (vp_in_nI (by decide) (by decide)), nI_clamp (by decide), this]
  by_cases c3 : a = 3
  · refine ok_R (r := nI (pinN z.2.1)) hc hm hw ?_ ⟨_, ?_, i0, F0⟩
    · rw [if_neg c0, if_neg c1, if_neg c2, if_pos c3, pinCount_eq w cs]
      rfl
    · rw [if_neg c0, if_neg c1, if_neg c2, if_pos c3, pinned_eq (by omega) w ms]
      rfl
  by_cases c4 : a = 4
  · have pc : mgi h 2 6 = plC z.2.1 := cs.2.2.2.2.2.2
    rcases hw.2.1.2 with ⟨p1, p2⟩ | ⟨q, p1, p2⟩
    · refine ok_R (r := 0) hc hm hw ?_ ⟨_, ?_, i0, F0⟩
      · rw [if_neg c0, if_neg c1, if_neg c2, if_neg c3, if_pos c4, pc, plC_none p1, if_neg (by decide)]
      · rw [if_neg c0, if_neg c1, if_neg c2, if_neg c3, if_pos c4, ms.pl, plM_none p1, if_neg (by decide)]
    · have hq := ans_lt p2
      have q20 := pw20 w hq
      refine ok_R (r := nI (bc q 20)) hc hm hw ?_ ⟨_, ?_, i0, F0⟩
      · rw [if_neg c0, if_neg c1, if_neg c2, if_neg c3, if_pos c4, pc, plC_some p1, if_pos (shl_pos w hq), bcnt_shl w hq]
        rfl
      · rw [if_neg c0, if_neg c1, if_neg c2, if_neg c3, if_pos c4, ms.pl, plM_some p1, if_pos (nI_n9 (by omega)), ones_eq (by omega)]
        rfl
  by_cases c5 : a = 5
  · obtain ⟨h', e', i', f'⟩ := mopen_eq hN hw i0
    refine ok_R (r := nI (opnN z.2.1)) hc hm hw ?_ ⟨h', ?_, i', F0.trans f'.frM⟩
    · rw [if_neg c0, if_neg c1, if_neg c2, if_neg c3, if_neg c4, if_pos c5]
      have e := copen_eq w al
      revert e
      cases x_X1_openCells 5 h with
      | none => intro e; cases e
      | some q => intro e; simp only [Option.bind_some] at e ⊢; rw [e]; rfl
    · rw [if_neg c0, if_neg c1, if_neg c2, if_neg c3, if_neg c4, if_pos c5, e']
      rfl
  by_cases c6 : a = 6
  · obtain ⟨n, n1, n2, n3, n4⟩ := hc.2.2.2.2.2.2.1
    refine ok_R (r := nI z.2.2.1.length) hc hm hw ?_ ⟨_, ?_, i0, F0⟩
    · rw [if_neg c0, if_neg c1, if_neg c2, if_neg c3, if_neg c4, if_neg c5, if_pos c6, n3]
    · rw [if_neg c0, if_neg c1, if_neg c2, if_neg c3, if_neg c4, if_neg c5, if_pos c6, i0.2.2.1.1]
  by_cases c7 : a = 7
  · refine ok_R (r := nI z.2.2.2.2.1.length) hc hm hw ?_ ⟨_, ?_, i0, F0⟩
    · rw [if_neg c0, if_neg c1, if_neg c2, if_neg c3, if_neg c4, if_neg c5, if_neg c6, if_pos c7, hc.2.2.2.2.2.2.2.2.1.1]
    · rw [if_neg c0, if_neg c1, if_neg c2, if_neg c3, if_neg c4, if_neg c5, if_neg c6, if_pos c7, i0.2.2.2.2.1.1]
  by_cases c8 : a = 8
  · refine ok_R (r := nI (sumS z.2.1 0)) hc hm hw ?_ ⟨_, ?_, i0, F0⟩
    · rw [if_neg c0, if_neg c1, if_neg c2, if_neg c3, if_neg c4, if_neg c5, if_neg c6, if_neg c7, if_pos c8, show (0 : Int32) = nI 0 from rfl, together_eq (by omega) w cs (by decide)]
      rfl
    · have e := sum_eq (N := N) (side := 0) (by omega) w ms (by decide)
      rw [if_neg c0, if_neg c1, if_neg c2, if_neg c3, if_neg c4, if_neg c5, if_neg c6, if_neg c7, if_pos c8, ms.1]
      show (x_X9_sum N 85 (nI (slotS 0 0)) (nI (cntS z.2.1 0)) (msi h 82 0 0)).bind _ = _
      rw [e]
      rfl
  by_cases c9 : a = 9
  · refine ok_R (r := nI (sumS z.2.1 1)) hc hm hw ?_ ⟨_, ?_, i0, F0⟩
    · rw [if_neg c0, if_neg c1, if_neg c2, if_neg c3, if_neg c4, if_neg c5, if_neg c6, if_neg c7, if_neg c8, if_pos c9, show (1 : Int32) = nI 1 from rfl, together_eq (by omega) w cs (by decide)]
      rfl
    · have e := sum_eq (N := N) (side := 1) (by omega) w ms (by decide)
      have e1 := ms.2.1
      rw [Nat.zero_add] at e1
      rw [if_neg c0, if_neg c1, if_neg c2, if_neg c3, if_neg c4, if_neg c5, if_neg c6, if_neg c7, if_neg c8, if_pos c9, e1]
      show (x_X9_sum N 85 (nI (slotS 1 0)) (nI (cntS z.2.1 1)) (msi h 82 0 0)).bind _ = _
      rw [e]
      rfl
  · refine ok_R (r := -2) hc hm hw ?_ ⟨_, ?_, i0, F0⟩
    · rw [if_neg c0, if_neg c1, if_neg c2, if_neg c3, if_neg c4, if_neg c5, if_neg c6, if_neg c7, if_neg c8, if_neg c9]
    · rw [if_neg c0, if_neg c1, if_neg c2, if_neg c3, if_neg c4, if_neg c5, if_neg c6, if_neg c7, if_neg c8, if_neg c9]
