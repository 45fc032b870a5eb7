/-! calls: total, pin, answers, plane, go, setTotal, setPin, undo, keep, again -/
def GW (t : Nat) (o : Option mH) : Prop := ∃ h2, o = some h2 ∧ ∃ z2, WF z2 ∧ IC (t + 1) h2 z2 ∧ IM h2 z2
theorem inN (x : Int32) {n : Nat} (hn : n < 2 ^ 30) : x_X9_in x.toInt64 0 (nI n).toInt64 = some (if ∃ k, k < n + 1 ∧ x = nI k then 1 else 0) := by
  rw [show (0 : Int64) = (0 : Int32).toInt64 by decide, xin32]
  congr 1
  by_cases c : ∃ k, k < n + 1 ∧ x = nI k
  · rw [if_pos c, if_pos ((in_nI x n (by omega)).mpr (by obtain ⟨k, a, b⟩ := c; exact ⟨k, by omega, b⟩))]
  · rw [if_neg c, if_neg (fun q => c (by obtain ⟨k, a, b⟩ := (in_nI x n (by omega)).mp q; exact ⟨k, by omega, b⟩))]
theorem inM (x : Int32) {n : Nat} (hn : n < 2 ^ 30) : x_X9_in x.toInt64 0 (nI n - 1).toInt64 = some (if ∃ k, k < n ∧ x = nI k then 1 else 0) := by
  cases n with
  | zero =>
    rw [show (0 : Int64) = (0 : Int32).toInt64 by decide, xin32, if_neg, if_neg]
    · rintro ⟨k, hk, _⟩; omega
    · rintro ⟨a, b⟩
      rw [fa_le] at a b
      rw [show (nI 0 - 1).toInt = -1 by decide] at b
      rw [show (0 : Int32).toInt = 0 by decide] at a
      omega
  | succ n => rw [nI_pred, inN x (by omega)]
theorem side_cases (x : Int32) : (∃ side, side < 2 ∧ x = nI side) ∨ (¬ x = 0 ∧ ¬ x = 1 ∧ ¬ ∃ k, k < 1 + 1 ∧ x = nI k) := by
  by_cases a : x = 0
  · exact Or.inl ⟨0, by decide, a⟩
  · by_cases b : x = 1
    · exact Or.inl ⟨1, by decide, b⟩
    · refine Or.inr ⟨a, b, ?_⟩
      rintro ⟨k, hk, e⟩
      rcases (by omega : k = 0 ∨ k = 1) with q | q
      · subst q; exact a e
      · subst q; exact b e
theorem noLine_eq {h : mH} {s : Sh} (m : MS h 85 0 s) (w : WS s) {side : Nat} (hs : side < 2) (x : Int32) : x_X9_noLine (nI side) x h = some (if ∃ k, k < cntS s side ∧ x = nI k then 0 else 1) := by
  have n5 := cntS_le w side
  unfold x_X9_noLine
  rw [mck_ok (vp_in_nI (by omega) (by decide)), nI_clamp (by omega)]
  have e : mgi h 85 side = nI (cntS s side) := by
    unfold cntS
    by_cases z : side = 0
    · rw [if_pos z, z]; exact m.1
    · rw [if_neg z, show side = 1 by omega]; exact m.2.1
  rw [e, inM x (by omega)]
  simp only [Option.bind_some]
  by_cases c : ∃ k, k < cntS s side ∧ x = nI k
  · rw [if_pos c, if_pos c]; rfl
  · rw [if_neg c, if_neg c]; rfl
theorem totalAt_eq {side i : Nat} (hs : side < 2) : x_X9_totalAt (nI side) (nI i) = some (nI (slotS side i)) := by
  unfold x_X9_totalAt slotS
  by_cases z : side = 0
  · rw [if_neg (fun q => q ((side01 hs).mpr z)), if_pos z, show (2 : Int32) = nI 2 from rfl, nI_add]
  · rw [if_pos (fun q => z ((side01 hs).mp q)), if_neg z, show (6 : Int32) = nI 6 from rfl, nI_add]
theorem MS.tot {h : mH} {p : Nat} {s : Sh} (m : MS h p 0 s) {side i : Nat} (hi : i < cntS s side) : mgi h p (slotS side i) = nI (totS s side i) := by
  unfold slotS totS
  unfold cntS at hi
  by_cases z : side = 0
  · rw [if_pos z] at hi
    rw [if_pos z, if_pos z]
    have := m.2.2.1 i hi
    rwa [Nat.zero_add] at this
  · rw [if_neg z] at hi
    rw [if_neg z, if_neg z]
    have := m.2.2.2.1 i hi
    rwa [Nat.zero_add] at this
theorem S_total {t : Nat} {h : mH} {z : St} (hw : WF z) (hc : IC t h z) (hm : IM h z) (a b : Int32) : GW t (xcR (x_X8_total a b h) h (fun h1 => x_X9_total a b h1)) := by
  have w := hw.2.1.1
  have cs := hc.2.1
  have ms := (hm.thr 0).2.1
  have h4 := w.2.1
  have w5 := w.2.2.2.1
  rcases side_cases a with ⟨side, hs, rfl⟩ | ⟨n0, n1, c⟩
  · have e12 : x_X8_total (nI side) b h = x_X8_total_12 (nI side) b h := by
      unfold x_X8_total
      by_cases q : nI side = 0
      · rw [if_pos q]
      · have : side = 1 := by
          have : ¬ side = 0 := fun r => q ((side01 hs).mpr r)
          omega
        rw [if_neg q, if_pos (by rw [this]; rfl)]
    have ein : x_X9_in (nI side).toInt64 0 (1 : Int64) = some 1 := by
      rw [show (1 : Int64) = (nI 1).toInt64 by decide, inN _ (by decide), if_pos ⟨side, hs, rfl⟩]
    rw [e12]
    have n5 := cntS_le w side
    rcases in_cases b (n := cntS z.2.1 side) (by omega) with ⟨i, hi, rfl⟩ | ⟨-, c⟩
    · refine ok_R (r := nI (totS z.2.1 side i)) hc hm hw ?_ ⟨_, ?_, hm.thr 0, frM_i (by decide)⟩
      · unfold x_X8_total_12
        rw [hasTotal_eq w cs hs, if_pos ⟨i, hi, rfl⟩]
        simp only [Option.bind_some]
        rw [if_neg (by decide), totalOf_eq w cs hs hi]
        rfl
      · unfold x_X9_total
        simp only [mlet_eq]
        rw [ein]
        simp only [Option.bind_some]
        have sl : slotS side i < 32 := by unfold slotS; split <;> omega
        rw [if_pos (by decide), noLine_eq ms w hs, if_pos ⟨i, hi, rfl⟩]
        simp only [Option.bind_some]
        rw [if_pos (by decide), totalAt_eq hs]
        simp only [Option.bind_some]
        rw [mck_ok (vp_in_nI sl (by decide)), nI_clamp (by omega), ms.tot hi]
    · refine ok_R (r := -1) hc hm hw ?_ ⟨_, ?_, hm.thr 0, frM_i (by decide)⟩
      · unfold x_X8_total_12
        rw [hasTotal_eq w cs hs, if_neg c]
        simp only [Option.bind_some]
        rw [if_pos (by decide)]
      · unfold x_X9_total
        simp only [mlet_eq]
        rw [ein]
        simp only [Option.bind_some]
        rw [if_pos (by decide), noLine_eq ms w hs, if_neg c]
        simp only [Option.bind_some]
        rw [if_neg (by decide)]
  · refine ok_R (r := -2) hc hm hw ?_ ⟨_, ?_, hm.thr 0, frM_i (by decide)⟩
    · unfold x_X8_total
      rw [if_neg n0, if_neg n1]
    · unfold x_X9_total
      simp only [mlet_eq]
      rw [show (1 : Int64) = (nI 1).toInt64 by decide, inN _ (by decide), if_neg c]
      simp only [Option.bind_some]
      rw [if_neg (by decide)]
theorem S_pin {t : Nat} {h : mH} {z : St} (hw : WF z) (hc : IC t h z) (hm : IM h z) (a : Int32) : GW t (xcR (x_X8_pin a h) h (fun h1 => x_X9_pin a h1)) := by
  have w := hw.2.1.1
  have cs := hc.2.1
  have ms := (hm.thr 0).2.1
  have n20 := w.n20
  rcases in_cases a (n := sN z.2.1) (by omega) with ⟨k, hk, rfl⟩ | ⟨-, c⟩
  · refine ok_R (r := nI (sP z.2.1 k)) hc hm hw ?_ ⟨_, ?_, hm.thr 0, frM_i (by decide)⟩
    · unfold x_X8_pin
      rw [hasCell_eq w cs, if_pos ⟨k, hk, rfl⟩]
      simp only [Option.bind_some]
      rw [if_neg (by decide), pinOf_eq w cs hk]
      rfl
    · unfold x_X9_pin
      simp only [mlet_eq]
      rw [noCell_eq ms w, if_pos ⟨k, hk, rfl⟩]
      simp only [Option.bind_some]
      have := ms.2.2.2.2.1 k hk
      rw [Nat.zero_add] at this
      rw [if_pos (by decide), show (11 : Int32) = nI 11 from rfl, nI_add, mck_ok (vp_in_nI (by omega) (by decide)), nI_clamp (by omega), this]
  · refine ok_R (r := -1) hc hm hw ?_ ⟨_, ?_, hm.thr 0, frM_i (by decide)⟩
    · unfold x_X8_pin
      rw [hasCell_eq w cs, if_neg c]
      simp only [Option.bind_some]
      rw [if_pos (by decide)]
    · unfold x_X9_pin
      simp only [mlet_eq]
      rw [noCell_eq ms w, if_neg c]
      simp only [Option.bind_some]
      rw [if_neg (by decide)]
/-- the model's list, on the page -/
theorem frL.im {h h' : mH} {z : St} (f : frL h h') (m : IM h z) : IM h' z := m.scr (fun a ha k => f.1 a k (by omega) (by omega) (by omega) (by omega)) (fun k hk => f.1 82 k (by omega) (by omega) (by omega) (by omega)) (fun k => f.2 82 k)
theorem frL.frM {h h' : mH} (f : frL h h') : frM h h' := fun a ha => ⟨fun k => f.1 a k (by omega) (by omega) (by omega) (by omega), fun k => f.2 a k⟩
theorem M_list {N : Nat} {h : mH} {z : St} (hN : 400 < N) (hw : WF z) (hm : IM h z) : ∃ h', x_X9_list N 85 1 h = some h' ∧ LsA h' (ans z.2.1) ∧ IM h' z ∧ frL h h' := by
  obtain ⟨h', e, l, f⟩ := list_eq (N := N) (p := 85) true (by omega) (by decide) hw.2.1.1 hm.2.1
  exact ⟨h', e, by simpa using l, f.im hm, f⟩
theorem S_answers {N t : Nat} {h : mH} {z : St} (hN : 1000 < N) (hw : WF z) (hc : IC t h z) (hm : IM h z) : GW t (xcR (x_X8_answers h) h (fun h1 => x_X9_answers N h1)) := by
  obtain ⟨h', e, l, i, f⟩ := M_list (by omega : 400 < N) hw (hm.thr 0)
  refine ok_R (r := nI (ans z.2.1).length) hc hm hw ?_ ⟨h', ?_, i, (frM_i (by decide)).trans f.frM⟩
  · unfold x_X8_answers
    rw [hc.2.2.1.2.2.1]
  · unfold x_X9_answers
    simp only [mlet_eq]
    rw [e]
    simp only [Option.bind_some]
    rw [l.1]
theorem plC_none {s : Sh} (h : s.2 = none) : plC s = -1 := by unfold plC; rw [h]
theorem plC_some {s : Sh} {q : Nat} (h : s.2 = some q) : plC s = shl s q := by unfold plC shl; rw [h]
theorem plM_none {s : Sh} (h : s.2 = none) : plM s = -9 := by unfold plM; rw [h]
theorem plM_some {s : Sh} {q : Nat} (h : s.2 = some q) : plM s = nI q := by unfold plM; rw [h]
theorem MS.pl {h : mH} {p : Nat} {s : Sh} (m : MS h p 0 s) : mgi h p 31 = plM s := by have := m.2.2.2.2.2; rwa [Nat.zero_add] at this
theorem S_plane {N t : Nat} {h : mH} {z : St} (hN : 1000 < N) (hw : WF z) (hc : IC t h z) (hm : IM h z) : GW t (xcR (x_X8_plane N h) h (fun h1 => x_X9_plane N h1)) := by
  have w := hw.2.1.1
  have al := hc.2.2.1
  obtain ⟨h', e, l, i, f⟩ := M_list (by omega : 400 < N) hw (hm.thr 0)
  have pl := i.2.1.pl
  have pc : mgi h 2 6 = plC z.2.1 := hc.2.1.2.2.2.2.2.2
  rcases hw.2.1.2 with ⟨p1, p2⟩ | ⟨q, p1, p2⟩
  · refine ok_R (r := -9) hc hm hw ?_ ⟨h', ?_, i, (frM_i (by decide)).trans f.frM⟩
    · unfold x_X8_plane
      rw [pc, plC_none p1, no_none (by omega) w al]
      rfl
    · unfold x_X9_plane
      simp only [mlet_eq]
      rw [e]
      simp only [Option.bind_some]
      rw [pl, plM_none p1, if_neg (by decide)]
  · have hq := ans_lt p2
    have h20 := pw20 w hq
    refine ok_R (r := nm (ans z.2.1) q) hc hm hw ?_ ⟨h', ?_, i, (frM_i (by decide)).trans f.frM⟩
    · unfold x_X8_plane
      rw [pc, plC_some p1, no_ans (by omega) w al hq]
      rfl
    · unfold x_X9_plane
      simp only [mlet_eq]
      rw [e]
      simp only [Option.bind_some]
      rw [pl, plM_some p1, if_pos (nI_n9 (by omega)), place_eq (by omega) l (ans_sorted _) (ans_310 w) (fun x hx => pw20 w (ans_lt hx)) h20]
      rfl
theorem M_note {N : Nat} {h : mH} {z : St} (hN : 1000 < N) (hw : WF z) (hm : IM h z) : ∃ h', x_X9_note N h = some h' ∧ iB h' (addA z.2.2.1 z.2.1) ∧ frNt h h' := by
  obtain ⟨-, b, ⟨c1, c2⟩, -, -, -⟩ := hm
  obtain ⟨h', e1, e2, e3, e4⟩ := note_eq (N := N) (by omega) hw.2.2.1.1 c1 c2 (fun s hs => (hw.2.2.1.2 s hs).1) b hw.2.1.1
  exact ⟨h', e1, ⟨e2, e3⟩, e4⟩
theorem WF_act {z : St} {s' : Sh} (hw : WF z) (w : WS s') (p : WP s') : WF (z.1, s', addA z.2.2.1 z.2.1, z.2.2.2.1, z.2.2.2.2.1, z.2.2.2.2.2) := by
  refine ⟨hw.1, ⟨w, p⟩, ⟨?_, fun s hs => ?_⟩, hw.2.2.2⟩
  · show (addA _ _).length ≤ 14
    rw [addA_len _ hw.2.2.1.1]
    split <;> omega
  · have hs' : s ∈ addA z.2.2.1 z.2.1 := hs
    unfold addA at hs'
    rw [List.mem_append] at hs'
    rcases hs' with q | q
    · split at q
      · exact hw.2.2.1.2 s q
      · exact hw.2.2.1.2 s (List.mem_of_mem_tail q)
    · rw [List.mem_singleton] at q
      subst q
      exact hw.2.1
theorem xor_shl (o n k : Nat) : nI (o * 2 ^ k) ^^^ nI (n * 2 ^ k) = nI ((o ^^^ n) * 2 ^ k) := by
  rw [fb_xorI]
  congr 1
  refine Nat.eq_of_testBit_eq fun i => ?_
  rw [Nat.testBit_xor, Nat.testBit_mul_two_pow, Nat.testBit_mul_two_pow, Nat.testBit_mul_two_pow, Nat.testBit_xor]
  by_cases c : k ≤ i <;> simp [c]
theorem bc_shl (q k n : Nat) : bc (q * 2 ^ k) (k + n) = bc q n := by
  unfold bc
  rw [fb_ct_split]
  have z : fb_ct (fun j => (q * 2 ^ k).testBit j) k = 0 := by
    rw [fb_ct_zero]
    intro j hj
    rw [Nat.testBit_mul_two_pow]
    have : ¬ k ≤ j := by omega
    simp [this]
  rw [z, Nat.zero_add]
  refine fb_ct_cong fun j hj => ?_
  rw [Nat.testBit_mul_two_pow]
  have : k ≤ k + j := by omega
  simp [this]
theorem bcnt_shl {s : Sh} (w : WS s) {q : Nat} (hq : q < 2 ^ sN s) : x_J6_bitCount_0f7a4 (shl s q) = some (nI (bc q 20)) := by
  have n20 := w.n20
  unfold shl
  rw [bcnt (n := 20) (shl_lt w hq) (by decide), show bc (q * 2 ^ (20 - sN s)) 20 = bc (q * 2 ^ (20 - sN s)) (20 - sN s + sN s) by congr 1; omega, bc_shl, ← bc_small hq (by omega : sN s ≤ 20)]
theorem CS.plane {h : mH} {a : Nat} {s : Sh} {q : Option Nat} (m : CS h a s) : CS (msi h a 6 (plC (s.1, q))) a (s.1, q) := by
  obtain ⟨x0, x1, x2, x3, x4, x5, x6⟩ := m
  refine ⟨?_, ?_, fun r hr => ?_, fun r hr => ?_, ?_, ?_, ?_⟩
  · rw [mgi_msi, if_neg (by omega)]; exact x0
  · rw [mgi_msi, if_neg (by omega)]; exact x1
  · rw [mgi_msi, if_neg (by omega)]; exact x2 r hr
  · rw [mgi_msi, if_neg (by omega)]; exact x3 r hr
  · rw [mgi_msi, if_neg (by omega)]; exact x4
  · rw [mgi_msi, if_neg (by omega)]; exact x5
  · rw [mgi_msi, if_pos ⟨rfl, rfl⟩]
/-- another plane of the same sheet, as an act: the class -/
theorem C_plane {t : Nat} {h h1 : mH} {z : St} {q : Nat} (ht : t < 600) (m : IC t h z) (ac : iA h1 (addA z.2.2.1 z.2.1)) (f : ∀ b k, b < 20 ∨ 64 ≤ b → mgi h1 b k = mgi h b k) (fl : ∀ b k, mgl h1 b k = mgl h b k) : IC (t + 1) (msi h1 2 6 (shl z.2.1 q)) (z.1, (z.2.1.1, some q), addA z.2.2.1 z.2.1, z.2.2.2.1, z.2.2.2.2.1, z.2.2.2.2.2) ∧ frC h (msi h1 2 6 (shl z.2.1 q)) := by
  have cs1 : CS h1 2 z.2.1 := m.2.1.congr (fun k => f _ k (by omega)) (fun k => f _ k (by omega)) (fun k => f _ k (by omega))
  have al1 : AL h1 5 z.2.1 := m.2.2.1.congr (fun k => f _ k (by omega)) (fun k => f _ k (by omega)) (fun k => f _ k (by omega)) (fun k => fl 5 k)
  have g : ∀ b k, b ≠ 2 → mgi (msi h1 2 6 (shl z.2.1 q)) b k = mgi h1 b k := fun b k hb => by rw [mgi_msi, if_neg (by omega)]
  constructor
  · refine m.board ht (fun b k hb => by rw [g b k (by omega), f b k (by omega)]) (fun b k hb => fl b k) (cs1.plane (q := some q)) (AL.congr (h := h1) (fun k => g _ k (by omega)) (fun k => g _ k (by omega)) (fun k => g _ k (by omega)) (fun k => rfl) al1) (Or.inr ⟨by rw [g 5 4 (by omega), f 5 4 (by omega)], rfl, rfl⟩) (ac.congr (fun b b1 b2 k => g b k (by omega))) ?_
    have kp : iK h z.2.2.2.1 := m.2.2.2.2.2.2.2.1
    exact kp.congr (fun b b1 b2 k => by rw [g b k (by omega), f b k (by omega)])
  · exact fun b hb => ⟨fun k => by rw [g b k (by omega), f b k (by omega)], fun k => fl b k⟩
theorem S_go {N t : Nat} {h : mH} {z : St} (hN : 1000 < N) (ht : t < 512) (hw : WF z) (hc : IC t h z) (hm : IM h z) (a : Int32) : GW t (xcW (x_X8_go a h) (fun h1 => x_X9_go N a h1)) := by
  have w := hw.2.1.1
  have al := hc.2.2.1
  have l310 := ans_310 w
  rcases in_cases a (n := (ans z.2.1).length) (by omega) with ⟨i, hi, rfl⟩ | ⟨c1, c⟩
  · obtain ⟨q0, p1, p2⟩ : ∃ q, z.2.1.2 = some q ∧ q ∈ ans z.2.1 := by
      rcases hw.2.1.2 with ⟨_, p2⟩ | p
      · rw [p2] at hi; simp at hi
      · exact p
    have hq0 := ans_lt p2
    have hq1 := ans_lt (getD_mem hi)
    have hx : (q0 ^^^ (ans z.2.1).getD i 0) < 2 ^ sN z.2.1 := Nat.xor_lt_two_pow hq0 hq1
    refine ok_W (r := nI (bc (q0 ^^^ (ans z.2.1).getD i 0) 20)) (z' := (z.1, (z.2.1.1, some ((ans z.2.1).getD i 0)), addA z.2.2.1 z.2.1, z.2.2.2.1, z.2.2.2.2.1, z.2.2.2.2.2)) hm ?_ ?_ (fun h1 hm1 => ?_)
    · exact WF_act hw (s' := (z.2.1.1, some ((ans z.2.1).getD i 0))) w (Or.inr ⟨_, rfl, getD_mem hi⟩)
    · obtain ⟨h1, e1, a1, f1, g1⟩ := add_eq hw.2.2.1.1 hc.2.2.2.2.2.2.1 w hc.2.1
      obtain ⟨k1, k2⟩ := C_plane (q := (ans z.2.1).getD i 0) (by omega) hc a1 f1 g1
      refine ⟨_, ?_, k1, k2⟩
      unfold x_X8_go
      rw [if_neg (nI_pos (by omega)), al.2.2.1, if_pos (nI_lt hi (by omega)), mlet_eq, e1]
      simp only [Option.bind_some]
      rw [mck_ok (vp_in_nI (by omega) (by decide)), nI_clamp (by omega), mlet_eq, f1 7 i (by omega), al.2.2.2.1 i hi, mgi_msi, if_pos ⟨rfl, rfl⟩]
      have pc : mgi h 2 6 = shl z.2.1 q0 := by rw [← plC_some p1]; exact hc.2.1.2.2.2.2.2.2
      have : shl z.2.1 q0 ^^^ shl z.2.1 ((ans z.2.1).getD i 0) = shl z.2.1 (q0 ^^^ (ans z.2.1).getD i 0) := xor_shl _ _ _
      rw [pc, this, bcnt_shl w hx]
      rfl
    · obtain ⟨h2, e2, l2, i2, f2⟩ := M_list (by omega : 400 < N) hw (hm1.thr 0)
      obtain ⟨h3, e3, b3, f3⟩ := M_note hN hw i2
      have ms3 : MS h3 85 0 z.2.1 := i2.2.1.congr (fun k => f3.1 85 k (by omega) (by omega))
      have l3 : mgi h3 94 i = nI ((ans z.2.1).getD i 0) := by rw [f3.1 94 i (by omega) (by omega)]; exact l2.2 i hi
      refine ⟨msi h3 85 31 (nI ((ans z.2.1).getD i 0)), ?_, ?_, (frM_i (by decide)).trans (f2.frM.trans ?_)⟩
      · unfold x_X9_go
        simp only [mlet_eq]
        rw [e2]
        simp only [Option.bind_some]
        rw [l2.1, inM _ (by omega), if_pos ⟨i, hi, rfl⟩]
        simp only [Option.bind_some]
        rw [if_pos (by decide), e3]
        simp only [Option.bind_some]
        rw [mck_ok (vp_in_nI (by omega) (by decide)), nI_clamp (by omega), l3, ms3.pl, plM_some p1, fb_xorI, ones_eq (by omega)]
        simp only [Option.bind_some]
        rw [mck_ok (vp_in_nI (by omega) (by decide))]
      · refine i2.board (fun b k hb => ?_) ?_ ?_ ?_ ?_ ?_ ?_
        · rw [mgi_msi, if_neg (by omega), f3.1 b k (by omega) (by omega)]
        · rw [mgi_msi, if_neg (by omega), f3.1 82 2 (by omega) (by omega)]
        · rw [mgi_msi, if_neg (by omega), f3.1 82 10 (by omega) (by omega)]
        · exact f3.2 82 13
        · have := ms3.plane w (q := some ((ans z.2.1).getD i 0))
          rw [Nat.zero_add] at this
          exact this
        · exact b3.congr (by rw [mgi_msi, if_neg (by omega)]) (fun k => by rw [mgi_msi, if_neg (by omega)])
        · have kp : iKM h2 z.2.2.2.1 := i2.2.2.2.1
          exact kp.congr (fun k => by rw [mgi_msi, if_neg (by omega), f3.1 89 k (by omega) (by omega)]) (fun k => by rw [mgi_msi, if_neg (by omega), f3.1 88 k (by omega) (by omega)])
      · exact fun b hb => ⟨fun k => by rw [mgi_msi, if_neg (by omega), f3.1 b k (by omega) (by omega)], fun k => f3.2 b k⟩
  · refine ok_W (r := -1) (z' := z) hm hw ?_ (fun h1 hm1 => ?_)
    · refine ⟨h, ?_, hc.next, frC.rfl⟩
      unfold x_X8_go
      by_cases q : a < 0
      · rw [if_pos q]
      · rw [if_neg q, al.2.2.1, if_neg (fun r => (fa_of_lt r).2.1 (c1.resolve_left q))]
    · obtain ⟨h2, e2, l2, i2, f2⟩ := M_list (by omega : 400 < N) hw (hm1.thr 0)
      refine ⟨h2, ?_, i2, (frM_i (by decide)).trans f2.frM⟩
      unfold x_X9_go
      simp only [mlet_eq]
      rw [e2]
      simp only [Option.bind_some]
      rw [l2.1, inM _ (by omega), if_neg c]
      simp only [Option.bind_some]
      rw [if_neg (by decide)]
