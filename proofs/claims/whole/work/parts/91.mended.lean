/-! mended -/
def md1 (s : Sh) (side i v : Nat) (x : Nat × Int32) : Nat × Int32 := if tst (spT s (slotS side i) v) = -9 then (x.1 + 1, if x.1 = 0 then nI (100 * side + 10 * i + v) else x.2) else x
def mdI (s : Sh) (side i : Nat) (x : Nat × Int32) : Nat → Nat × Int32
  | 0 => x
  | v + 1 => md1 s side i v (mdI s side i x v)
def sdK (s : Sh) (k : Nat) : Nat := if k < sH s then 0 else 1
def inK (s : Sh) (k : Nat) : Nat := if k < sH s then k else k - sH s
def mdK (s : Sh) : Nat → Nat × Int32
  | 0 => (0, -9)
  | k + 1 => mdI s (sdK s k) (inK s k) (mdK s k) (mostS s (sdK s k) + 1)
def gdX (x : Nat × Int32) : Prop := x.1 = 0 ↔ x.2 = -9
theorem md1_gd {s : Sh} {side i v : Nat} {x : Nat × Int32} (hb : 100 * side + 10 * i + v < 2 ^ 31) (h : gdX x) : gdX (md1 s side i v x) := by
  unfold md1
  by_cases c : tst (spT s (slotS side i) v) = -9
  · rw [if_pos c]
    unfold gdX at *
    by_cases d : x.1 = 0
    · simp only [d, if_true]
      have := nI_n9 hb
      simp [this]
    · have e : ¬ x.2 = -9 := fun q => d (h.mpr q)
      simp only [d, if_false]
      simp [e]
  · rw [if_neg c]; exact h
theorem mdI_gd {s : Sh} {side i : Nat} {x : Nat × Int32} (hs : side < 2) (hi : i < 10) (h : gdX x) : ∀ v, v ≤ 10 → gdX (mdI s side i x v)
  | 0, _ => h
  | v + 1, hv => by rw [mdI]; exact md1_gd (by omega) (mdI_gd hs hi h v (by omega))
theorem mdI_le (s : Sh) (side i : Nat) (x : Nat × Int32) : ∀ v, (mdI s side i x v).1 ≤ x.1 + v
  | 0 => Nat.le_refl _
  | v + 1 => by
    have := mdI_le s side i x v
    rw [mdI]
    unfold md1
    by_cases c : tst (spT s (slotS side i) v) = -9
    · rw [if_pos c]
      show (mdI s side i x v).1 + 1 ≤ _
      omega
    · rw [if_neg c]; omega
theorem mostS_le {s : Sh} (w : WS s) (side : Nat) : mostS s side ≤ 5 := by
  unfold mostS
  have := w.2.1
  have := w.2.2.2.1
  split <;> omega
theorem mdK_gd {s : Sh} (w : WS s) : ∀ k, k ≤ sH s + sW s → gdX (mdK s k)
  | 0, _ => by rw [mdK]; unfold gdX; simp
  | k + 1, hk => by
    have h4 := w.2.1
    have w5 := w.2.2.2.1
    have m5 := mostS_le w (sdK s k)
    rw [mdK]
    refine mdI_gd (by unfold sdK; split <;> omega) (by unfold inK; split <;> omega) (mdK_gd w k (by omega)) _ (by omega)
theorem mdK_le {s : Sh} (w : WS s) : ∀ k, (mdK s k).1 ≤ 6 * k
  | 0 => by rw [mdK]; omega
  | k + 1 => by
    have m5 := mostS_le w (sdK s k)
    have a := mdK_le w k
    have b := mdI_le s (sdK s k) (inK s k) (mdK s k) (mostS s (sdK s k) + 1)
    rw [mdK]
    omega
theorem spT_spT (s : Sh) (j u v : Nat) : spT (spT s j u) j v = spT s j v := by
  unfold spT
  congr 1
  funext i
  by_cases c : i = j <;> simp [c]
theorem spT_self (s : Sh) (j : Nat) : spT s j (s.1 j) = s := by
  unfold spT
  have : (fun i => if i = j then s.1 j else s.1 i) = s.1 := by
    funext i
    by_cases c : i = j
    · rw [if_pos c, c]
    · rw [if_neg c]
  rw [this]
theorem totS_slot (s : Sh) (side i : Nat) : totS s side i = s.1 (slotS side i) := by
  unfold totS slotS
  by_cases c : side = 0
  · rw [if_pos c, if_pos c]; rfl
  · rw [if_neg c, if_neg c]; rfl
theorem slot_2 (side i : Nat) : 2 ≤ slotS side i := by unfold slotS; split <;> omega
theorem cntS_sp (s : Sh) (side j v : Nat) (h : 2 ≤ j) : cntS (spT s j v) side = cntS s side := by unfold cntS; rw [spT_H h, spT_W h]
theorem mostS_sp (s : Sh) (side j v : Nat) (h : 2 ≤ j) : mostS (spT s j v) side = mostS s side := by unfold mostS; rw [spT_H h, spT_W h]
theorem totS_le {s : Sh} (w : WS s) {side i : Nat} (hi : i < cntS s side) : totS s side i ≤ mostS s side := by
  unfold totS mostS
  unfold cntS at hi
  by_cases c : side = 0
  · rw [if_pos c] at hi ⊢; rw [if_pos c]; exact w.2.2.2.2.1 i hi
  · rw [if_neg c] at hi ⊢; rw [if_neg c]; exact w.2.2.2.2.2.1 i hi
def frW (h h' : mH) : Prop := (∀ b k, b ≠ 65 → ¬ (9 ≤ b ∧ b ≤ 11) → mgi h' b k = mgi h b k) ∧ ∀ b k, mgl h' b k = mgl h b k
theorem frW.refl {h : mH} : frW h h := ⟨fun _ _ _ _ => rfl, fun _ _ => rfl⟩
theorem frW.trans {h h1 h2 : mH} (a : frW h h1) (b : frW h1 h2) : frW h h2 := ⟨fun c k x y => (b.1 c k x y).trans (a.1 c k x y), fun c k => (b.2 c k).trans (a.2 c k)⟩
theorem fr3.frW {h h' : mH} (f : fr3 9 h h') : frW h h' := ⟨fun b k _ hb => f.1 b k (by omega) (by omega) (by omega), f.2⟩
theorem frF.frW {h h' : mH} (f : frF h h') : frW h h' := ⟨fun b k hb _ => f.1 b k hb, f.2⟩
theorem cm112 {N side i : Nat} {v1 : Int32} {s : Sh} {h : mH} {x0 : Nat × Int32} {self67 self76 : Int32 → Int32 → Int32 → mH → Option (Int32 × mH)} (hN : 40 < N) (w : WS s) (hs : side < 2) (hi : i < cntS s side) (gd : gdX x0) (cs : CS h 9 s) : ∃ h', x_X8_mended_112 N self67 self76 v1 (nI side) (nI i) (nI (totS s side i)) N (nI x0.1) x0.2 0 h = self76 (nI (mdI s side i x0 (mostS s side + 1)).1) (mdI s side i x0 (mostS s side + 1)).2 (nI (i + 1)) h' ∧ CS h' 9 s ∧ frW h h' := by
  have m5 := mostS_le w side
  have n5 := cntS_le w side
  have s2 := slot_2 side i
  have put : ∀ (x : mH) (u v : Nat), u ≤ mostS s side → CS x 9 (spT s (slotS side i) u) → ∃ h', x_X6_putTotal 9 (nI side) (nI i) (nI v) x = some h' ∧ CS h' 9 (spT s (slotS side i) v) ∧ fr3 9 x h' := fun x u v hu c => by
    have w' := WS_tot w hs hi hu
    obtain ⟨h', e1, e2, e3⟩ := putTotal_eq (v := v) w' c hs (by rw [cntS_sp _ _ _ _ s2]; exact hi)
    rw [spT_spT] at e2
    exact ⟨h', e1, e2, e3⟩
  refine lpI (fun f (a : Int32 × Int32 × mH) j => x_X8_mended_112 N self67 self76 v1 (nI side) (nI i) (nI (totS s side i)) f a.1 a.2.1 j a.2.2) (fun v a => a.1 = nI (mdI s side i x0 v).1 ∧ a.2.1 = (mdI s side i x0 v).2 ∧ (∃ u, u ≤ mostS s side ∧ CS a.2.2 9 (spT s (slotS side i) u)) ∧ frW h a.2.2) (fun o => ∃ h', o = self76 (nI (mdI s side i x0 (mostS s side + 1)).1) (mdI s side i x0 (mostS s side + 1)).2 (nI (i + 1)) h' ∧ CS h' 9 s ∧ frW h h') (mostS s side + 1) (fun f v a hv ha => ?_) (fun f a ha => ?_) N 0 (nI x0.1, x0.2, h) (by omega) (by omega) ⟨rfl, rfl, ⟨_, totS_le w hi, by rw [totS_slot, spT_self]; exact cs⟩, frW.refl⟩
  · obtain ⟨a1, a2, ⟨u, a3, a4⟩, a5⟩ := ha
    have w' := WS_tot w hs hi (show v ≤ mostS s side by omega)
    obtain ⟨h1, p1, p2, p3⟩ := put a.2.2 u v a3 a4
    obtain ⟨h2, q1, q2⟩ := failsAt_eq (N := N) (by omega) w' (by decide) p2
    have gv' := mdI_gd (s := s) hs (show i < 10 by omega) gd v (by omega)
    refine Or.inl ⟨(nI (mdI s side i x0 (v + 1)).1, (mdI s side i x0 (v + 1)).2, h2), ?_, rfl, rfl, ⟨v, by omega, q2.cs (by decide) p2⟩, a5.trans (p3.frW.trans q2.frW)⟩
    show x_X8_mended_112 N self67 self76 v1 (nI side) (nI i) (nI (totS s side i)) (f + 1) a.1 a.2.1 (nI v) a.2.2 = x_X8_mended_112 N self67 self76 v1 (nI side) (nI i) (nI (totS s side i)) f (nI (mdI s side i x0 (v + 1)).1) (mdI s side i x0 (v + 1)).2 (nI (v + 1)) h2
    rw [x_X8_mended_112_s, mostTotal_eq a4 hs, mostS_sp _ _ _ _ s2, Option.bind_some, if_neg (nI_nlt (by omega) (by omega)), p1, Option.bind_some, q1, Option.bind_some, a1, a2, mdI]
    unfold x_X8_mended_192 md1
    by_cases c : tst (spT s (slotS side i) v) = -9
    · rw [if_neg (not_not_intro c), if_pos c, mlet_eq, nI_1, nI_1]
      congr 1
      by_cases d : (mdI s side i x0 v).1 = 0
      · rw [if_neg (not_not_intro (gv'.mp d)), show (100 : Int32) = nI 100 from rfl, show (10 : Int32) = nI 10 from rfl, pk_mul, pk_mul, nI_add, nI_add]
        show _ = if (mdI s side i x0 v).1 = 0 then _ else _
        rw [if_pos d]
      · rw [if_pos (fun q => d (gv'.mpr q))]
        show _ = if (mdI s side i x0 v).1 = 0 then _ else _
        rw [if_neg d]
    · rw [if_pos c, if_neg c, nI_1]
  · obtain ⟨a1, a2, ⟨u, a3, a4⟩, a5⟩ := ha
    obtain ⟨h1, p1, p2, p3⟩ := put a.2.2 u (totS s side i) a3 a4
    refine ⟨h1, ?_, by rw [totS_slot, spT_self] at p2; exact p2, a5.trans p3.frW⟩
    show x_X8_mended_112 N self67 self76 v1 (nI side) (nI i) (nI (totS s side i)) (f + 1) a.1 a.2.1 (nI (mostS s side + 1)) a.2.2 = _
    rw [x_X8_mended_112_s, mostTotal_eq a4 hs, mostS_sp _ _ _ _ s2, Option.bind_some, if_pos (nI_lt (by omega) (by omega)), p1, Option.bind_some, nI_1, a1, a2]
def ofK (s : Sh) (side : Nat) : Nat := if side = 0 then 0 else sH s
theorem cm67 {N : Nat} {v1 : Int32} {s : Sh} {h : mH} (hN : 40 < N) (w : WS s) (cs : CS h 9 s) : ∃ h', x_X8_mended_67 N v1 N 0 (-9) 0 h = some ((if ¬ v1 = 0 then (mdK s (sH s + sW s)).2 else nI (mdK s (sH s + sW s)).1), h') ∧ frW h h' := by
  have h4 := w.2.1
  have w5 := w.2.2.2.1
  have F := lpI (fun f (a : Int32 × Int32 × mH) j => x_X8_mended_67 N v1 f a.1 a.2.1 j a.2.2) (fun side a => ∃ K, K = (if side = 0 then 0 else if side = 1 then sH s else sH s + sW s) ∧ a.1 = nI (mdK s K).1 ∧ a.2.1 = (mdK s K).2 ∧ CS a.2.2 9 s ∧ frW h a.2.2) (fun o => ∃ h', o = some ((if ¬ v1 = 0 then (mdK s (sH s + sW s)).2 else nI (mdK s (sH s + sW s)).1), h') ∧ frW h h') 2 (fun f side a hs ha => ?_) (fun f a ha => ?_) N 0 (0, -9, h) (by omega) (by omega) ⟨0, rfl, by rw [mdK]; rfl, by rw [mdK], cs, frW.refl⟩
  · exact F
  · obtain ⟨K, hK, a1, a2, a3, a4⟩ := ha
    have n5 := cntS_le w side
    have hK' : K = ofK s side := by rw [hK]; unfold ofK; split <;> (try split) <;> (try omega) <;> rfl
    show (∃ a' : Int32 × Int32 × mH, x_X8_mended_67 N v1 (f + 1) a.1 a.2.1 (nI side) a.2.2 = x_X8_mended_67 N v1 f a'.1 a'.2.1 (nI (side + 1)) a'.2.2 ∧ _) ∨ _
    rw [x_X8_mended_67_s, if_neg (show ¬ (1 : Int32) < nI side from nI_nlt (a := 1) (by omega) (by decide))]
    refine Or.inl (lpI (fun g (b : Int32 × Int32 × mH) j => x_X8_mended_76 N (x_X8_mended_67 N v1 f) v1 (nI side) g b.1 b.2.1 j b.2.2) (fun i b => b.1 = nI (mdK s (ofK s side + i)).1 ∧ b.2.1 = (mdK s (ofK s side + i)).2 ∧ CS b.2.2 9 s ∧ frW h b.2.2) (fun o => ∃ a' : Int32 × Int32 × mH, o = x_X8_mended_67 N v1 f a'.1 a'.2.1 (nI (side + 1)) a'.2.2 ∧ ∃ K, K = (if side + 1 = 0 then 0 else if side + 1 = 1 then sH s else sH s + sW s) ∧ a'.1 = nI (mdK s K).1 ∧ a'.2.1 = (mdK s K).2 ∧ CS a'.2.2 9 s ∧ frW h a'.2.2) (cntS s side) (fun g i b hi hb => ?_) (fun g b hb => ?_) N 0 a (by omega) (by omega) ⟨by rw [Nat.add_zero, ← hK']; exact a1, by rw [Nat.add_zero, ← hK']; exact a2, a3, a4⟩)
    · obtain ⟨b1, b2, b3, b4⟩ := hb
      have kl : ofK s side + i < sH s + sW s := by
        unfold ofK
        unfold cntS at hi
        by_cases c : side = 0
        · rw [if_pos c] at hi ⊢; have := w.2.2.1; omega
        · rw [if_neg c] at hi ⊢; omega
      have e1 : sdK s (ofK s side + i) = side := by
        unfold sdK ofK
        unfold cntS at hi
        by_cases c : side = 0
        · rw [if_pos c] at hi ⊢; rw [if_pos (by omega), c]
        · rw [if_neg c] at hi ⊢; rw [if_neg (by omega)]; omega
      have e2 : inK s (ofK s side + i) = i := by
        unfold inK ofK
        unfold cntS at hi
        by_cases c : side = 0
        · rw [if_pos c] at hi ⊢; rw [if_pos (by omega)]; omega
        · rw [if_neg c] at hi ⊢; rw [if_neg (by omega)]; omega
      obtain ⟨h1, q1, q2, q3⟩ := cm112 (N := N) (v1 := v1) (self67 := x_X8_mended_67 N v1 f) (self76 := x_X8_mended_76 N (x_X8_mended_67 N v1 f) v1 (nI side) g) hN w hs hi (mdK_gd w _ (Nat.le_of_lt kl)) b3
      refine Or.inl ⟨(nI (mdK s (ofK s side + (i + 1))).1, (mdK s (ofK s side + (i + 1))).2, h1), ?_, rfl, rfl, q2, b4.trans q3⟩
      show x_X8_mended_76 N (x_X8_mended_67 N v1 f) v1 (nI side) (g + 1) b.1 b.2.1 (nI i) b.2.2 = x_X8_mended_76 N (x_X8_mended_67 N v1 f) v1 (nI side) g (nI (mdK s (ofK s side + (i + 1))).1) (mdK s (ofK s side + (i + 1))).2 (nI (i + 1)) h1
      rw [x_X8_mended_76_s, totalCount_eq b3 hs, Option.bind_some, if_neg (nI_ge hi (by omega)), totalOf_eq w b3 hs hi, Option.bind_some, b1, b2, q1, ← Nat.add_assoc, mdK, e1, e2]
    · obtain ⟨b1, b2, b3, b4⟩ := hb
      refine ⟨b, ?_, ofK s side + cntS s side, ?_, b1, b2, b3, b4⟩
      · show x_X8_mended_76 N (x_X8_mended_67 N v1 f) v1 (nI side) (g + 1) b.1 b.2.1 (nI (cntS s side)) b.2.2 = _
        rw [x_X8_mended_76_s, totalCount_eq b3 hs, Option.bind_some, if_pos (nI_le (Nat.le_refl _) (by omega)), nI_1]
      · unfold ofK cntS
        rcases (by omega : side = 0 ∨ side = 1) with c | c <;> subst c <;> simp
  · obtain ⟨K, hK, a1, a2, a3, a4⟩ := ha
    refine ⟨a.2.2, ?_, a4⟩
    show x_X8_mended_67 N v1 (f + 1) a.1 a.2.1 (nI 2) a.2.2 = _
    have hK' : K = sH s + sW s := hK
    rw [x_X8_mended_67_s, if_pos (by decide), a1, a2, hK']
def frX (h h' : mH) : Prop := (∀ b k, b ≠ 86 → mgi h' b k = mgi h b k) ∧ ∀ b k, mgl h' b k = mgl h b k
theorem frX.refl {h : mH} : frX h h := ⟨fun _ _ _ => rfl, fun _ _ => rfl⟩
theorem frX.trans {h h1 h2 : mH} (a : frX h h1) (b : frX h1 h2) : frX h h2 := ⟨fun c k x => (b.1 c k x).trans (a.1 c k x), fun c k => (b.2 c k).trans (a.2 c k)⟩
theorem mm110 {N side i K : Nat} {v1 v4 : Int32} {s : Sh} {h : mH} {x0 : Nat × Int32} {self45 : Int32 → Int32 → Int32 → mH → Option (Int32 × mH)} (hN : 40 < N) (w : WS s) (hs : side < 2) (hi : i < cntS s side) (hx : x0.1 < 1000) (m : MS h 85 0 s) : ∃ h', x_X9_mended_110 N self45 v1 v4 (nI K) (nI side) (nI i) N (nI x0.1) x0.2 0 h = self45 (nI (mdI s side i x0 (mostS s side + 1)).1) (mdI s side i x0 (mostS s side + 1)).2 (nI (K + 1)) h' ∧ frX h h' := by
  have m5 := mostS_le w side
  have n5 := cntS_le w side
  have s2 := slot_2 side i
  have sl : slotS side i < 31 := by unfold slotS; split <;> omega
  have ms1 : ∀ x, frX h x → MS x 85 0 s := fun x f => m.congr (fun k => f.1 85 k (by decide))
  have em : ∀ x, frX h x → mgi x 85 (1 - side) = nI (mostS s side) := fun x f => by
    have q := ms1 x f
    unfold mostS
    rcases (by omega : side = 0 ∨ side = 1) with c | c
    · subst c; rw [if_pos rfl]; have := q.2.1; rwa [Nat.zero_add] at this
    · subst c; rw [if_neg (by decide)]; exact q.1
  have e1 : (1 : Int32) - nI side = nI (1 - side) := by rw [show (1 : Int32) = nI 1 from rfl, pk_sub (by omega)]
  refine lpI (fun f (a : Int32 × Int32 × mH) j => x_X9_mended_110 N self45 v1 v4 (nI K) (nI side) (nI i) f a.1 a.2.1 j a.2.2) (fun v a => a.1 = nI (mdI s side i x0 v).1 ∧ a.2.1 = (mdI s side i x0 v).2 ∧ frX h a.2.2) (fun o => ∃ h', o = self45 (nI (mdI s side i x0 (mostS s side + 1)).1) (mdI s side i x0 (mostS s side + 1)).2 (nI (K + 1)) h' ∧ frX h h') (mostS s side + 1) (fun f v a hv ha => ?_) (fun f a ha => ?_) N 0 (nI x0.1, x0.2, h) (by omega) (by omega) ⟨rfl, rfl, frX.refl⟩
  · obtain ⟨a1, a2, a5⟩ := ha
    have w' := WS_tot w hs hi (show v ≤ mostS s side by omega)
    obtain ⟨h1, l1, l2, l3, l4⟩ := lay_eq (N := N) (a := 86) (b := 85) (by omega) (by decide) a.2.2
    have m86 : MS h1 86 0 s := (ms1 _ a5).copy w (fun k hk => by rw [Nat.zero_add]; exact l2 k hk)
    have m2 := m86.set (v := v) w s2 sl
    have le := mdI_le s side i x0 v
    refine Or.inl ⟨(nI (mdI s side i x0 (v + 1)).1, (mdI s side i x0 (v + 1)).2, msi h1 86 (slotS side i) (nI v)), ?_, rfl, rfl, a5.trans ⟨fun b k hb => by rw [mgi_msi, if_neg (by omega), l3 b k hb], fun b k => l4 b k⟩⟩
    show x_X9_mended_110 N self45 v1 v4 (nI K) (nI side) (nI i) (f + 1) a.1 a.2.1 (nI v) a.2.2 = x_X9_mended_110 N self45 v1 v4 (nI K) (nI side) (nI i) f (nI (mdI s side i x0 (v + 1)).1) (mdI s side i x0 (v + 1)).2 (nI (v + 1)) (msi h1 86 (slotS side i) (nI v))
    rw [x_X9_mended_110_s, e1, mck_ok (vp_in_nI (by omega) (by decide)), nI_clamp (by omega), em _ a5, if_neg (nI_nlt (by omega) (by omega)), l1, Option.bind_some, totalAt_eq hs, Option.bind_some, mck_ok (vp_in_nI (by omega) (by decide)), nI_clamp (by omega), mlet_eq, tested_eq hN w' m2, Option.bind_some, mlet_eq, mlet_eq, mlet_eq, a1, a2, mdI]
    unfold md1
    by_cases c : tst (spT s (slotS side i) v) = -9
    · rw [if_neg (not_not_intro c), if_pos c, if_neg (by decide), if_neg (by decide), nI_1, nI_1]
      congr 1
      by_cases d : (mdI s side i x0 v).1 = 0
      · rw [if_neg (not_not_intro (by rw [d]; rfl)), show (100 : Int32) = nI 100 from rfl, show (10 : Int32) = nI 10 from rfl, pk_mul, pk_mul, nI_add, nI_add]
        show _ = if (mdI s side i x0 v).1 = 0 then _ else _
        rw [if_pos d]
      · rw [if_pos (nI_ne0 (by omega) (by omega))]
        show _ = if (mdI s side i x0 v).1 = 0 then _ else _
        rw [if_neg d]
    · rw [if_pos c, if_neg c, if_pos rfl, if_pos rfl, nI_1]
      show x_X9_mended_110 N self45 v1 v4 (nI K) (nI side) (nI i) f (nI (mdI s side i x0 v).1 + nI 0) _ _ _ = _
      rw [nI_add]
      rfl
  · obtain ⟨a1, a2, a5⟩ := ha
    refine ⟨a.2.2, ?_, a5⟩
    show x_X9_mended_110 N self45 v1 v4 (nI K) (nI side) (nI i) (f + 1) a.1 a.2.1 (nI (mostS s side + 1)) a.2.2 = _
    rw [x_X9_mended_110_s, e1, mck_ok (vp_in_nI (by omega) (by decide)), nI_clamp (by omega), em _ a5, if_pos (nI_lt (by omega) (by omega)), nI_1, a1, a2]
theorem mm45 {N : Nat} {v1 : Int32} {s : Sh} {h : mH} (hN : 40 < N) (w : WS s) (m : MS h 85 0 s) : ∃ h', x_X9_mended_45 N v1 1 N 0 (-9) 0 h = some ((if ¬ v1 = 0 then (mdK s (sH s + sW s)).2 else nI (mdK s (sH s + sW s)).1), h') ∧ frX h h' := by
  have h4 := w.2.1
  have w5 := w.2.2.2.1
  have ms1 : ∀ x, frX h x → MS x 85 0 s := fun x f => m.congr (fun k => f.1 85 k (by decide))
  refine lpI (fun f (a : Int32 × Int32 × mH) j => x_X9_mended_45 N v1 1 f a.1 a.2.1 j a.2.2) (fun k a => a.1 = nI (mdK s k).1 ∧ a.2.1 = (mdK s k).2 ∧ frX h a.2.2) (fun o => ∃ h', o = some ((if ¬ v1 = 0 then (mdK s (sH s + sW s)).2 else nI (mdK s (sH s + sW s)).1), h') ∧ frX h h') (sH s + sW s) (fun f k a hk ha => ?_) (fun f a ha => ?_) N 0 (0, -9, h) (by omega) (by omega) ⟨by rw [mdK]; rfl, by rw [mdK], frX.refl⟩
  · obtain ⟨a1, a2, a5⟩ := ha
    have ma := ms1 _ a5
    have ew := ma.2.1
    rw [Nat.zero_add] at ew
    have hs : sdK s k < 2 := by unfold sdK; split <;> omega
    have hi : inK s k < cntS s (sdK s k) := by
      unfold inK sdK cntS
      by_cases c : k < sH s
      · simp [c]
      · simp [c]; omega
    have kl := mdK_le w k
    obtain ⟨h1, q1, q2⟩ := mm110 (N := N) (K := k) (v1 := v1) (v4 := 1) (self45 := x_X9_mended_45 N v1 1 f) (x0 := mdK s k) hN w hs hi (by omega) ma
    refine Or.inl ⟨(nI (mdK s (k + 1)).1, (mdK s (k + 1)).2, h1), ?_, rfl, rfl, a5.trans q2⟩
    show x_X9_mended_45 N v1 1 (f + 1) a.1 a.2.1 (nI k) a.2.2 = x_X9_mended_45 N v1 1 f (nI (mdK s (k + 1)).1) (mdK s (k + 1)).2 (nI (k + 1)) h1
    have es : (if nI (sH s) ≤ nI k then (1 : Int32) else 0) = nI (sdK s k) := by
      unfold sdK
      by_cases c : k < sH s
      · rw [if_neg (nI_ge c (by omega)), if_pos c]; rfl
      · rw [if_pos (nI_le (by omega) (by omega)), if_neg c]; rfl
    have ei : (if ¬ nI (sdK s k) = 0 then nI k - nI (sH s) else nI k) = nI (inK s k) := by
      unfold sdK inK
      by_cases c : k < sH s
      · rw [if_pos c, if_pos c, if_neg (by decide)]
      · rw [if_neg c, if_neg c, if_pos (by decide), pk_sub (by omega)]
    rw [x_X9_mended_45_s, ma.1, ew, nI_add, if_neg (nI_ge hk (by omega)), if_neg (by decide), mlet_eq, es, mlet_eq, ei, a1, a2, q1, mdK]
  · obtain ⟨a1, a2, a5⟩ := ha
    have ma := ms1 _ a5
    have ew := ma.2.1
    rw [Nat.zero_add] at ew
    refine ⟨a.2.2, ?_, a5⟩
    show x_X9_mended_45 N v1 1 (f + 1) a.1 a.2.1 (nI (sH s + sW s)) a.2.2 = _
    rw [x_X9_mended_45_s, ma.1, ew, nI_add, if_pos (nI_le (Nat.le_refl _) (by omega))]
    unfold x_X9_mended_221
    rw [a1, a2]
theorem S_mended {N t : Nat} {h : mH} {z : St} (hN : 1000 < N) (hw : WF z) (hc : IC t h z) (hm : IM h z) (a : Int32) : GW t (xcW (x_X8_mended N a h) (fun h1 => x_X9_mended N a h1)) := by
  have w := hw.2.1.1
  have h4 := w.2.1
  have w5 := w.2.2.2.1
  have w1 := w.2.2.1
  have F0 : ∀ h1, frM h1 (msi h1 82 0 0) := fun h1 => frM_i (by decide)
  rcases side_cases a with ⟨v, hv, rfl⟩ | ⟨n0, n1, na⟩
  · have hcl : ∃ k, k < 1 + 1 ∧ nI v = nI k := ⟨v, hv, rfl⟩
    refine ok_W (r := if tst z.2.1 = -9 then (if ¬ nI v = 0 then -9 else 0) else (if ¬ nI v = 0 then (mdK z.2.1 (sH z.2.1 + sW z.2.1)).2 else nI (mdK z.2.1 (sH z.2.1 + sW z.2.1)).1)) (z' := z) hm hw ?_ (fun h1 hm1 => ?_)
    · obtain ⟨h2, f1, f2⟩ := failsAt_eq (N := N) (by omega) w (by decide) hc.2.1
      have hd : x_X8_mended N (nI v) h = x_X8_mended_12 N (nI v) h := by
        unfold x_X8_mended
        rcases (by omega : v = 0 ∨ v = 1) with q | q
        · subst q; rw [if_pos (by decide)]
        · subst q; rw [if_neg (by decide), if_pos (by decide)]
      rw [hd]
      unfold x_X8_mended_12
      rw [f1, Option.bind_some]
      by_cases c : tst z.2.1 = -9
      · rw [if_neg (not_not_intro c), if_pos c]
        exact ⟨h2, rfl, IC.next (hc.scr' (fun b k hb => f2.1 b k (by unfold icb at hb; omega)) f2.2), fun b hb => ⟨fun k => f2.1 b k (by omega), fun k => f2.2 b k⟩⟩
      · rw [if_pos c, if_neg c]
        obtain ⟨h3, b1, b2, b3⟩ := become_eq (t := 9) (p := 2) w (by omega) (f2.cs (by decide) hc.2.1)
        obtain ⟨h5, d1, d2⟩ := cm67 (N := N) (v1 := nI v) (by omega) w b2
        have ft := f2.frW.trans (b3.frW.trans d2)
        rw [b1, Option.bind_some]
        exact ⟨h5, d1, IC.next (hc.scr' (fun b k hb => ft.1 b k (by unfold icb at hb; omega) (by unfold icb at hb; omega)) ft.2), fun b hb => ⟨fun k => ft.1 b k (by omega) (by omega), fun k => ft.2 b k⟩⟩
    · have i1 := hm1.thr 0
      have ms := i1.2.1
      have ew := ms.2.1
      rw [Nat.zero_add] at ew
      unfold x_X9_mended
      simp only [mlet_eq]
      rw [show (1 : Int64) = (nI 1).toInt64 by decide, inN _ (by decide), Option.bind_some, if_pos hcl, if_pos (by decide), tested_eq (by omega) w ms, Option.bind_some]
      by_cases c : tst z.2.1 = -9
      · refine ⟨_, ?_, i1, F0 h1⟩
        rw [if_pos c, if_pos c]
        obtain ⟨M, hM⟩ : ∃ M, N = M + 1 := ⟨N - 1, by omega⟩
        have st : ∀ K, x_X9_mended_45 K (nI v) 0 (M + 1) 0 (-9) 0 (msi h1 82 0 0) = some ((if ¬ nI v = 0 then -9 else 0), msi h1 82 0 0) := fun K => by
          rw [x_X9_mended_45_s, ms.1, ew, nI_add, if_neg (show ¬ nI (sH z.2.1 + sW z.2.1) ≤ 0 from nI_nle (by omega) (by omega)), if_pos rfl]
          rfl
        have := st N
        rw [← hM] at this
        exact this
      · obtain ⟨h3, d1, d2⟩ := mm45 (N := N) (v1 := nI v) (by omega) w ms
        refine ⟨h3, ?_, i1.scr (fun b hb k => d2.1 b k (by omega)) (fun k _ => d2.1 82 k (by omega)) (fun k => d2.2 82 k), (F0 h1).trans (fun b hb => ⟨fun k => d2.1 b k (by omega), fun k => d2.2 b k⟩)⟩
        rw [if_neg c, if_neg c]
        exact d1
  · refine ok_W (r := -2) (z' := z) hm hw ⟨h, ?_, hc.next, frC.rfl⟩ (fun h1 hm1 => ⟨_, ?_, hm1.thr 0, F0 h1⟩)
    · unfold x_X8_mended
      rw [if_neg n0, if_neg n1]
    · unfold x_X9_mended
      simp only [mlet_eq]
      rw [show (1 : Int64) = (nI 1).toInt64 by decide, inN _ (by decide), Option.bind_some, if_neg na, if_neg (by decide)]
