/-! the class reads totals -/
def gS (s : Sh) : Prop := WS s ∧ s.2 = none ∧ ∀ k, k < sN s → sP s k = 0
def RT (x : mH) (s : Sh) (k : Nat) : Prop := mgi x 17 0 = nI (sH s) ∧ mgi x 17 1 = nI (sW s) ∧ (∀ r, r < sH s → r < k → mgi x 18 r = nI (sR s r)) ∧ ∀ c, c < sW s → sH s + c < k → mgi x 19 c = nI (sC s c)
theorem sdK_of {s : Sh} {side i : Nat} (hs : side < 2) (hi : i < cntS s side) : sdK s (ofK s side + i) = side ∧ inK s (ofK s side + i) = i ∧ ofK s side + i < sH s + sW s := by
  unfold sdK inK ofK
  unfold cntS at hi
  by_cases c : side = 0
  · rw [if_pos c] at hi ⊢
    rw [if_pos (by omega), if_pos (by omega)]
    omega
  · rw [if_neg c] at hi ⊢
    rw [if_neg (by omega), if_neg (by omega)]
    omega
theorem rawCnt {x : mH} {s : Sh} {k side : Nat} (rt : RT x s k) (hs : side < 2) : x_X6_totalCount 17 (nI side) x = some (nI (cntS s side)) ∧ x_X6_mostTotal 17 (nI side) x = some (nI (mostS s side)) := by
  unfold x_X6_totalCount x_X6_mostTotal cntS mostS
  rw [rt.1, rt.2.1]
  rcases (by omega : side = 0 ∨ side = 1) with c | c
  · subst c; exact ⟨rfl, rfl⟩
  · subst c; exact ⟨rfl, rfl⟩
theorem rawPut {x : mH} {s : Sh} {k side i v : Nat} (w : WS s) (rt : RT x s k) (hs : side < 2) (hi : i < cntS s side) : x_X6_putTotal 17 (nI side) (nI i) (nI v) x = some (msi x (18 + side) i (nI v)) := by
  have n5 := cntS_le w side
  have h4 := w.2.1
  unfold x_X6_putTotal
  unfold cntS at hi
  rcases (by omega : side = 0 ∨ side = 1) with c | c
  · subst c
    rw [if_pos rfl] at hi
    rw [if_neg (by decide), if_neg (nI_pos (by omega)), if_neg (show ¬ (4 : Int32) ≤ nI i from nI_ge (b := 4) (by omega) (by decide)), mck_ok (vp_in_nI (by omega) (by decide)), nI_clamp (by omega)]
    rfl
  · subst c
    rw [if_neg (by decide)] at hi
    have w5 := w.2.2.2.1
    rw [if_pos (by decide), if_neg (nI_pos (by omega)), if_neg (show ¬ (5 : Int32) ≤ nI i from nI_ge (b := 5) (by omega) (by decide)), mck_ok (vp_in_nI (by omega) (by decide)), nI_clamp (by omega)]
    rfl
theorem gS_tot {s : Sh} {side i v : Nat} (g : gS s) (hs : side < 2) (hi : i < cntS s side) (hv : v ≤ mostS s side) : gS (spT s (slotS side i) v) := by
  have n5 := cntS_le g.1 side
  refine ⟨WS_tot g.1 hs hi hv, g.2.1, fun k hk => ?_⟩
  rw [spT_N (slot_2 side i)] at hk
  have w5 := g.1.2.2.2.1
  have h4 := g.1.2.1
  rw [spT_P, if_neg]
  · exact g.2.2 k hk
  · unfold slotS
    unfold cntS at hi
    rcases (by omega : side = 0 ∨ side = 1) with c | c
    · subst c; rw [if_pos rfl] at hi ⊢; omega
    · subst c; rw [if_neg (by decide)] at hi ⊢; omega
theorem RT_tot {x : mH} {s : Sh} {side i v : Nat} (w : WS s) (rt : RT x s (ofK s side + i)) (hs : side < 2) (hi : i < cntS s side) : RT (msi x (18 + side) i (nI v)) (spT s (slotS side i) v) (ofK s side + i + 1) := by
  have s2 := slot_2 side i
  have h4 := w.2.1
  have w5 := w.2.2.2.1
  unfold RT
  rw [spT_H s2, spT_W s2]
  obtain ⟨r1, r2, r3, r4⟩ := rt
  rcases (by omega : side = 0 ∨ side = 1) with c | c
  · subst c
    have hi' : i < sH s := hi
    have e0 : ofK s 0 = 0 := rfl
    rw [e0] at r3 r4 ⊢
    refine ⟨by rw [mgi_msi, if_neg (by omega)]; exact r1, by rw [mgi_msi, if_neg (by omega)]; exact r2, fun r hr hk => ?_, fun c hc hk => by omega⟩
    rw [mgi_msi, spT_R, show slotS 0 i = 2 + i from rfl]
    by_cases d : r = i
    · rw [if_pos ⟨rfl, d⟩, if_pos (by omega)]
    · rw [if_neg (fun q => d q.2), if_neg (by omega)]
      exact r3 r hr (by omega)
  · subst c
    have hi' : i < sW s := hi
    have e0 : ofK s 1 = sH s := rfl
    rw [e0] at r3 r4 ⊢
    refine ⟨by rw [mgi_msi, if_neg (by omega)]; exact r1, by rw [mgi_msi, if_neg (by omega)]; exact r2, fun r hr hk => ?_, fun c hc hk => ?_⟩
    · rw [mgi_msi, if_neg (by omega), spT_R, show slotS 1 i = 6 + i from rfl, if_neg (by omega)]
      exact r3 r hr (by omega)
    · rw [mgi_msi, spT_C, show slotS 1 i = 6 + i from rfl]
      by_cases d : c = i
      · rw [if_pos ⟨rfl, d⟩, if_pos (by omega)]
      · rw [if_neg (fun q => d q.2), if_neg (by omega)]
        exact r4 c hc (by omega)
theorem ResC.tr {h h1 : mH} {o : Option (Int32 × mH)} {x : Int32 × Sh} (f : frK h h1) (r : ResC h1 o x) : ResC h o x := by
  obtain ⟨h', a, b, c⟩ := r
  exact ⟨h', a, f.trans b, c⟩
theorem c79 {N side : Nat} {T : List Int32} {self72 : Int32 → Int32 → mH → Option (Int32 × mH)} (hT : T.length ≤ 40) (hs : side < 2) (cont : ∀ (s : Sh) (x : mH), gS s → RT x s (ofK s side + cntS s side) → txC x T → ResC x (self72 (nI (3 + (ofK s side + cntS s side))) (nI (side + 1)) x) (rdT T (sH s + sW s - (ofK s side + cntS s side)) s (ofK s side + cntS s side))) : ∀ (d i g : Nat) (s : Sh) (x : mH), i + d = cntS s side → d < g → gS s → RT x s (ofK s side + i) → txC x T → ResC x (x_X4_readSheet_79 N self72 (nI side) g (nI (3 + (ofK s side + i))) (nI i) x) (rdT T (sH s + sW s - (ofK s side + i)) s (ofK s side + i)) := by
  intro d
  induction d with
  | zero =>
    intro i g s x hi hg gs rt tx
    obtain ⟨g, rfl⟩ : ∃ e, g = e + 1 := ⟨g - 1, by omega⟩
    have n5 := cntS_le gs.1 side
    have ei : i = cntS s side := by omega
    rw [x_X4_readSheet_79_s, (rawCnt rt hs).1, Option.bind_some, if_pos (nI_le (by omega) (by omega)), nI_1, ei]
    rw [ei] at rt
    exact cont s x gs rt tx
  | succ d ih =>
    intro i g s x hi hg gs rt tx
    obtain ⟨g, rfl⟩ : ∃ e, g = e + 1 := ⟨g - 1, by omega⟩
    have n5 := cntS_le gs.1 side
    have m5 := mostS_le gs.1 side
    have h4 := gs.1.2.1
    have w5 := gs.1.2.2.2.1
    have hi' : i < cntS s side := by omega
    obtain ⟨k1, k2, k3⟩ := sdK_of hs hi'
    rw [x_X4_readSheet_79_s, (rawCnt rt hs).1, Option.bind_some, if_neg (nI_ge hi' (by omega)), (rawCnt rt hs).2, Option.bind_some, figureAt0 hT tx (by omega) (by omega), Option.bind_some]
    obtain ⟨rem, hrem⟩ : ∃ e, sH s + sW s - (ofK s side + i) = e + 1 := ⟨sH s + sW s - (ofK s side + i) - 1, by omega⟩
    rw [hrem, rdT, k1, k2]
    cases e1 : figO T (3 + (ofK s side + i)) 0 (mostS s side) with
    | none => exact ⟨x, rfl, frK.refl, fun q => absurd q (nI_n9 (by omega))⟩
    | some v =>
      obtain ⟨-, v2, -, -⟩ := figO_some e1
      have s2 := slot_2 side i
      show ResC x (if ¬ nI v = -9 then _ else _) (rdT T rem (spT s (slotS side i) v) (ofK s side + i + 1))
      rw [if_pos (nI_n9 (by omega)), figI_some, rawPut gs.1 rt hs hi', Option.bind_some, nI_1, nI_1]
      have eo : ofK (spT s (slotS side i) v) side = ofK s side := by unfold ofK; rw [spT_H s2]
      have fk : frK x (msi x (18 + side) i (nI v)) := frK_i (by omega)
      have R := ih (i + 1) g (spT s (slotS side i) v) (msi x (18 + side) i (nI v)) (by rw [cntS_sp _ _ _ _ s2]; omega) (by omega) (gS_tot gs hs hi' v2) (by rw [eo, ← Nat.add_assoc]; exact RT_tot gs.1 rt hs hi') (fk.tx tx)
      rw [eo, spT_H s2, spT_W s2] at R
      have er : sH s + sW s - (ofK s side + (i + 1)) = rem := by omega
      rw [er] at R
      exact R.tr fk
theorem cmask_z {f : Nat → Bool} : ∀ {n : Nat}, (∀ k, k < n → f k = false) → cmask f n = 0
  | 0, _ => rfl
  | n + 1, h => by rw [cmask, cmask_z (fun k hk => h k (by omega)), h n (by omega)]; rfl
theorem c72_2 {N f : Nat} {T : List Int32} {s : Sh} {x : mH} (hN : 100 < N) (hT : T.length ≤ 40) (gs : gS s) (rt : RT x s (sH s + sW s)) (tx : txC x T) : ResC x (x_X4_readSheet_72 N (f + 1) (nI (3 + (sH s + sW s))) (nI 2) x) (rdT T 0 s (sH s + sW s)) := by
  have h4 := gs.1.2.1
  have w5 := gs.1.2.2.2.1
  rw [x_X4_readSheet_72_s, if_pos (by decide), rdT]
  unfold x_X4_readPins
  simp only [mlet_eq]
  have cp : CP (msi (msi x 17 4 0) 17 5 0) s := by
    obtain ⟨r1, r2, r3, r4⟩ := rt
    refine ⟨?_, ?_, fun r hr => ?_, fun c hc => ?_, ?_, ?_, ?_⟩
    · rw [mgi_msi, if_neg (by omega), mgi_msi, if_neg (by omega), mgi_msi, if_neg (by omega)]; exact r1
    · rw [mgi_msi, if_neg (by omega), mgi_msi, if_neg (by omega), mgi_msi, if_neg (by omega)]; exact r2
    · rw [mgi_msi, if_neg (by omega), mgi_msi, if_neg (by omega), mgi_msi, if_neg (by omega)]; exact r3 r hr (by omega)
    · rw [mgi_msi, if_neg (by omega), mgi_msi, if_neg (by omega), mgi_msi, if_neg (by omega)]; exact r4 c hc (by omega)
    · rw [mgi_msi, if_neg (by omega), mgi_msi, if_neg (by omega), mgi_msi, if_pos ⟨rfl, rfl⟩, cmask_z (fun k hk => by rw [gs.2.2 k hk]; rfl)]
      rfl
    · rw [mgi_msi, if_neg (by omega), mgi_msi, if_pos ⟨rfl, rfl⟩, cmask_z (fun k hk => by rw [gs.2.2 k hk]; rfl)]
      rfl
    · rw [mgi_msi, if_pos ⟨rfl, rfl⟩, plC_none gs.2.1]
  have fk : frK x (msi (msi x 17 4 0) 17 5 0) := (frK_i (by omega)).trans (frK_i (by omega))
  obtain ⟨h', e1, e2, e3⟩ := crdP (N := N) hT 40 N (3 + (sH s + sW s)) s _ (by omega) (by omega) (by omega) (fk.tx tx) gs.1 gs.2.1 cp
  refine ⟨h', ?_, fk.trans e2, e3⟩
  rw [e1]
  rfl
theorem c72_1 {N f : Nat} {T : List Int32} {s : Sh} {x : mH} (hN : 100 < N) (hT : T.length ≤ 40) (gs : gS s) (rt : RT x s (sH s)) (tx : txC x T) : ResC x (x_X4_readSheet_72 N (f + 1 + 1) (nI (3 + sH s)) (nI 1) x) (rdT T (sW s) s (sH s)) := by
  have h4 := gs.1.2.1
  have w5 := gs.1.2.2.2.1
  rw [x_X4_readSheet_72_s, if_neg (by decide)]
  have R := c79 (N := N) (side := 1) (self72 := x_X4_readSheet_72 N (f + 1)) hT (by decide) (fun s x gs rt tx => by
    have e : ofK s 1 + cntS s 1 = sH s + sW s := rfl
    rw [e] at rt ⊢
    rw [Nat.sub_self]
    exact c72_2 hN hT gs rt tx) (sW s) 0 N s x (by rw [Nat.zero_add]; rfl) (by omega) gs rt tx
  have e2 : sH s + sW s - (ofK s 1 + 0) = sW s := by show sH s + sW s - (sH s + 0) = sW s; omega
  rw [e2] at R
  exact R
theorem c72_0 {N f : Nat} {T : List Int32} {s : Sh} {x : mH} (hN : 100 < N) (hT : T.length ≤ 40) (gs : gS s) (rt : RT x s 0) (tx : txC x T) : ResC x (x_X4_readSheet_72 N (f + 1 + 1 + 1) 3 0 x) (rdT T (sH s + sW s) s 0) := by
  have h4 := gs.1.2.1
  have w5 := gs.1.2.2.2.1
  rw [x_X4_readSheet_72_s, if_neg (by decide)]
  have R := c79 (N := N) (side := 0) (self72 := x_X4_readSheet_72 N (f + 1 + 1)) hT (by decide) (fun s x gs rt tx => by
    have e : ofK s 0 + cntS s 0 = sH s := by show 0 + sH s = sH s; omega
    rw [e] at rt ⊢
    rw [Nat.add_sub_cancel_left]
    exact c72_1 hN hT gs rt tx) (sH s) 0 N s x (by rw [Nat.zero_add]; rfl) (by omega) gs rt tx
  exact R
theorem sh0_z (h w i : Nat) (hi : 2 ≤ i) : (sh0 h w).1 i = 0 := by
  show (if i = 0 then h else if i = 1 then w else 0) = 0
  rw [if_neg (by omega), if_neg (by omega)]
theorem sh0_P (h w k : Nat) : sP (sh0 h w) k = 0 := sh0_z h w _ (by omega)
theorem gS_0 {h w : Nat} (h1 : 1 ≤ h) (h4 : h ≤ 4) (w1 : 1 ≤ w) (w5 : w ≤ 5) : gS (sh0 h w) := by
  refine ⟨⟨h1, h4, w1, w5, fun r _ => ?_, fun c _ => ?_, fun k _ => ?_, ?_⟩, rfl, fun k _ => sh0_P h w k⟩
  · rw [show sR (sh0 h w) r = 0 from sh0_z h w _ (by omega)]; exact Nat.zero_le _
  · rw [show sC (sh0 h w) c = 0 from sh0_z h w _ (by omega)]; exact Nat.zero_le _
  · rw [sh0_P]; exact Nat.zero_le _
  · have : fb_ct (fun k => sP (sh0 h w) k != 0) (sN (sh0 h w)) = 0 := fb_ct_zero.mpr fun k _ => by rw [sh0_P]; rfl
    omega
theorem mgi_same (h : mH) (a k : Nat) (v : Int32) : mgi (msi h a k v) a k = v := by rw [mgi_msi, if_pos ⟨rfl, rfl⟩]
theorem crdS {N : Nat} {T : List Int32} {h : mH} (hN : 100 < N) (hT : T.length ≤ 40) (tx : txC h T) : ResC h (x_X4_readSheet N h) (rdS T) := by
  unfold x_X4_readSheet rdS
  have l0 : x_X4_letterAt 0 h = some (if 0 < T.length then T.getD 0 0 else -9) := letterAt_eq (k := 0) hT tx (by decide)
  rw [l0, Option.bind_some]
  by_cases c : T.length = 0 ∨ ¬ T.getD 0 0 = 80
  · rw [if_pos c, if_neg]
    · exact ⟨h, rfl, frK.refl, fun q => absurd q (show ¬ (0 : Int32) = -9 by decide)⟩
    · rcases c with c | c
      · rw [if_neg (by omega)]; decide
      · by_cases d : 0 < T.length
        · rw [if_pos d]; exact c
        · rw [if_neg d]; decide
  · have c0 : 0 < T.length := by
      rcases Nat.eq_zero_or_pos T.length with q | q
      · exact absurd (Or.inl q) c
      · exact q
    have c1 : T.getD 0 0 = 80 := Classical.byContradiction fun q => c (Or.inr q)
    rw [if_neg c, if_pos (by rw [if_pos c0]; exact c1)]
    have f1 : x_X4_figureAt 1 1 4 h = some (figI (figO T 1 1 4)) := figureAt_eq (k := 1) (a := 1) (b := 4) hT tx (by decide) (by decide) (by decide)
    rw [f1, Option.bind_some, mlet_eq, mgi_same]
    cases e1 : figO T 1 1 4 with
    | none => exact ⟨_, rfl, frK_i (by omega), fun q => absurd q (show ¬ (1 : Int32) = -9 by decide)⟩
    | some H =>
      obtain ⟨H1, H4, -, -⟩ := figO_some e1
      have tx1 : txC (msi h 17 0 (nI H)) T := (frK_i (h := h) (a := 17) (by omega)).tx tx
      have f2 : x_X4_figureAt 2 1 5 (msi h 17 0 (nI H)) = some (figI (figO T 2 1 5)) := figureAt_eq (k := 2) (a := 1) (b := 5) hT tx1 (by decide) (by decide) (by decide)
      show ResC h (if ¬ nI H = -9 then (x_X4_figureAt 2 1 5 (msi h 17 0 (nI H))).bind _ else _) _
      rw [if_pos (nI_n9 (by omega)), f2, Option.bind_some, mlet_eq, mgi_same]
      cases e2 : figO T 2 1 5 with
      | none => exact ⟨_, rfl, (frK_i (by omega)).trans (frK_i (by omega)), fun q => absurd q (show ¬ (2 : Int32) = -9 by decide)⟩
      | some W =>
        obtain ⟨W1, W5, -, -⟩ := figO_some e2
        have gs := gS_0 H1 H4 W1 W5
        have fk : frK h (msi (msi h 17 0 (nI H)) 17 1 (nI W)) := (frK_i (by omega)).trans (frK_i (by omega))
        show ResC h (if ¬ nI W = -9 then x_X4_readSheet_72 N N 3 0 (msi (msi h 17 0 (nI H)) 17 1 (nI W)) else _) (rdT T (H + W) (sh0 H W) 0)
        rw [if_pos (nI_n9 (by omega))]
        obtain ⟨M, rfl⟩ : ∃ M, N = M + 1 + 1 + 1 := ⟨N - 3, by omega⟩
        exact (c72_0 hN hT gs ⟨by rw [mgi_msi, if_neg (by omega), mgi_msi, if_pos ⟨rfl, rfl⟩]; rfl, by rw [mgi_msi, if_pos ⟨rfl, rfl⟩]; rfl, fun r _ hr => by omega, fun c _ hc => by omega⟩ (fk.tx tx)).tr fk
