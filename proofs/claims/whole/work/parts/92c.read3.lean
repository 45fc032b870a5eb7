/-! the model reads -/
def MP (h : mH) (s : Sh) : Prop := MS h 84 0 (s.1, some 0)
def frJ (h h' : mH) : Prop := (∀ b k, b ≠ 84 → mgi h' b k = mgi h b k) ∧ ∀ b k, mgl h' b k = mgl h b k
theorem frJ.refl {h : mH} : frJ h h := ⟨fun _ _ _ => rfl, fun _ _ => rfl⟩
theorem frJ.trans {h h1 h2 : mH} (a : frJ h h1) (b : frJ h1 h2) : frJ h h2 := ⟨fun c k x => (b.1 c k x).trans (a.1 c k x), fun c k => (b.2 c k).trans (a.2 c k)⟩
theorem frJ.tx {h h' : mH} {T : List Int32} (f : frJ h h') (t : txM h T) : txM h' T := ⟨by rw [f.1 82 2 (by omega)]; exact t.1, fun k hk => by rw [f.1 83 k (by omega)]; exact t.2 k hk⟩
theorem frJ_i {h : mH} {k : Nat} {v : Int32} : frJ h (msi h 84 k v) := ⟨fun b j hb => by rw [mgi_msi, if_neg (by omega)], fun _ _ => rfl⟩
theorem MP.set {h : mH} {j v : Nat} {s : Sh} (w : WS s) (m : MP h s) (h2 : 2 ≤ j) (h3 : j < 31) : MP (msi h 84 j (nI v)) (spT s j v) := MS.set (s := (s.1, some 0)) w m h2 h3
theorem MP.h {h : mH} {s : Sh} (m : MP h s) : mgi h 84 0 = nI (sH s) ∧ mgi h 84 1 = nI (sW s) := by
  have a := m.2.1
  rw [Nat.zero_add] at a
  exact ⟨m.1, a⟩
theorem MP.pin {h : mH} {s : Sh} {k : Nat} (m : MP h s) (hk : k < sN s) : mgi h 84 (11 + k) = nI (sP s k) := by
  have := m.2.2.2.2.1 k hk
  rwa [Nat.zero_add] at this
theorem figure0 {h : mH} {T : List Int32} {k b : Nat} (hT : T.length ≤ 40) (tx : txM h T) (hk : k < 2 ^ 31) (hb : b < 2 ^ 31) : x_X9_figure (nI k) 0 (nI b) h = some (figI (figO T k 0 b)) := figure_eq (a := 0) hT tx hk hb (Nat.zero_le _)
theorem mfull {N r : Nat} {h : mH} {s : Sh} (hN : 40 < N) (w : WS s) (m : MP h s) (hr : r < sH s) : x_X9_isFullRow N 84 (nI r) h = some (b2i (fuR s r)) := by
  have w5 := w.2.2.2.1
  have n20 := w.n20
  unfold x_X9_isFullRow
  refine lpV (fun f (x : Int32) i => x_X9_isFullRow_4 N 84 (nI r) h f x i) (fun j => b2i (decide (fb_ct (fun c => sP s (sW s * r + c) != 0) j = j))) (sW s) _ (fun f j hj => ?_) (fun f => ?_) (by omega)
  · show x_X9_isFullRow_4 N 84 (nI r) h (f + 1) (b2i (decide (fb_ct (fun c => sP s (sW s * r + c) != 0) j = j))) (nI j) = x_X9_isFullRow_4 N 84 (nI r) h f (b2i (decide (fb_ct (fun c => sP s (sW s * r + c) != 0) (j + 1) = j + 1))) (nI (j + 1))
    have kc := cell_lt hr hj
    have cl : fb_ct (fun c => sP s (sW s * r + c) != 0) j ≤ j := fb_ct_le _ _
    have pl := w.2.2.2.2.2.2.1 _ kc
    rw [x_X9_isFullRow_4_s, m.h.2, if_neg (nI_ge hj (by omega)), fb_ct_succ]
    unfold x_X9_isFullRow_34 x_X9_isFullRow_35
    by_cases c : fb_ct (fun c => sP s (sW s * r + c) != 0) j = j
    · have c1 : decide (fb_ct (fun c => sP s (sW s * r + c) != 0) j = j) = true := by simp [c]
      rw [c1, if_neg (by decide), four_ix, mck_ok (vp_in_nI (by omega) (by decide)), nI_clamp (by omega), m.pin kc, mlet_eq, nI_1]
      congr 1
      by_cases d : sP s (sW s * r + j) = 0
      · rw [d, if_pos (by decide)]
        have e1 : decide (fb_ct (fun c => sP s (sW s * r + c) != 0) j + (if (0 != 0) = true then 1 else 0) = j + 1) = false := by simp [c]
        rw [e1]
        rfl
      · have e2 : (sP s (sW s * r + j) != 0) = true := by simp [d]
        rw [if_neg (nI_nle (by omega) (by omega)), e2]
        have e1 : decide (fb_ct (fun c => sP s (sW s * r + c) != 0) j + (if true = true then 1 else 0) = j + 1) = true := by simp [c]
        rw [e1]
        rfl
    · have c1 : decide (fb_ct (fun c => sP s (sW s * r + c) != 0) j = j) = false := by simp [c]
      have c2 : decide (fb_ct (fun c => sP s (sW s * r + c) != 0) j + (if (sP s (sW s * r + j) != 0) = true then 1 else 0) = j + 1) = false := by
        rw [decide_eq_false_iff_not]
        split <;> omega
      rw [c1, c2, if_pos (show b2i false = 0 from rfl), nI_1]
      rfl
  · show x_X9_isFullRow_4 N 84 (nI r) h (f + 1) _ (nI (sW s)) = _
    rw [x_X9_isFullRow_4_s, m.h.2, if_pos (nI_le (Nat.le_refl _) (by omega))]
    unfold mzc
    show (if b2i (fuR s r) = 0 ∨ b2i (fuR s r) = 1 then some (b2i (fuR s r)) else none) = _
    cases fuR s r <;> rfl
def ResM (h : mH) (o : Option (Int32 × mH)) (x : Int32 × Sh) : Prop := ∃ h', o = some (x.1, h') ∧ frJ h h' ∧ (x.1 = -9 → MP h' x.2 ∧ WS x.2 ∧ x.2.2 = none)
theorem ResM.tr {h h1 : mH} {o : Option (Int32 × mH)} {x : Int32 × Sh} (f : frJ h h1) (r : ResM h1 o x) : ResM h o x := by
  obtain ⟨h', a, b, c⟩ := r
  exact ⟨h', a, f.trans b, c⟩
theorem mrdP {N : Nat} {T : List Int32} (hN : 40 < N) (hT : T.length ≤ 40) : ∀ (j f k : Nat) (s : Sh) (h : mH), j < f → T.length < k + 3 * j → k ≤ 100 → txM h T → WS s → s.2 = none → MP h s → ResM h (x_X9_readPins_2 N f (nI k) h) (rdP T j s k) := by
  intro j
  induction j with
  | zero =>
    intro f k s h hf hl hk tx w p cp
    obtain ⟨f, rfl⟩ : ∃ e, f = e + 1 := ⟨f - 1, by omega⟩
    refine ⟨h, ?_, frJ.refl, fun _ => ⟨cp, w, p⟩⟩
    rw [x_X9_readPins_2_s, tx.1, if_pos (nI_le (by omega) (by omega))]
    rfl
  | succ j ih =>
    intro f k s h hf hl hk tx w p cp
    obtain ⟨f, rfl⟩ : ∃ e, f = e + 1 := ⟨f - 1, by omega⟩
    have n20 := w.n20
    have h1 := w.1
    have h4 := w.2.1
    have w1 := w.2.2.1
    have w5 := w.2.2.2.1
    have n6 : pinN s ≤ 6 := w.2.2.2.2.2.2.2
    have pl := pinN_le s
    rw [x_X9_readPins_2_s, tx.1, rdP]
    by_cases c1 : T.length ≤ k
    · rw [if_pos (nI_le c1 (by omega)), if_pos c1]
      exact ⟨h, rfl, frJ.refl, fun _ => ⟨cp, w, p⟩⟩
    have pe : x_X9_pinned N 84 h = some (nI (pinN s)) := pinned_eq (s := (s.1, some 0)) hN w cp
    rw [if_neg (nI_ge (by omega) (by omega)), if_neg c1, mck_ok (vp_in_nI (by omega) (by decide)), nI_clamp (by omega), tx.2 k (by omega), mlet_eq, pe, Option.bind_some, mck_ok (vp_in_nI (by omega) (by decide))]
    have body : ∀ y : Int32, y = (if T.getD k 0 = 111 then 1 else 0) → ResM h (x_X9_readPins_51 N (x_X9_readPins_2 N f) (nI k) y (nI (pinN s)) h) (if pinN s = 6 ∨ pinN s = sN s then (nI k, s) else (figO T (k + 1) 0 (sH s - 1)).elim (nI (k + 1), s) fun r => if fuR s r = true then (nI (k + 1), s) else (figO T (k + 2) 0 (sW s - 1)).elim (nI (k + 2), s) fun c => if sP s (sW s * r + c) = 0 then rdP T j (spT s (11 + (sW s * r + c)) (if T.getD k 0 = 111 then 1 else 2)) (k + 3) else (nI (k + 2), s)) := fun y hy => by
      have bad : ∀ n, n < 2 ^ 31 → ResM h (some (nI n, h)) (nI n, s) := fun n hn => ⟨h, rfl, frJ.refl, fun q => absurd q (nI_n9 hn)⟩
      have ce : x_X9_cells 84 h = some (nI (sN s)) := cells_eq (s := (s.1, some 0)) cp
      unfold x_X9_readPins_51
      by_cases a1 : pinN s = 6
      · rw [if_pos (show nI (pinN s) = (6 : Int32) from by rw [a1]; rfl), if_pos (Or.inl a1)]
        exact bad k (by omega)
      rw [if_neg (show ¬ nI (pinN s) = (6 : Int32) from fun q => a1 ((nI_eq (b := 6) (by omega) (by decide)).mp q)), ce, Option.bind_some]
      by_cases a2 : pinN s = sN s
      · rw [if_neg (not_not_intro (by rw [a2])), if_pos (Or.inr a2)]
        exact bad k (by omega)
      rw [if_pos (fun q => a2 ((nI_eq (by omega) (by omega)).mp q)), if_neg (show ¬ (pinN s = 6 ∨ pinN s = sN s) from fun q => q.elim a1 a2), nI_1, cp.h.1, show nI (sH s) - 1 = nI (sH s - 1) from by obtain ⟨m, hm⟩ : ∃ m, sH s = m + 1 := ⟨sH s - 1, by omega⟩; rw [hm, nI_pred]; rfl, figure0 hT tx (by omega) (by omega), Option.bind_some]
      cases e1 : figO T (k + 1) 0 (sH s - 1) with
      | none => exact bad (k + 1) (by omega)
      | some r =>
        obtain ⟨-, r2, -, -⟩ := figO_some e1
        have hr : r < sH s := by omega
        show ResM h (if nI r = -9 then _ else (x_X9_isFullRow N 84 (nI r) h).bind _) (if fuR s r = true then (nI (k + 1), s) else _)
        rw [if_neg (nI_n9 (by omega)), mfull hN w cp hr, Option.bind_some]
        by_cases a3 : fuR s r = true
        · rw [a3, if_neg (by decide), if_pos rfl]
          exact bad (k + 1) (by omega)
        have a3' : fuR s r = false := by simpa using a3
        rw [a3', if_pos (show b2i false = 0 from rfl), if_neg (show ¬ false = true by decide), nI_2, cp.h.2, show nI (sW s) - 1 = nI (sW s - 1) from by obtain ⟨m, hm⟩ : ∃ m, sW s = m + 1 := ⟨sW s - 1, by omega⟩; rw [hm, nI_pred]; rfl, figure0 hT tx (by omega) (by omega), Option.bind_some]
        cases e3 : figO T (k + 2) 0 (sW s - 1) with
        | none => exact bad (k + 2) (by omega)
        | some c =>
          obtain ⟨-, c2, -, -⟩ := figO_some e3
          have hc : c < sW s := by omega
          have kc := cell_lt hr hc
          have pk := w.2.2.2.2.2.2.1 _ kc
          show ResM h (if nI c = -9 then _ else mck ((11 + nI (sW s) * nI r) + nI c) 32 _) (if sP s (sW s * r + c) = 0 then _ else _)
          rw [if_neg (nI_n9 (by omega)), figI_some, figI_some, four_ix, mck_ok (vp_in_nI (by omega) (by decide)), nI_clamp (by omega), cp.pin kc]
          by_cases a4 : sP s (sW s * r + c) = 0
          · have ev : (if y = 0 then 2 else (1 : Int32)) = nI (if T.getD k 0 = 111 then 1 else 2) := by
              rw [hy]
              by_cases q : T.getD k 0 = 111
              · rw [if_pos q, if_pos q]; rfl
              · rw [if_neg q, if_neg q]; rfl
            have mp := cp.set (v := if T.getD k 0 = 111 then 1 else 2) w (show 2 ≤ 11 + (sW s * r + c) by omega) (by omega)
            rw [if_pos (by rw [a4]; decide), if_pos a4, mck_ok (vp_in_nI (by omega) (by decide)), mlet_eq, ev, nI_3]
            exact (ih f (k + 3) (spT s (11 + (sW s * r + c)) (if T.getD k 0 = 111 then 1 else 2)) _ (by omega) (by omega) (by omega) (frJ_i.tx tx) (WS_pin w kc (by split <;> omega) (Or.inr (Or.inr (by omega)))) p mp).tr frJ_i
          · rw [if_neg (nI_nle (by omega) (by omega)), if_neg a4]
            exact bad (k + 2) (by omega)
    by_cases c2 : T.getD k 0 = 111
    · rw [if_neg (not_not_intro c2), if_pos (by decide), if_neg (fun q => q (Or.inl c2))]
      exact body 1 (by rw [if_pos c2])
    · rw [if_pos c2, if_neg (by decide)]
      by_cases c3 : T.getD k 0 = 120
      · rw [if_neg (not_not_intro c3), if_neg (fun q => q (Or.inr c3))]
        exact body 0 (by rw [if_neg c2])
      · rw [if_pos c3, if_pos (fun q => q.elim c2 c3)]
        exact ⟨h, rfl, frJ.refl, fun q => absurd q (nI_n9 (by omega))⟩
theorem mrdT {N : Nat} {T : List Int32} (hN : 100 < N) (hT : T.length ≤ 40) : ∀ (d k f : Nat) (s : Sh) (x : mH), k + d = sH s + sW s → d < f → gS s → MP x s → txM x T → ResM x (x_X9_readSheet_89 N (nI (sH s)) (nI (sW s)) f (nI k) x) (rdT T d s k) := by
  intro d
  induction d with
  | zero =>
    intro k f s x hk hf gs mp tx
    obtain ⟨f, rfl⟩ : ∃ e, f = e + 1 := ⟨f - 1, by omega⟩
    have h4 := gs.1.2.1
    have w5 := gs.1.2.2.2.1
    rw [x_X9_readSheet_89_s, nI_add, if_pos (nI_le (by omega) (by omega)), rdT, show ((3 : Int32) + nI (sH s)) + nI (sW s) = nI (3 + k) from by rw [show (3 : Int32) = nI 3 from rfl, nI_add, nI_add]; congr 1; omega]
    obtain ⟨h', e1, e2, e3⟩ := mrdP (N := N) (by omega) hT 40 N (3 + k) s x (by omega) (by omega) (by omega) tx gs.1 gs.2.1 mp
    refine ⟨h', ?_, e2, e3⟩
    unfold x_X9_readPins
    rw [e1]
    rfl
  | succ d ih =>
    intro k f s x hk hf gs mp tx
    obtain ⟨f, rfl⟩ : ∃ e, f = e + 1 := ⟨f - 1, by omega⟩
    have h4 := gs.1.2.1
    have w5 := gs.1.2.2.2.1
    have hs : sdK s k < 2 := by unfold sdK; split <;> omega
    have hi : inK s k < cntS s (sdK s k) := by
      unfold inK sdK cntS
      by_cases c : k < sH s
      · simp [c]
      · simp [c]; omega
    have m5 := mostS_le gs.1 (sdK s k)
    have e1 : (if nI (sH s) ≤ nI k then nI (sH s) else nI (sW s)) = nI (mostS s (sdK s k)) := by
      unfold mostS sdK
      by_cases c : k < sH s
      · rw [if_neg (nI_ge c (by omega)), if_pos c, if_pos rfl]
      · rw [if_pos (nI_le (by omega) (by omega)), if_neg c, if_neg (by decide)]
    have e2 : (if nI (sH s) ≤ nI k then ((6 : Int32) + nI k) - nI (sH s) else (2 : Int32) + nI k) = nI (slotS (sdK s k) (inK s k)) := by
      unfold slotS sdK inK
      by_cases c : k < sH s
      · rw [if_neg (nI_ge c (by omega)), if_pos c, if_pos c, if_pos rfl]
        exact nI_add 2 k
      · rw [if_pos (nI_le (by omega) (by omega)), if_neg c, if_neg c, if_neg (by decide), show (6 : Int32) = nI 6 from rfl, nI_add, pk_sub (by omega)]
        congr 1
        omega
    have sl : slotS (sdK s k) (inK s k) < 31 := by unfold slotS inK sdK; split <;> split <;> omega
    have s2 := slot_2 (sdK s k) (inK s k)
    rw [x_X9_readSheet_89_s, nI_add, if_neg (nI_ge (by omega) (by omega)), e1, e2, show (3 : Int32) + nI k = nI (3 + k) from nI_add 3 k, figure0 hT tx (by omega) (by omega), Option.bind_some, rdT]
    cases e3 : figO T (3 + k) 0 (mostS s (sdK s k)) with
    | none => exact ⟨x, rfl, frJ.refl, fun q => absurd q (nI_n9 (by omega))⟩
    | some v =>
      obtain ⟨-, v2, -, -⟩ := figO_some e3
      show ResM x (if ¬ nI v = -9 then _ else _) (rdT T d (spT s (slotS (sdK s k) (inK s k)) v) (k + 1))
      rw [if_pos (nI_n9 (by omega)), figI_some, mck_ok (vp_in_nI (by omega) (by decide)), nI_clamp (by omega), mlet_eq, nI_1]
      have R := ih (k + 1) f (spT s (slotS (sdK s k) (inK s k)) v) (msi x 84 (slotS (sdK s k) (inK s k)) (nI v)) (by rw [spT_H s2, spT_W s2]; omega) (by omega) (gS_tot gs hs hi v2) (mp.set gs.1 s2 sl) (frJ_i.tx tx)
      rw [spT_H s2, spT_W s2] at R
      exact R.tr frJ_i
theorem mrdS {N : Nat} {T : List Int32} {h : mH} (hN : 100 < N) (hT : T.length ≤ 40) (tx : txM h T) : ResM h (x_X9_readSheet N h) (rdS T) := by
  unfold x_X9_readSheet
  refine lpI (fun f (x : mH) i => x_X9_readSheet_2 N f i x) (fun k x => (∀ j, j < k → mgi x 84 j = 0) ∧ frJ h x) (fun o => ResM h o (rdS T)) 32 (fun f k x hk hx => ?_) (fun f x hx => ?_) N 0 h (by omega) (by omega) ⟨fun j hj => by omega, frJ.refl⟩
  · refine Or.inl ⟨msi x 84 k 0, ?_, fun j hj => ?_, hx.2.trans frJ_i⟩
    · show x_X9_readSheet_2 N (f + 1) (nI k) x = x_X9_readSheet_2 N f (nI (k + 1)) (msi x 84 k 0)
      rw [x_X9_readSheet_2_s, if_neg (show ¬ (32 : Int32) ≤ nI k from nI_ge (b := 32) hk (by decide)), mck_ok (vp_in_nI (by omega) (by decide)), nI_clamp (by omega), mlet_eq, nI_1]
    · rw [mgi_msi]
      by_cases d : j = k
      · rw [if_pos ⟨rfl, d⟩]
      · rw [if_neg (fun q => d q.2)]; exact hx.1 j (by omega)
  · have tx' := hx.2.tx tx
    show ResM h (x_X9_readSheet_2 N (f + 1) (nI 32) x) (rdS T)
    refine ResM.tr hx.2 ?_
    rw [x_X9_readSheet_2_s, if_pos (by decide), tx'.1]
    unfold rdS
    by_cases c0 : T.length = 0
    · rw [if_pos (by rw [c0]; rfl), if_pos (Or.inl c0)]
      exact ⟨x, rfl, frJ.refl, fun q => absurd q (show ¬ (0 : Int32) = -9 by decide)⟩
    rw [if_neg (nI_ne0 (by omega) (by omega)), tx'.2 0 (by omega)]
    by_cases c1 : T.getD 0 0 = 80
    · rw [if_pos c1, if_neg (fun q => q.elim c0 (fun r => r c1))]
      have f1 : x_X9_figure 1 1 4 x = some (figI (figO T 1 1 4)) := figure_eq (k := 1) (a := 1) (b := 4) hT tx' (by decide) (by decide) (by decide)
      have f2 : x_X9_figure 2 1 5 x = some (figI (figO T 2 1 5)) := figure_eq (k := 2) (a := 1) (b := 5) hT tx' (by decide) (by decide) (by decide)
      rw [f1, Option.bind_some]
      cases e1 : figO T 1 1 4 with
      | none => exact ⟨x, rfl, frJ.refl, fun q => absurd q (show ¬ (1 : Int32) = -9 by decide)⟩
      | some H =>
        obtain ⟨H1, H4, -, -⟩ := figO_some e1
        show ResM x (if ¬ nI H = -9 then (x_X9_figure 2 1 5 x).bind _ else _) _
        rw [if_pos (nI_n9 (by omega)), f2, Option.bind_some]
        cases e2 : figO T 2 1 5 with
        | none => exact ⟨x, rfl, frJ.refl, fun q => absurd q (show ¬ (2 : Int32) = -9 by decide)⟩
        | some W =>
          obtain ⟨W1, W5, -, -⟩ := figO_some e2
          have gs := gS_0 H1 H4 W1 W5
          show ResM x (if ¬ nI W = -9 then x_X9_readSheet_89 N (nI H) (nI W) N 0 (msi (msi x 84 0 (nI H)) 84 1 (nI W)) else _) (rdT T (H + W) (sh0 H W) 0)
          rw [if_pos (nI_n9 (by omega))]
          have z : ∀ j, 2 ≤ j → j < 32 → mgi (msi (msi x 84 0 (nI H)) 84 1 (nI W)) 84 j = 0 := fun j h2 h3 => by
            rw [mgi_msi, if_neg (by omega), mgi_msi, if_neg (by omega)]
            exact hx.1 j h3
          have n20 := gs.1.n20
          have mp : MP (msi (msi x 84 0 (nI H)) 84 1 (nI W)) (sh0 H W) := by
            refine ⟨by rw [mgi_msi, if_neg (by omega), mgi_same]; rfl, by rw [Nat.zero_add, mgi_same]; rfl, fun r hr => ?_, fun c hc => ?_, fun k hk => ?_, ?_⟩
            · have hr' : r < H := hr
              rw [z _ (by omega) (by omega), show sR ((sh0 H W).1, some 0) r = 0 from sh0_z H W _ (by omega)]; rfl
            · have hc' : c < W := hc
              rw [z _ (by omega) (by omega), show sC ((sh0 H W).1, some 0) c = 0 from sh0_z H W _ (by omega)]; rfl
            · have hk' : k < sN (sh0 H W) := hk
              rw [z _ (by omega) (by omega), show sP ((sh0 H W).1, some 0) k = 0 from sh0_z H W _ (by omega)]; rfl
            · rw [z _ (by omega) (by omega)]; rfl
          have fk : frJ x (msi (msi x 84 0 (nI H)) 84 1 (nI W)) := frJ_i.trans frJ_i
          exact (mrdT hN hT (H + W) 0 N (sh0 H W) _ (by rw [Nat.zero_add]; rfl) (by omega) gs mp (fk.tx tx')).tr fk
    · rw [if_neg c1, if_pos (Or.inr c1)]
      exact ⟨x, rfl, frJ.refl, fun q => absurd q (show ¬ (0 : Int32) = -9 by decide)⟩
theorem IC.tx {t : Nat} {h : mH} {z : St} (m : IC t h z) : txC h z.1 := m.1
theorem IM.tx {h : mH} {z : St} (m : IM h z) : txM h z.1 := m.1
theorem S_fault {N t : Nat} {h : mH} {z : St} (hN : 1000 < N) (hw : WF z) (hc : IC t h z) (hm : IM h z) : GW t (xcW (x_X8_fault N h) (fun h1 => x_X9_fault N h1)) := by
  refine ok_W (r := (rdS z.1).1) (z' := z) hm hw ?_ (fun h1 hm1 => ?_)
  · obtain ⟨h', e1, e2, -⟩ := crdS (N := N) (by omega) hw.1 hc.tx
    refine ⟨h', ?_, IC.next (hc.scr' (fun b k hb => e2.1 b k (by unfold icb at hb; omega)) e2.2), fun b hb => ⟨fun k => e2.1 b k (by omega), fun k => e2.2 b k⟩⟩
    unfold x_X8_fault
    rw [e1]
    rfl
  · have i1 := hm1.thr 0
    obtain ⟨h', e1, e2, -⟩ := mrdS (N := N) (by omega) hw.1 i1.tx
    refine ⟨h', ?_, i1.scr (fun b hb k => e2.1 b k (by omega)) (fun k _ => e2.1 82 k (by omega)) (fun k => e2.2 82 k), (frM_i (h := h1) (a := 82) (k := 0) (v := 0) (by decide)).trans (fun b hb => ⟨fun k => e2.1 b k (by omega), fun k => e2.2 b k⟩)⟩
    unfold x_X9_fault
    rw [mlet_eq, e1]
    rfl
theorem become_raw {s : Sh} {h : mH} (w : WS s) (p : s.2 = none) (cp : CP h s) : ∃ h', x_X6_become 2 17 h = some h' ∧ CS (msi h' 2 6 (-1)) 2 s ∧ fr3 2 h h' := by
  obtain ⟨c0, c1, c2, c3, c4, c5, -⟩ := cp
  have h4 := w.2.1
  have w5 := w.2.2.2.1
  unfold x_X6_become
  simp only [mlet_eq]
  rw [mgi_msi, if_neg (by omega)] at c0 c1 c4 c5
  have c2' : ∀ r, r < sH s → mgi h 18 r = nI (sR s r) := fun r hr => by have := c2 r hr; rwa [mgi_msi, if_neg (by omega)] at this
  have c3' : ∀ c, c < sW s → mgi h 19 c = nI (sC s c) := fun c hc => by have := c3 c hc; rwa [mgi_msi, if_neg (by omega)] at this
  refine ⟨_, rfl, ⟨?_, ?_, fun r hr => ?_, fun r hr => ?_, ?_, ?_, ?_⟩, fun b k h1 h2 h3 => ?_, fun b k => rfl⟩
  · simp [mgi_msi, mgi_mcp, c0]
  · simp [mgi_msi, mgi_mcp, c1]
  · have e : r < 4 := by omega
    simp [mgi_msi, mgi_mcp, e, c2' r hr]
  · have e : r < 5 := by omega
    simp [mgi_msi, mgi_mcp, e, c3' r hr]
  · simp [mgi_msi, mgi_mcp, c4]
  · simp [mgi_msi, mgi_mcp, c5]
  · rw [mgi_same, plC_none p]
  · simp [mgi_msi, mgi_mcp, h1, h2, h3]
theorem S_sheet {N t : Nat} {h : mH} {z : St} (hN : 1000 < N) (ht : t < 512) (hw : WF z) (hc : IC t h z) (hm : IM h z) : GW t (xcW (x_X8_sheet N h) (fun h1 => x_X9_sheet N h1)) := by
  have kp : iK h z.2.2.2.1 := hc.2.2.2.2.2.2.2.1
  have ac : iA h z.2.2.1 := hc.2.2.2.2.2.2.1
  obtain ⟨h2, e1, e2, e3⟩ := crdS (N := N) (by omega) hw.1 hc.tx
  by_cases c : (rdS z.1).1 = -9
  · obtain ⟨cp, w, p⟩ := e3 c
    have pb : PB (rdS z.1).2 := fun q hq => by rw [p] at hq; cases hq
    refine ok_W (r := nI (ans (rdS z.1).2).length) (z' := (z.1, stl (rdS z.1).2, [], fun _ => none, z.2.2.2.2.1, z.2.2.2.2.2)) hm ?_ ?_ (fun h1 hm1 => ?_)
    · exact ⟨hw.1, ⟨w, WP_stl _⟩, ⟨by show 0 ≤ 14; omega, fun x hx => by cases hx⟩, (fun i s hs => by cases hs), hw.2.2.2.2⟩
    · obtain ⟨h3, b1, b2, b3⟩ := become_raw w p cp
      have F3 : ∀ b k, ¬ (17 ≤ b ∧ b ≤ 19) → b ≠ 2 → b ≠ 3 → b ≠ 4 → mgi (msi h3 2 6 (-1)) b k = mgi h b k := fun b k x0 x1 x2 x3 => by rw [mgi_msi, if_neg (by omega), b3.1 b k (by omega) (by omega) (by omega), e2.1 b k x0]
      have L3 : ∀ b k, mgl (msi h3 2 6 (-1)) b k = mgl h b k := fun b k => by show mgl h3 b k = _; rw [b3.2, e2.2]
      obtain ⟨h', y1, y2, y3, y4, y5, y6⟩ := C_act (N := N) (h1 := msi h3 2 6 (-1)) (s' := (rdS z.1).2) (A' := z.2.2.1) (K' := z.2.2.2.1) (by omega) (by omega) hc hw w pb b2 (fun b k hb => F3 b k (by omega) (by omega) (by omega) (by omega)) L3 (ac.congr (fun b x1 x2 k => F3 b k (by omega) (by omega) (by omega) (by omega))) (kp.congr (fun b x1 x2 k => F3 b k (by omega) (by omega) (by omega) (by omega)))
      obtain ⟨g, hg⟩ : ∃ g, g = msi (msi (msi h' 20 2 0) 75 0 0) 75 1 0 := ⟨_, rfl⟩
      have F : ∀ b k, b ≠ 20 → b ≠ 75 → mgi g b k = mgi h' b k := fun b k x1 x2 => by rw [hg, mgi_msi, if_neg (by omega), mgi_msi, if_neg (by omega), mgi_msi, if_neg (by omega)]
      have FL : ∀ b k, mgl g b k = mgl h' b k := fun b k => by rw [hg]; rfl
      refine ⟨g, ?_, ?_, y5.trans (fun b hb => ⟨fun k => F b k (by omega) (by omega), fun k => FL b k⟩)⟩
      · unfold x_X8_sheet
        rw [e1, Option.bind_some, if_pos c, b1, Option.bind_some, mlet_eq, y1, Option.bind_some, mlet_eq]
        obtain ⟨M, hM⟩ : ∃ M, N = M + 1 + 1 + 1 := ⟨N - 3, by omega⟩
        have st : ∀ K x, x_X8_sheet_60 K (M + 1 + 1 + 1) 0 x = some (mgi (msi (msi x 75 0 0) 75 1 0) 5 3, msi (msi x 75 0 0) 75 1 0) := fun K x => by
          rw [x_X8_sheet_60_s, if_neg (by decide), mck_ok (show vp_in (0 : Int32) 2 by unfold vp_in; decide), mlet_eq, x_X8_sheet_60_s, if_neg (by decide), mck_ok (show vp_in ((0 : Int32) + 1) 2 by unfold vp_in; decide), mlet_eq, x_X8_sheet_60_s, if_pos (by decide)]
          rfl
        have := st N (msi h' 20 2 0)
        rw [← hM] at this
        rw [this, ← hg, F 5 3 (by decide) (by decide), y3]
      · obtain ⟨x1, x2, x3, ⟨ed, d1, d2, e', d3, d4⟩, x5, x6, ⟨n, n1, n2, n3, n4⟩, -, x9, x10⟩ := y2
        refine ⟨⟨by rw [F 15 _ (by decide) (by decide)]; exact x1.1, fun k hk => by rw [F 16 _ (by decide) (by decide)]; exact x1.2 k hk⟩, x2.congr (fun k => F _ k (by decide) (by decide)) (fun k => F _ k (by decide) (by decide)) (fun k => F _ k (by decide) (by decide)), x3.congr (fun k => F _ k (by decide) (by decide)) (fun k => F _ k (by decide) (by decide)) (fun k => F _ k (by decide) (by decide)) (fun k => FL _ k), ⟨ed, d1, by rw [F 5 _ (by decide) (by decide)]; exact d2, e', d3, by rw [F 67 _ (by decide) (by decide)]; exact d4⟩, x5.congr (fun k => F 67 k (by decide) (by decide)) (fun k => F 68 k (by decide) (by decide)) (F 5 4 (by decide) (by decide)), ?_, ⟨n, n1, ?_, ?_, fun j s hj => by simp at hj⟩, fun i hi => ⟨?_, fun s hs => by cases hs⟩, ⟨by rw [F 0 _ (by decide) (by decide)]; exact x9.1, by rw [F 0 _ (by decide) (by decide)]; exact x9.2.1, by rw [F 0 _ (by decide) (by decide)]; exact x9.2.2⟩, by rw [FL]; exact x10⟩
        · rcases x6 with q | ⟨s, q1, q2⟩
          · exact Or.inl (by rw [FL]; exact q)
          · exact Or.inr ⟨s, q1, q2.congr (fun k => F _ k (by decide) (by decide)) (fun k => F _ k (by decide) (by decide)) (fun k => F _ k (by decide) (by decide)) (fun k => FL _ k)⟩
        · rw [hg, mgi_msi, if_neg (by omega), mgi_msi, if_neg (by omega), mgi_msi, if_neg (by omega)]; exact n2
        · rw [hg, mgi_msi, if_neg (by omega), mgi_msi, if_neg (by omega), mgi_same]; rfl
        · show mgi g 75 i = 0
          rw [hg, mgi_msi]
          by_cases q : i = 1
          · rw [if_pos ⟨rfl, q⟩]
          · rw [if_neg (fun r => q r.2), mgi_msi, if_pos ⟨rfl, by omega⟩]
    · have i1 := hm1.thr 0
      obtain ⟨h3, m1, m2, m3⟩ := mrdS (N := N) (by omega) hw.1 i1.tx
      obtain ⟨mp, -, -⟩ := m3 c
      obtain ⟨h4, l1, l2, l3, l4⟩ := lay_eq (N := N) (a := 85) (b := 84) (by omega) (by decide) h3
      have ms4 : MS h4 85 0 ((rdS z.1).2.1, some 0) := MS.copy (s := ((rdS z.1).2.1, some 0)) w (fun k hk => by rw [Nat.zero_add]; exact l2 k hk) mp
      have ms5 : MS (msi h4 85 31 (-9)) 85 0 ((rdS z.1).2.1, none) := by
        have := MS.plane (s := ((rdS z.1).2.1, some 0)) (q := none) w ms4
        rw [Nat.zero_add] at this
        exact this
      have es : ((rdS z.1).2.1, (none : Option Nat)) = (rdS z.1).2 := by rw [← p]
      rw [es] at ms5
      obtain ⟨h5, s1, s2, s3, s4⟩ := msettle_eq (N := N) (p := 85) (by omega) (by decide) w pb ms5
      have F5 : ∀ b k, b ≠ 84 → b ≠ 85 → b ≠ 92 → b ≠ 93 → b ≠ 94 → ¬ (b = 82 ∧ k = 17) → mgi h5 b k = mgi (msi h1 82 0 0) b k := fun b k y1 y2 y3 y4 y5 y6 => by
        rw [s4.1 b k y3 y4 y5 y6 (by omega), mgi_msi, if_neg (by omega), l3 b k y2, m2.1 b k y1]
      have G5 : ∀ b k, mgl h5 b k = mgl (msi h1 82 0 0) b k := fun b k => by
        rw [s4.2]
        show mgl h4 b k = _
        rw [l4, m2.2]
      obtain ⟨g, hg⟩ : ∃ g, g = msi (msi (msi h5 82 7 0) 89 0 0) 89 1 0 := ⟨_, rfl⟩
      have F : ∀ b k, ¬ (b = 82 ∧ k = 7) → b ≠ 89 → mgi g b k = mgi h5 b k := fun b k x1 x2 => by rw [hg, mgi_msi, if_neg (by omega), mgi_msi, if_neg (by omega), mgi_msi, if_neg (by omega)]
      refine ⟨g, ?_, ?_, (frM_i (h := h1) (a := 82) (k := 0) (v := 0) (by decide)).trans (fun b hb => ⟨fun k => by rw [F b k (by omega) (by omega), F5 b k (by omega) (by omega) (by omega) (by omega) (by omega) (by omega)], fun k => by rw [hg]; exact G5 b k⟩)⟩
      · unfold x_X9_sheet
        rw [mlet_eq, m1, Option.bind_some, if_pos c, l1, Option.bind_some, mlet_eq, s1, Option.bind_some, mlet_eq, mck_ok (show vp_in (0 : Int32) 2 by unfold vp_in; decide), mlet_eq, mck_ok (show vp_in (1 : Int32) 2 by unfold vp_in; decide), mlet_eq]
        show some (mgi (msi (msi (msi h5 82 7 0) 89 0 0) 89 1 0) 82 17, msi (msi (msi h5 82 7 0) 89 0 0) 89 1 0) = _
        rw [← hg, F 82 17 (by omega) (by omega), s3.1]
      · refine i1.board (fun b k hb => ?_) ?_ ?_ ?_ ?_ ⟨?_, fun j s hj => by simp at hj⟩ (fun i hi => ⟨?_, fun s hs => by cases hs⟩)
        · rw [F b k (by omega) (by omega), F5 b k (by omega) (by omega) (by omega) (by omega) (by omega) (by omega)]
        · rw [F 82 2 (by omega) (by omega), F5 82 2 (by omega) (by omega) (by omega) (by omega) (by omega) (by omega)]
        · rw [F 82 10 (by omega) (by omega), F5 82 10 (by omega) (by omega) (by omega) (by omega) (by omega) (by omega)]
        · rw [hg]; exact G5 82 13
        · exact s2.congr (fun k => F 85 k (by omega) (by omega))
        · rw [hg, mgi_msi, if_neg (by omega), mgi_msi, if_neg (by omega), mgi_same]; rfl
        · show mgi g 89 i = 0
          rw [hg, mgi_msi]
          by_cases q : i = 1
          · rw [if_pos ⟨rfl, q⟩]
          · rw [if_neg (fun r => q r.2), mgi_msi, if_pos ⟨rfl, by omega⟩]
  · refine ok_W (r := -3) (z' := z) hm hw ⟨h2, ?_, IC.next (hc.scr' (fun b k hb => e2.1 b k (by unfold icb at hb; omega)) e2.2), fun b hb => ⟨fun k => e2.1 b k (by omega), fun k => e2.2 b k⟩⟩ (fun h1 hm1 => ?_)
    · unfold x_X8_sheet
      rw [e1, Option.bind_some, if_neg c]
    · have i1 := hm1.thr 0
      obtain ⟨h3, m1, m2, -⟩ := mrdS (N := N) (by omega) hw.1 i1.tx
      refine ⟨h3, ?_, i1.scr (fun b hb k => m2.1 b k (by omega)) (fun k _ => m2.1 82 k (by omega)) (fun k => m2.2 82 k), (frM_i (h := h1) (a := 82) (k := 0) (v := 0) (by decide)).trans (fun b hb => ⟨fun k => m2.1 b k (by omega), fun k => m2.2 b k⟩)⟩
      unfold x_X9_sheet
      rw [mlet_eq, m1, Option.bind_some, if_neg c]
