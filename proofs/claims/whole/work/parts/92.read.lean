/-! the text read: figures -/
def figO (T : List Int32) (k a b : Nat) : Option Nat := if k < T.length then (List.range (b + 1)).find? (fun v => decide (a ≤ v) && decide (T.getD k 0 - 48 = nI v)) else none
def figI (o : Option Nat) : Int32 := o.elim (-9) nI
theorem figO_some {T : List Int32} {k a b v : Nat} (h : figO T k a b = some v) : a ≤ v ∧ v ≤ b ∧ k < T.length ∧ T.getD k 0 - 48 = nI v := by
  unfold figO at h
  by_cases c : k < T.length
  · rw [if_pos c] at h
    have h1 := List.find?_some h
    have h2 := List.mem_of_find?_eq_some h
    rw [List.mem_range] at h2
    rw [Bool.and_eq_true, decide_eq_true_eq, decide_eq_true_eq] at h1
    exact ⟨h1.1, by omega, c, h1.2⟩
  · rw [if_neg c] at h; cases h
theorem figO_none {T : List Int32} {k a b : Nat} (h : figO T k a b = none) (c : k < T.length) : ∀ v, a ≤ v → v ≤ b → ¬ T.getD k 0 - 48 = nI v := by
  unfold figO at h
  rw [if_pos c, List.find?_eq_none] at h
  intro v h1 h2 h3
  exact h v (List.mem_range.mpr (by omega)) (by rw [Bool.and_eq_true, decide_eq_true_eq, decide_eq_true_eq]; exact ⟨h1, h3⟩)
theorem fig_in {T : List Int32} {k a b : Nat} (hb : b < 2 ^ 31) (hab : a ≤ b) (c : k < T.length) : (if nI a ≤ T.getD k 0 - 48 ∧ T.getD k 0 - 48 ≤ nI b then T.getD k 0 - 48 else -9) = figI (figO T k a b) := by
  cases e : figO T k a b with
  | none =>
    show _ = (-9 : Int32)
    rw [if_neg]
    rintro ⟨h1, h2⟩
    have hx : ¬ T.getD k 0 - 48 < 0 := fun q => by
      rw [fa_lt] at q
      rw [fa_le, nI_toInt (by omega)] at h1
      rw [show (0 : Int32).toInt = 0 from by decide] at q
      omega
    obtain ⟨j, hj, ej⟩ := nI_of hx
    rw [ej] at h1 h2
    exact figO_none e c j ((nI_leI (by omega) hj).mp h1) ((nI_leI hj hb).mp h2) ej
  | some v =>
    obtain ⟨h1, h2, -, h4⟩ := figO_some e
    rw [h4, if_pos ⟨nI_le h1 (by omega), nI_le h2 hb⟩]
    rfl
def txC (h : mH) (T : List Int32) : Prop := mgi h 15 1 = nI T.length ∧ ∀ k, k < T.length → mgi h 16 k = T.getD k 0
theorem letterAt_eq {h : mH} {T : List Int32} {k : Nat} (hT : T.length ≤ 40) (tx : txC h T) (hk : k < 2 ^ 31) : x_X4_letterAt (nI k) h = some (if k < T.length then T.getD k 0 else -9) := by
  unfold x_X4_letterAt
  rw [if_neg (nI_pos hk), tx.1]
  by_cases c : k < T.length
  · rw [if_neg (nI_ge c (by omega)), if_neg (show ¬ (40 : Int32) ≤ nI k from nI_ge (b := 40) (by omega) (by decide)), mck_ok (vp_in_nI (by omega) (by decide)), nI_clamp hk, tx.2 k c, if_pos c]
  · rw [if_pos (nI_le (by omega) hk), if_neg c]
theorem figureAt_eq {h : mH} {T : List Int32} {k a b : Nat} (hT : T.length ≤ 40) (tx : txC h T) (hk : k < 2 ^ 31) (hb : b < 2 ^ 31) (hab : a ≤ b) : x_X4_figureAt (nI k) (nI a) (nI b) h = some (figI (figO T k a b)) := by
  unfold x_X4_figureAt
  rw [letterAt_eq hT tx hk, Option.bind_some, mlet_eq]
  congr 1
  by_cases c : k < T.length
  · rw [if_pos c, ← fig_in hb hab c]
    by_cases d : T.getD k 0 - 48 < nI a
    · rw [if_pos d, if_neg (fun q => (fa_of_lt d).2.1 q.1)]
    · rw [if_neg d]
      by_cases e : nI b < T.getD k 0 - 48
      · rw [if_pos e, if_neg (fun q => (fa_of_lt e).2.1 q.2)]
      · rw [if_neg e, if_pos ⟨fa_of_nlt d, fa_of_nlt e⟩]
  · have z : figO T k a b = none := by unfold figO; rw [if_neg c]
    rw [if_neg c, z, if_pos]
    · rfl
    · rw [fa_lt, nI_toInt (by omega), show ((-9 : Int32) - 48).toInt = -57 from by decide]
      omega
theorem figureAt0 {h : mH} {T : List Int32} {k b : Nat} (hT : T.length ≤ 40) (tx : txC h T) (hk : k < 2 ^ 31) (hb : b < 2 ^ 31) : x_X4_figureAt (nI k) 0 (nI b) h = some (figI (figO T k 0 b)) := figureAt_eq (a := 0) hT tx hk hb (Nat.zero_le _)
theorem figI_some (v : Nat) : figI (some v) = nI v := rfl
theorem nI_2 (k : Nat) : nI k + 2 = nI (k + 2) := nI_add k 2
theorem nI_3 (k : Nat) : nI k + 3 = nI (k + 3) := nI_add k 3
def txM (h : mH) (T : List Int32) : Prop := mgi h 82 2 = nI T.length ∧ ∀ k, k < T.length → mgi h 83 k = T.getD k 0
theorem figure_eq {h : mH} {T : List Int32} {k a b : Nat} (hT : T.length ≤ 40) (tx : txM h T) (hk : k < 2 ^ 31) (hb : b < 2 ^ 31) (hab : a ≤ b) : x_X9_figure (nI k) (nI a) (nI b) h = some (figI (figO T k a b)) := by
  unfold x_X9_figure
  rw [tx.1]
  by_cases c : k < T.length
  · rw [if_neg (nI_ge c (by omega)), mck_ok (vp_in_nI (by omega) (by decide)), nI_clamp hk, tx.2 k c, xin32, Option.bind_some, ← fig_in hb hab c]
    by_cases d : nI a ≤ T.getD k 0 - 48 ∧ T.getD k 0 - 48 ≤ nI b
    · rw [if_pos d, if_neg (by decide), mck_ok (vp_in_nI (by omega) (by decide)), if_pos d]
    · rw [if_neg d, if_pos rfl, if_neg d]
  · have z : figO T k a b = none := by unfold figO; rw [if_neg c]
    rw [if_pos (nI_le (by omega) hk), z]
    rfl
theorem figI_9 {T : List Int32} {k a b : Nat} (hb : b < 2 ^ 31) : figI (figO T k a b) = -9 ↔ figO T k a b = none := by
  cases e : figO T k a b with
  | none => exact ⟨fun _ => rfl, fun _ => rfl⟩
  | some v =>
    have := figO_some e
    exact ⟨fun q => absurd q (nI_n9 (by omega)), fun q => by cases q⟩
/-! what the text tells -/
def fuR (s : Sh) (r : Nat) : Bool := decide (fb_ct (fun c => sP s (sW s * r + c) != 0) (sW s) = sW s)
def rdP (T : List Int32) : Nat → Sh → Nat → Int32 × Sh
  | 0, s, _ => (-9, s)
  | j + 1, s, k => if T.length ≤ k then (-9, s) else if ¬ (T.getD k 0 = 111 ∨ T.getD k 0 = 120) then (nI k, s) else if pinN s = 6 ∨ pinN s = sN s then (nI k, s) else (figO T (k + 1) 0 (sH s - 1)).elim (nI (k + 1), s) fun r => if fuR s r = true then (nI (k + 1), s) else (figO T (k + 2) 0 (sW s - 1)).elim (nI (k + 2), s) fun c => if sP s (sW s * r + c) = 0 then rdP T j (spT s (11 + (sW s * r + c)) (if T.getD k 0 = 111 then 1 else 2)) (k + 3) else (nI (k + 2), s)
def rdT (T : List Int32) : Nat → Sh → Nat → Int32 × Sh
  | 0, s, k => rdP T 40 s (3 + k)
  | j + 1, s, k => (figO T (3 + k) 0 (mostS s (sdK s k))).elim (nI (3 + k), s) fun v => rdT T j (spT s (slotS (sdK s k) (inK s k)) v) (k + 1)
def sh0 (h w : Nat) : Sh := (fun i => if i = 0 then h else if i = 1 then w else 0, none)
def rdS (T : List Int32) : Int32 × Sh := if T.length = 0 ∨ ¬ T.getD 0 0 = 80 then (0, sh0 1 1) else (figO T 1 1 4).elim (1, sh0 1 1) fun h => (figO T 2 1 5).elim (2, sh0 1 1) fun w => rdT T (h + w) (sh0 h w) 0
theorem pinN_le (s : Sh) : pinN s ≤ sN s := fb_ct_le _ _
def frK (h h' : mH) : Prop := (∀ b k, ¬ (17 ≤ b ∧ b ≤ 19) → mgi h' b k = mgi h b k) ∧ ∀ b k, mgl h' b k = mgl h b k
theorem frK.refl {h : mH} : frK h h := ⟨fun _ _ _ => rfl, fun _ _ => rfl⟩
theorem frK.trans {h h1 h2 : mH} (a : frK h h1) (b : frK h1 h2) : frK h h2 := ⟨fun c k x => (b.1 c k x).trans (a.1 c k x), fun c k => (b.2 c k).trans (a.2 c k)⟩
theorem frK.tx {h h' : mH} {T : List Int32} (f : frK h h') (t : txC h T) : txC h' T := ⟨by rw [f.1 15 1 (by omega)]; exact t.1, fun k hk => by rw [f.1 16 k (by omega)]; exact t.2 k hk⟩
theorem frK_i {h : mH} {a k : Nat} {v : Int32} (ha : 17 ≤ a ∧ a ≤ 19) : frK h (msi h a k v) := ⟨fun b j hb => by rw [mgi_msi, if_neg (by omega)], fun _ _ => rfl⟩
/-- the draft, its plane set aside -/
def CP (h : mH) (s : Sh) : Prop := CS (msi h 17 6 (-1)) 17 s
theorem CP.h {h : mH} {s : Sh} (m : CP h s) : mgi h 17 0 = nI (sH s) ∧ mgi h 17 1 = nI (sW s) ∧ mgi h 17 4 = nI (cmask (fun k => sP s k != 0) (sN s)) := by
  have a := m.1
  have b := m.2.1
  have c := m.2.2.2.2.1
  rw [mgi_msi, if_neg (by omega)] at a b c
  exact ⟨a, b, c⟩
theorem msi_comm {h : mH} {a k k' : Nat} {v v' : Int32} (hk : k ≠ k') : msi (msi h a k v) a k' v' = msi (msi h a k' v') a k v := by
  unfold msi
  congr 1
  funext b j
  show (if b = a ∧ j = k' then v' else (if b = a ∧ j = k then v else h.1 b j)) = (if b = a ∧ j = k then v else (if b = a ∧ j = k' then v' else h.1 b j))
  by_cases c : b = a ∧ j = k'
  · rw [if_pos c, if_neg (by omega), if_pos c]
  · rw [if_neg c]
    by_cases d : b = a ∧ j = k
    · rw [if_pos d, if_pos d]
    · rw [if_neg d, if_neg d, if_neg c]
theorem dpinCount {h : mH} {s : Sh} (w : WS s) (m : CP h s) : x_X6_pinCount 17 h = some (nI (pinN s)) := by
  unfold x_X6_pinCount
  rw [m.h.2.2, bcnt (cmask_lt w.n20.2) (by decide), bc_cmask w.n20.2]
  rfl
theorem dcells {h : mH} {s : Sh} (m : CP h s) : x_X6_cells 17 h = some (nI (sN s)) := by
  unfold x_X6_cells sN
  rw [m.h.1, m.h.2.1, pk_mul]
theorem dcolumnsOf {h : mH} {s : Sh} {r : Nat} (w : WS s) (m : CP h s) (hr : r < sH s) (p : Int32) : x_X6_columnsOf 17 p (nI r) h = some (nI (P5 fun c => decide (c < sW s) && bt p (19 - (sW s * r + c)))) := by
  rw [← columnsOf_eq w m hr p]
  unfold x_X6_columnsOf
  rw [show mgi (msi h 17 6 (-1)) 17 1 = mgi h 17 1 by rw [mgi_msi, if_neg (by omega)]]
theorem dbitAt {h : mH} {s : Sh} {r c : Nat} (w : WS s) (m : CP h s) (hr : r < sH s) (hc : c < sW s) : x_X6_bitAt 17 (nI r) (nI c) h = some (nI (2 ^ (19 - (sW s * r + c)))) := by
  have n20 := w.n20
  have k1 := cell_lt hr hc
  unfold x_X6_bitAt
  rw [m.h.2.1, pk_mul, nI_add, bit_of _ (by omega)]
  rfl
theorem dputPin {h : mH} {s : Sh} {k v : Nat} (w : WS s) (m : CP h s) (hk : k < sN s) (hv : v ≤ 2) : ∃ h', x_X6_putPin 17 (nI k) (nI v) h = some h' ∧ CP h' (spT s (11 + k) v) ∧ frK h h' := by
  have n20 := w.n20
  obtain ⟨h2, e1, e2, -⟩ := putPin_eq (v := v) w m hk hv
  unfold x_X6_putPin at e1 ⊢
  rw [bit_of k (by omega), Option.bind_some, mlet_eq, mlet_eq] at e1 ⊢
  refine ⟨_, rfl, ?_, (frK_i (by omega)).trans (frK_i (by omega))⟩
  cases e1
  rw [show mgi (msi h 17 6 (-1)) 17 4 = mgi h 17 4 by rw [mgi_msi, if_neg (by omega)]] at e2
  unfold CP
  have q5 : ∀ A, mgi (msi (msi h 17 6 (-1)) 17 4 A) 17 5 = mgi (msi h 17 4 A) 17 5 := fun A => by rw [mgi_msi, if_neg (by omega), mgi_msi, if_neg (by omega), mgi_msi, if_neg (by omega)]
  rw [q5] at e2
  rw [msi_comm (k := 5) (k' := 6) (by decide), msi_comm (k := 4) (k' := 6) (by decide)]
  exact e2
def ResC (h : mH) (o : Option (Int32 × mH)) (x : Int32 × Sh) : Prop := ∃ h', o = some (x.1, h') ∧ frK h h' ∧ (x.1 = -9 → CP h' x.2 ∧ WS x.2 ∧ x.2.2 = none)
theorem rowfull_eq {h : mH} {s : Sh} {r : Nat} (w : WS s) (m : CP h s) (hr : r < sH s) : ((x_X6_columnsOf 17 (mgi h 17 4) (nI r) h).bind fun q => x_J6_bitCount_0f7a4 q) = some (nI (fb_ct (fun c => sP s (sW s * r + c) != 0) (sW s))) := by
  rw [dcolumnsOf w m hr, Option.bind_some, gv_bits w]
  congr 2
  refine fb_ct_cong fun c hc => ?_
  rw [m.h.2.2, bt_cm w _ (cell_lt hr hc)]
theorem crdP {N : Nat} {T : List Int32} (hT : T.length ≤ 40) : ∀ (j f k : Nat) (s : Sh) (h : mH), j < f → T.length < k + 3 * j → k ≤ 100 → txC h T → WS s → s.2 = none → CP h s → ResC h (x_X4_readPins_18 N f (nI k) h) (rdP T j s k) := by
  intro j
  induction j with
  | zero =>
    intro f k s h hf hl hk tx w p cp
    obtain ⟨f, rfl⟩ : ∃ e, f = e + 1 := ⟨f - 1, by omega⟩
    refine ⟨h, ?_, frK.refl, fun _ => ⟨cp, w, p⟩⟩
    rw [x_X4_readPins_18_s, tx.1, if_pos (nI_le (by omega) (by omega))]
    rfl
  | succ j ih =>
    intro f k s h hf hl hk tx w p cp
    obtain ⟨f, rfl⟩ : ∃ e, f = e + 1 := ⟨f - 1, by omega⟩
    have n20 := w.n20
    have h1 := w.1
    have h4 := w.2.1
    have w1 := w.2.2.1
    have w5 := w.2.2.2.1
    have n6 : pinN s ≤ 6 := w.2.2.2.2.2.2.2
    have pl := pinN_le s
    rw [x_X4_readPins_18_s, tx.1, rdP]
    by_cases c1 : T.length ≤ k
    · rw [if_pos (nI_le c1 (by omega)), if_pos c1]
      exact ⟨h, rfl, frK.refl, fun _ => ⟨cp, w, p⟩⟩
    rw [if_neg (nI_ge (by omega) (by omega)), if_neg c1, letterAt_eq hT tx (by omega), Option.bind_some, dpinCount w cp, Option.bind_some, if_pos (show k < T.length by omega)]
    have body : T.getD k 0 = 111 ∨ T.getD k 0 = 120 → ResC h (x_X4_readPins_53 N (x_X4_readPins_18 N f) (nI k) (T.getD k 0) (nI (pinN s)) h) (if pinN s = 6 ∨ pinN s = sN s then (nI k, s) else (figO T (k + 1) 0 (sH s - 1)).elim (nI (k + 1), s) fun r => if fuR s r = true then (nI (k + 1), s) else (figO T (k + 2) 0 (sW s - 1)).elim (nI (k + 2), s) fun c => if sP s (sW s * r + c) = 0 then rdP T j (spT s (11 + (sW s * r + c)) (if T.getD k 0 = 111 then 1 else 2)) (k + 3) else (nI (k + 2), s)) := fun hl' => by
      have bad : ∀ n, n < 2 ^ 31 → ResC h (some (nI n, h)) (nI n, s) := fun n hn => ⟨h, rfl, frK.refl, fun q => absurd q (nI_n9 hn)⟩
      unfold x_X4_readPins_53
      by_cases a1 : pinN s = 6
      · rw [if_pos (show (6 : Int32) ≤ nI (pinN s) from by rw [a1]; decide), if_pos (Or.inl a1)]
        exact bad k (by omega)
      rw [if_neg (show ¬ (6 : Int32) ≤ nI (pinN s) from nI_ge (b := 6) (by omega) (by decide)), dcells cp, Option.bind_some]
      by_cases a2 : pinN s = sN s
      · rw [if_neg (nI_nlt (by omega) (by omega)), if_pos (Or.inr a2)]
        exact bad k (by omega)
      rw [if_pos (nI_lt (by omega) (by omega)), if_neg (show ¬ (pinN s = 6 ∨ pinN s = sN s) from fun q => q.elim a1 a2), nI_1, cp.h.1, show nI (sH s) - 1 = nI (sH s - 1) from by obtain ⟨m, hm⟩ : ∃ m, sH s = m + 1 := ⟨sH s - 1, by omega⟩; rw [hm, nI_pred]; rfl, figureAt0 hT tx (by omega) (by omega), Option.bind_some]
      cases e1 : figO T (k + 1) 0 (sH s - 1) with
      | none => exact bad (k + 1) (by omega)
      | some r =>
        obtain ⟨-, r2, -, -⟩ := figO_some e1
        have hr : r < sH s := by omega
        show ResC h (if nI r = -9 then _ else _) (if fuR s r = true then (nI (k + 1), s) else _)
        rw [if_neg (nI_n9 (by omega))]
        have rf := rowfull_eq w cp hr
        show ResC h ((x_X6_columnsOf 17 (mgi h 17 4) (nI r) h).bind fun q6 => (x_J6_bitCount_0f7a4 q6).bind fun q7 => _) _
        revert rf
        cases e2 : x_X6_columnsOf 17 (mgi h 17 4) (nI r) h with
        | none => intro rf; cases rf
        | some q6 =>
          intro rf
          rw [Option.bind_some] at rf ⊢
          have cl : fb_ct (fun c => sP s (sW s * r + c) != 0) (sW s) ≤ sW s := fb_ct_le _ _
          rw [rf, Option.bind_some, cp.h.2.1]
          by_cases a3 : fb_ct (fun c => sP s (sW s * r + c) != 0) (sW s) = sW s
          · rw [if_neg (not_not_intro (by rw [a3])), if_pos (show fuR s r = true by unfold fuR; simp [a3])]
            exact bad (k + 1) (by omega)
          rw [if_pos (fun q => a3 ((nI_eq (by omega) (by omega)).mp q)), if_neg (show ¬ fuR s r = true by unfold fuR; simp [a3]), nI_2, show nI (sW s) - 1 = nI (sW s - 1) from by obtain ⟨m, hm⟩ : ∃ m, sW s = m + 1 := ⟨sW s - 1, by omega⟩; rw [hm, nI_pred]; rfl, figureAt0 hT tx (by omega) (by omega), Option.bind_some]
          cases e3 : figO T (k + 2) 0 (sW s - 1) with
          | none => exact bad (k + 2) (by omega)
          | some c =>
            obtain ⟨-, c2, -, -⟩ := figO_some e3
            have hc : c < sW s := by omega
            have kc := cell_lt hr hc
            show ResC h (if nI c = -9 then _ else (x_X6_bitAt 17 (nI r) (nI c) h).bind _) (if sP s (sW s * r + c) = 0 then _ else _)
            rw [if_neg (nI_n9 (by omega)), dbitAt w cp hr hc, Option.bind_some, cp.h.2.2, figI_some, figI_some, pk_mul, nI_add]
            by_cases a4 : sP s (sW s * r + c) = 0
            · rw [if_pos ((cmask_and_bit n20.2 kc).mpr (by simp [a4])), if_pos a4]
              have ev : (if ¬ T.getD k 0 = 111 then 2 else (1 : Int32)) = nI (if T.getD k 0 = 111 then 1 else 2) := by
                by_cases q : T.getD k 0 = 111
                · rw [if_neg (not_not_intro q), if_pos q]; rfl
                · rw [if_pos q, if_neg q]; rfl
              obtain ⟨h2, p1, p2, p3⟩ := dputPin (v := if T.getD k 0 = 111 then 1 else 2) w cp kc (by split <;> omega)
              rw [ev, p1, Option.bind_some, nI_3]
              obtain ⟨h3, r1, r2, r3⟩ := ih f (k + 3) (spT s (11 + (sW s * r + c)) (if T.getD k 0 = 111 then 1 else 2)) h2 (by omega) (by omega) (by omega) (p3.tx tx) (WS_pin w kc (by split <;> omega) (Or.inr (Or.inr (by omega)))) p p2
              exact ⟨h3, r1, p3.trans r2, r3⟩
            · rw [if_neg (fun q => by rw [cmask_and_bit n20.2 kc] at q; simp [a4] at q), if_neg a4]
              exact bad (k + 2) (by omega)
    by_cases c2 : T.getD k 0 = 111
    · rw [if_pos c2, if_neg (fun q => q (Or.inl c2))]
      exact body (Or.inl c2)
    · rw [if_neg c2]
      by_cases c3 : T.getD k 0 = 120
      · rw [if_neg (not_not_intro c3), if_neg (fun q => q (Or.inr c3))]
        exact body (Or.inr c3)
      · rw [if_pos c3, if_pos (fun q => q.elim c2 c3)]
        exact ⟨h, rfl, frK.refl, fun q => absurd q (nI_n9 (by omega))⟩
