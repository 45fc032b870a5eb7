/-! drawn -/
def vD (x : Int64) : Nat := x.toBitVec.toNat / 2 ^ 33
theorem vD_lt (x : Int64) : vD x < 2 ^ 31 := by
  have := x.toBitVec.isLt
  unfold vD
  omega
theorem vD_eq (x : Int64) : (xlushr x 33).toInt32 = nI (vD x) := by
  obtain ⟨n, hn, rfl⟩ := wb_of x
  unfold xlushr vD
  rw [show (33 : Int32) = nI 33 from rfl, wb_shr hn (by decide), lN_i, wb_tn hn]
/-- the plane behind a switch that is tried -/
def swQ (s : Sh) (r r' c d : Nat) : Option Nat := match s.2 with
  | none => none
  | some q => some (if swc s q r r' c d then swt s q r r' c d else q)
theorem swQ_none {s : Sh} (p : s.2 = none) (r r' c d : Nat) : swQ s r r' c d = none := by unfold swQ; rw [p]
theorem swQ_some {s : Sh} {q : Nat} (p : s.2 = some q) (r r' c d : Nat) : swQ s r r' c d = some (if swc s q r r' c d then swt s q r r' c d else q) := by unfold swQ; rw [p]
theorem swQ_WP {s : Sh} (w : WS s) (wp : WP s) {r r' c d : Nat} (hr : r < sH s) (hr' : r' < sH s) (hc : c < sW s) (hd : d < sW s) : WP (s.1, swQ s r r' c d) := by
  rcases wp with ⟨p1, p2⟩ | ⟨q, p1, p2⟩
  · exact Or.inl ⟨swQ_none p1 _ _ _ _, p2⟩
  · refine Or.inr ⟨_, swQ_some p1 _ _ _ _, ?_⟩
    show _ ∈ ans s
    by_cases g : swc s q r r' c d = true
    · rw [if_pos g]; exact swt_ans w hr hr' hc hd g p2
    · rw [if_neg g]; exact p2
theorem putSw_eq {h : mH} {s : Sh} {r r' c d : Nat} (w : WS s) (pb : PB s) (m : MS h 86 0 s) (hr : r < sH s) (hr' : r' < sH s) (hc : c < sW s) (hd : d < sW s) : ∃ h', x_X9_putSwitch (nI r) (nI r') (nI c) (nI d) h = some (b2i (swO s r r' c d), h') ∧ MS h' 86 0 (s.1, swQ s r r' c d) ∧ (∀ b k, b ≠ 86 → mgi h' b k = mgi h b k) ∧ ∀ b k, mgl h' b k = mgl h b k := by
  have h4 := w.2.1
  have w5 := w.2.2.2.1
  have e0 := m.1
  have e1 := m.2.1
  rw [Nat.zero_add] at e1
  have pl := m.pl
  have mp := m.plane w (q := swQ s r r' c d)
  rw [Nat.zero_add] at mp
  have hd : x_X9_putSwitch (nI r) (nI r') (nI c) (nI d) h = (x_X9_four 86 (nI r) (nI r') (nI c) (nI d) h).bind fun q7 => x_X9_putSwitch_69 q7 h := by
    unfold x_X9_putSwitch
    rw [mlet_eq, e0, e1, if_neg (nI_ge hr (by omega)), if_neg (nI_ge hr' (by omega)), if_neg (nI_ge hc (by omega)), if_neg (nI_ge hd (by omega)), if_neg (by decide)]
  have fr : ∀ v, (∀ b k, b ≠ 86 → mgi (msi h 86 31 v) b k = mgi h b k) ∧ ∀ b k, mgl (msi h 86 31 v) b k = mgl h b k := fun v => ⟨fun b k hb => by rw [mgi_msi, if_neg (by omega)], fun b k => rfl⟩
  cases e : s.2 with
  | none =>
    refine ⟨msi h 86 31 (plM (s.1, swQ s r r' c d)), ?_, mp, fr _⟩
    rw [hd, four_none w m e hr hr' hc (by assumption), Option.bind_some, swO_none e]
    unfold x_X9_putSwitch_69
    rw [mlet_eq, if_pos rfl, if_neg (by decide), pl, plM_none e, plM_none (s := (s.1, swQ s r r' c d)) (swQ_none e _ _ _ _)]
    rfl
  | some q =>
    have hq := pb q e
    refine ⟨msi h 86 31 (plM (s.1, swQ s r r' c d)), ?_, mp, fr _⟩
    rw [hd, four_some w m e hq hr hr' hc (by assumption), Option.bind_some, swO_some e]
    unfold x_X9_putSwitch_69
    rw [mlet_eq, pl, plM_some e, plM_some (s := (s.1, swQ s r r' c d)) (swQ_some e _ _ _ _)]
    by_cases g : swc s q r r' c d = true
    · have nz : ¬ nI (fourN s r r' c d) = 0 := nI_ne0 (fourN_pos hr hr' hc (by assumption)) (by have := pw20 w (four_lt w r r' c d); omega)
      rw [if_pos g, if_pos nz, if_neg nz, if_pos g, fb_xorI, g]
      rfl
    · have g' : swc s q r r' c d = false := by simpa using g
      rw [if_neg g, if_pos rfl, if_neg (by decide), if_neg g, g']
      rfl
def drQ (s : Sh) (p : Option Nat) (v : Nat) : Option Nat := swQ (s.1, p) (v % sH s) (v / 4 % sH s) (v / 16 % sW s) (v / 128 % sW s)
def nxS (x : Int64) : Int64 := x * 6364136223846793005 + 1442695040888963407
def numP (s : Sh) (p : Option Nat) : Nat := match p with
  | none => 0
  | some q => (ans s).idxOf q
def drS (s : Sh) (x : Int64) : Nat → Option Nat × Int64 × Nat
  | 0 => (s.2, x, 0)
  | k + 1 => (drQ s (drS s x k).1 (vD (nxS (drS s x k).2.1)), nxS (drS s x k).2.1, (drS s x k).2.2 + numP s (drQ s (drS s x k).1 (vD (nxS (drS s x k).2.1))))
theorem drS_WP {s : Sh} (w : WS s) (wp : WP s) (x : Int64) : ∀ k, WP (s.1, (drS s x k).1)
  | 0 => wp
  | k + 1 => by
    rw [drS]
    exact swQ_WP (s := (s.1, (drS s x k).1)) w (drS_WP w wp x k) (Nat.mod_lt _ w.1) (Nat.mod_lt _ w.1) (Nat.mod_lt _ w.2.2.1) (Nat.mod_lt _ w.2.2.1)
theorem rem_eq {v b : Nat} (hv : v < 2 ^ 31) (h0 : 0 < b) (hb : b < 2 ^ 31) : x_X8_remainder (nI v) (nI b) = some (nI (v % b)) := by
  unfold x_X8_remainder
  rw [if_neg (nI_nle h0 hb), mzd_ok h0 hb, xrem_nI hv h0 hb]
theorem drawSw_eq {h : mH} {s : Sh} {p : Option Nat} {v : Nat} (w : WS s) (wp : WP (s.1, p)) (cs : CS h 2 s) (hv : v < 2 ^ 31) : x_X8_drawSwitch (plC (s.1, p)) (nI v) h = some (plC (s.1, drQ s p v)) := by
  have h1 := w.1
  have h4 := w.2.1
  have w1 := w.2.2.1
  have w5 := w.2.2.2.1
  have d1 : v / 4 ≤ v := Nat.div_le_self _ _
  have d2 : v / 16 ≤ v := Nat.div_le_self _ _
  have d3 : v / 128 ≤ v := Nat.div_le_self _ _
  have m1 := Nat.mod_lt v h1
  have m2 := Nat.mod_lt (v / 4) h1
  have m3 := Nat.mod_lt (v / 16) w1
  have m4 := Nat.mod_lt (v / 128) w1
  unfold x_X8_drawSwitch
  rw [cs.1, cs.2.1, show (4 : Int32) = nI 4 from rfl, show (16 : Int32) = nI 16 from rfl, show (128 : Int32) = nI 128 from rfl, pk_div hv (by decide) (by decide), pk_div hv (by decide) (by decide), pk_div hv (by decide) (by decide), rem_eq hv h1 (by omega), rem_eq (by omega) h1 (by omega), rem_eq (by omega) w1 (by omega), rem_eq (by omega) w1 (by omega), Option.bind_some, Option.bind_some, Option.bind_some, Option.bind_some]
  unfold drQ
  cases e : p with
  | none =>
    rw [plC_none (s := (s.1, none)) rfl, if_pos rfl, swQ_none rfl]
    rfl
  | some q =>
    have hq : q < 2 ^ sN s := by
      rcases wp with ⟨p1, p2⟩ | ⟨q', p1, p2⟩
      · rw [e] at p1; cases p1
      · rw [e] at p1; cases p1; exact ans_lt (s := s) p2
    rw [plC_some (s := (s.1, some q)) rfl, show shl (s.1, some q) q = shl s q from rfl, if_neg (shl_pos (s := s) w hq), isSwitch_eq w cs m1 m2 m3 m4 hq, Option.bind_some, mlet_eq, switched_eq w cs m1 m2 m3 m4, swQ_some (s := (s.1, some q)) rfl, plC_some (s := (s.1, some _)) rfl]
    show _ = some (shl s (if swc s q (v % sH s) (v / 4 % sH s) (v / 16 % sW s) (v / 128 % sW s) = true then swt s q (v % sH s) (v / 4 % sH s) (v / 16 % sW s) (v / 128 % sW s) else q))
    cases swc s q (v % sH s) (v / 4 % sH s) (v / 16 % sW s) (v / 128 % sW s) <;> rfl
theorem numP_C {N : Nat} {h : mH} {s : Sh} {p : Option Nat} (hN : 400 < N) (w : WS s) (wp : WP (s.1, p)) (al : AL h 5 s) : ((x_X1_numberOf N 5 (plC (s.1, p)) h).bind fun q => x_J9_max_7cf53 0 q) = some (nI (numP s p)) := by
  have l310 := ans_310 w
  rcases wp with ⟨p1, p2⟩ | ⟨q, p1, p2⟩
  · have p1' : p = none := p1
    subst p1'
    rw [plC_none rfl, no_none hN w al, Option.bind_some]
    rfl
  · have p1' : p = some q := p1
    have p2' : q ∈ ans s := p2
    subst p1'
    have il := List.idxOf_lt_length_of_mem p2'
    rw [plC_some rfl, show shl (s.1, some q) q = shl s q from rfl, no_ans hN w al (ans_lt p2'), Option.bind_some]
    unfold nm
    rw [if_pos p2', show (0 : Int32) = nI 0 from rfl, jmax_nI (by decide) (by omega), if_pos (Nat.zero_le _)]
    rfl
def frD (h h' : mH) : Prop := (∀ b k, mgi h' b k = mgi h b k) ∧ ∀ b k, ¬ (b = 0 ∧ k = 12) → mgl h' b k = mgl h b k
theorem cdrawn_eq {N m : Nat} {h : mH} {z : St} (hN : 1000 < N) (hm20 : m ≤ 20) (w : WS z.2.1) (wp : WP z.2.1) (cs : CS h 2 z.2.1) (al : AL h 5 z.2.1) (sd : mgl h 0 12 = z.2.2.2.2.2) : ∃ h', x_X8_drawn_30 N (nI m) N (mgi h 2 6) 0 0 h = some (nI (drS z.2.1 z.2.2.2.2.2 m).2.2, h') ∧ mgl h' 0 12 = (drS z.2.1 z.2.2.2.2.2 m).2.1 ∧ frD h h' := by
  have pc : mgi h 2 6 = plC z.2.1 := cs.2.2.2.2.2.2
  refine lpI (fun f (a : Int32 × Int32 × mH) i => x_X8_drawn_30 N (nI m) f a.1 a.2.1 i a.2.2) (fun k a => a.1 = plC (z.2.1.1, (drS z.2.1 z.2.2.2.2.2 k).1) ∧ a.2.1 = nI (drS z.2.1 z.2.2.2.2.2 k).2.2 ∧ mgl a.2.2 0 12 = (drS z.2.1 z.2.2.2.2.2 k).2.1 ∧ frD h a.2.2) (fun o => ∃ h', o = some (nI (drS z.2.1 z.2.2.2.2.2 m).2.2, h') ∧ mgl h' 0 12 = (drS z.2.1 z.2.2.2.2.2 m).2.1 ∧ frD h h') m (fun f k a hk ha => ?_) (fun f a ha => ?_) N 0 (mgi h 2 6, 0, h) (by omega) (by omega) ⟨pc, rfl, sd, fun _ _ => rfl, fun _ _ _ => rfl⟩
  · obtain ⟨a1, a2, a3, a4, a5⟩ := ha
    have e2 : mgl (msl a.2.2 0 12 (mgl a.2.2 0 12 * 6364136223846793005 + 1442695040888963407)) 0 12 = nxS (drS z.2.1 z.2.2.2.2.2 k).2.1 := by rw [mgl_msl, if_pos ⟨rfl, rfl⟩, a3]; rfl
    have fr : frD h (msl a.2.2 0 12 (mgl a.2.2 0 12 * 6364136223846793005 + 1442695040888963407)) := ⟨a4, fun b k hb => by rw [mgl_msl, if_neg hb]; exact a5 b k hb⟩
    have cs' := cs.congr (h' := msl a.2.2 0 12 (mgl a.2.2 0 12 * 6364136223846793005 + 1442695040888963407)) (fun k => fr.1 _ k) (fun k => fr.1 _ k) (fun k => fr.1 _ k)
    have al' := al.congr (h' := msl a.2.2 0 12 (mgl a.2.2 0 12 * 6364136223846793005 + 1442695040888963407)) (fun k => fr.1 _ k) (fun k => fr.1 _ k) (fun k => fr.1 _ k) (fun k => fr.2 _ k (by omega))
    have wk := drS_WP w wp z.2.2.2.2.2 k
    have wk1 := drS_WP w wp z.2.2.2.2.2 (k + 1)
    have nc := numP_C (N := N) (by omega) w wk1 al'
    refine Or.inl ⟨(plC (z.2.1.1, (drS z.2.1 z.2.2.2.2.2 (k + 1)).1), nI (drS z.2.1 z.2.2.2.2.2 (k + 1)).2.2, msl a.2.2 0 12 (mgl a.2.2 0 12 * 6364136223846793005 + 1442695040888963407)), ?_, rfl, rfl, e2, fr⟩
    show x_X8_drawn_30 N (nI m) (f + 1) a.1 a.2.1 (nI k) a.2.2 = x_X8_drawn_30 N (nI m) f (plC (z.2.1.1, (drS z.2.1 z.2.2.2.2.2 (k + 1)).1)) (nI (drS z.2.1 z.2.2.2.2.2 (k + 1)).2.2) (nI (k + 1)) (msl a.2.2 0 12 (mgl a.2.2 0 12 * 6364136223846793005 + 1442695040888963407))
    rw [x_X8_drawn_30_s, if_neg (nI_ge hk (by omega)), mlet_eq, e2, vD_eq, a1, drawSw_eq w wk cs' (vD_lt _), Option.bind_some]
    rw [drS] at nc ⊢
    revert nc
    cases x_X1_numberOf N 5 (plC (z.2.1.1, drQ z.2.1 (drS z.2.1 z.2.2.2.2.2 k).1 (vD (nxS (drS z.2.1 z.2.2.2.2.2 k).2.1)))) (msl a.2.2 0 12 (mgl a.2.2 0 12 * 6364136223846793005 + 1442695040888963407)) with
    | none => intro nc; cases nc
    | some y =>
      intro nc
      rw [Option.bind_some] at nc ⊢
      rw [nc, Option.bind_some, mlet_eq, a2, nI_add, nI_1]
  · obtain ⟨a1, a2, a3, a4⟩ := ha
    refine ⟨a.2.2, ?_, a3, a4⟩
    show x_X8_drawn_30 N (nI m) (f + 1) a.1 a.2.1 (nI m) a.2.2 = _
    rw [x_X8_drawn_30_s, if_pos (nI_le (Nat.le_refl _) (by omega)), a2]
def frE (h h' : mH) : Prop := (∀ b k, b ≠ 86 → mgi h' b k = mgi h b k) ∧ ∀ b k, ¬ (b = 82 ∧ k = 13) → mgl h' b k = mgl h b k
theorem mdrawn_eq {N m : Nat} {h : mH} {s : Sh} {x : Int64} (hN : 1000 < N) (hm20 : m ≤ 20) (w : WS s) (wp : WP s) (ms : MS h 86 0 s) (ls : LsA h (ans s)) (sd : mgl h 82 13 = x) : ∃ h', x_X9_drawn_60 N (nI m) (nI (sH s)) (nI (sW s)) N 0 0 h = some (nI (drS s x m).2.2, h') ∧ mgl h' 82 13 = (drS s x m).2.1 ∧ frE h h' := by
  have h1 := w.1
  have h4 := w.2.1
  have w1 := w.2.2.1
  have w5 := w.2.2.2.1
  refine lpI (fun f (a : Int32 × mH) i => x_X9_drawn_60 N (nI m) (nI (sH s)) (nI (sW s)) f a.1 i a.2) (fun k a => a.1 = nI (drS s x k).2.2 ∧ mgl a.2 82 13 = (drS s x k).2.1 ∧ MS a.2 86 0 (s.1, (drS s x k).1) ∧ frE h a.2) (fun o => ∃ h', o = some (nI (drS s x m).2.2, h') ∧ mgl h' 82 13 = (drS s x m).2.1 ∧ frE h h') m (fun f k a hk ha => ?_) (fun f a ha => ?_) N 0 (0, h) (by omega) (by omega) ⟨rfl, sd, ms, fun _ _ _ => rfl, fun _ _ _ => rfl⟩
  · obtain ⟨a2, a3, a4, a5, a6⟩ := ha
    obtain ⟨h2, e2⟩ : ∃ h2, h2 = msl a.2 82 13 (mgl a.2 82 13 * 6364136223846793005 + 1442695040888963407) := ⟨_, rfl⟩
    have e3 : mgl h2 82 13 = nxS (drS s x k).2.1 := by rw [e2, mgl_msl, if_pos ⟨rfl, rfl⟩, a3]; rfl
    have ms2 : MS h2 86 0 (s.1, (drS s x k).1) := a4.congr (fun k => by rw [e2]; rfl)
    have wk := drS_WP w wp x k
    have wk1 := drS_WP w wp x (k + 1)
    have hv := vD_lt (nxS (drS s x k).2.1)
    obtain ⟨v, ev⟩ : ∃ v, v = vD (nxS (drS s x k).2.1) := ⟨_, rfl⟩
    rw [← ev] at hv
    have d1 : v / 4 ≤ v := Nat.div_le_self _ _
    have d2 : v / 16 ≤ v := Nat.div_le_self _ _
    have d3 : v / 128 ≤ v := Nat.div_le_self _ _
    obtain ⟨h3, p1, p2, p3, p4⟩ := putSw_eq (s := (s.1, (drS s x k).1)) w (PB_of wk) ms2 (Nat.mod_lt v h1) (Nat.mod_lt (v / 4) h1) (Nat.mod_lt (v / 16) w1) (Nat.mod_lt (v / 128) w1)
    have p1' : x_X9_putSwitch (nI (v % sH s)) (nI (v / 4 % sH s)) (nI (v / 16 % sW s)) (nI (v / 128 % sW s)) h2 = some (b2i (swO (s.1, (drS s x k).1) (v % sH s) (v / 4 % sH s) (v / 16 % sW s) (v / 128 % sW s)), h3) := p1
    have eq1 : (drS s x (k + 1)).1 = drQ s (drS s x k).1 v := by rw [drS, ev]
    have p2' : MS h3 86 0 (s.1, (drS s x (k + 1)).1) := by rw [eq1]; exact p2
    have fr : frE h h3 := ⟨fun b k hb => by rw [p3 b k hb, e2]; exact a5 b k hb, fun b k hb => by rw [p4, e2, mgl_msl, if_neg hb]; exact a6 b k hb⟩
    have ls3 : LsA h3 (ans s) := ⟨by rw [fr.1 82 17 (by decide)]; exact ls.1, fun j hj => by rw [fr.1 94 j (by decide)]; exact ls.2 j hj⟩
    refine Or.inl ⟨(nI (drS s x (k + 1)).2.2, h3), ?_, rfl, ?_, p2', fr⟩
    · show x_X9_drawn_60 N (nI m) (nI (sH s)) (nI (sW s)) (f + 1) a.1 (nI k) a.2 = x_X9_drawn_60 N (nI m) (nI (sH s)) (nI (sW s)) f (nI (drS s x (k + 1)).2.2) (nI (k + 1)) h3
      rw [x_X9_drawn_60_s, if_neg (nI_ge hk (by omega)), mlet_eq, ← e2, e3, vD_eq, ← ev, mlet_eq, mzd_ok h1 (by omega), mzd_ok h1 (by omega), mzd_ok w1 (by omega), mzd_ok w1 (by omega), show (4 : Int32) = nI 4 from rfl, show (16 : Int32) = nI 16 from rfl, show (128 : Int32) = nI 128 from rfl, pk_div hv (by decide) (by decide), pk_div hv (by decide) (by decide), pk_div hv (by decide) (by decide), xrem_nI hv h1 (by omega), xrem_nI (by omega) h1 (by omega), xrem_nI (by omega) w1 (by omega), xrem_nI (by omega) w1 (by omega), p1', Option.bind_some]
      unfold x_X9_drawn_151
      have es : (drS s x (k + 1)).2.2 = (drS s x k).2.2 + numP s (drS s x (k + 1)).1 := by rw [eq1, ev, drS]
      rw [p2'.pl, es, a2]
      rcases wk1 with ⟨q1, q2⟩ | ⟨q, q1, q2⟩
      · have q1' : (drS s x (k + 1)).1 = none := q1
        rw [plM_none q1, if_neg (by decide), mlet_eq, q1', show (0 : Int32) = nI 0 from rfl, nI_add, nI_1]
        rfl
      · have q1' : (drS s x (k + 1)).1 = some q := q1
        have q2' : q ∈ ans s := q2
        have q20 := pw20 w (ans_lt q2')
        rw [plM_some q1, if_pos (nI_n9 (by omega)), place_eq (by omega) ls3 (ans_sorted _) (ans_310 w) (fun y hy => pw20 w (ans_lt hy)) q20, Option.bind_some, mlet_eq, q1']
        unfold nm
        rw [if_pos q2', nI_add, nI_1]
        rfl
    · rw [p4, e3, drS]
  · obtain ⟨a2, a3, a4, a5⟩ := ha
    refine ⟨a.2, ?_, a3, a5⟩
    show x_X9_drawn_60 N (nI m) (nI (sH s)) (nI (sW s)) (f + 1) a.1 (nI m) a.2 = _
    rw [x_X9_drawn_60_s, if_pos (nI_le (Nat.le_refl _) (by omega)), a2]
theorem in1 (x : Int32) : x_X9_in x.toInt64 1 20 = some (if 1 ≤ x ∧ x ≤ 20 then 1 else 0) := by
  rw [show (1 : Int64) = (1 : Int32).toInt64 by decide, show (20 : Int64) = (20 : Int32).toInt64 by decide, xin32]
theorem in1_of {x : Int32} (c : 1 ≤ x ∧ x ≤ 20) : ∃ m, 1 ≤ m ∧ m ≤ 20 ∧ x = nI m := by
  obtain ⟨a, b⟩ := c
  have hx : ¬ x < 0 := by
    rw [fa_lt]; rw [fa_le] at a
    rw [show (1 : Int32).toInt = 1 from by decide] at a
    rw [show (0 : Int32).toInt = 0 from by decide]
    omega
  obtain ⟨j, hj, rfl⟩ := nI_of hx
  exact ⟨j, (nI_leI (a := 1) (by decide) hj).mp a, (nI_leI (b := 20) hj (by decide)).mp b, rfl⟩
theorem S_drawn {N t : Nat} {h : mH} {z : St} (hN : 1000 < N) (hw : WF z) (hc : IC t h z) (hm : IM h z) (a : Int32) : GW t (xcW (x_X8_drawn N a h) (fun h1 => x_X9_drawn N a h1)) := by
  have w := hw.2.1.1
  have wp := hw.2.1.2
  have F0 : ∀ h1, frM h1 (msi h1 82 0 0) := fun h1 => frM_i (by decide)
  by_cases c : 1 ≤ a ∧ a ≤ 20
  · have c' := c
    obtain ⟨m, m1, m20, rfl⟩ := in1_of c
    refine ok_W (r := nI (drS z.2.1 z.2.2.2.2.2 m).2.2) (z' := (z.1, z.2.1, z.2.2.1, z.2.2.2.1, z.2.2.2.2.1, (drS z.2.1 z.2.2.2.2.2 m).2.1)) hm hw ?_ (fun h1 hm1 => ?_)
    · obtain ⟨h', e1, e2, e3⟩ := cdrawn_eq hN m20 w wp hc.2.1 hc.2.2.1 hc.2.2.2.2.2.2.2.2.2
      refine ⟨h', ?_, IC.next ?_, fun b hb => ⟨fun k => e3.1 b k, fun k => e3.2 b k (by omega)⟩⟩
      · unfold x_X8_drawn
        rw [if_neg (show ¬ nI m < (1 : Int32) from nI_nlt (b := 1) m1 (by omega)), if_pos (show nI m ≤ (20 : Int32) from nI_le (b := 20) m20 (by decide)), mlet_eq]
        exact e1
      · have e3' : ∀ b, ∀ k, mgi h' b k = mgi h b k := fun b k => e3.1 b k
        obtain ⟨x1, x2, x3, x4, x5, x6, x7, x8, x9, -⟩ := hc
        refine ⟨⟨by rw [e3']; exact x1.1, fun k hk => by rw [e3']; exact x1.2 k hk⟩, x2.congr (e3' _) (e3' _) (e3' _), x3.congr (e3' _) (e3' _) (e3' _) (fun k => e3.2 5 k (by omega)), ?_, x5.congr (e3' _) (e3' _) (e3' _ _), ?_, ?_, ?_, ?_, e2⟩
        · obtain ⟨ed, d1, d2, e', d3, d4⟩ := x4
          exact ⟨ed, d1, by rw [e3']; exact d2, e', d3, by rw [e3']; exact d4⟩
        · rcases x6 with g | ⟨s, g1, g2⟩
          · exact Or.inl (by rw [e3.2 12 7 (by omega)]; exact g)
          · exact Or.inr ⟨s, g1, g2.congr (e3' _) (e3' _) (e3' _) (fun k => e3.2 12 k (by omega))⟩
        · have : iA h z.2.2.1 := x7
          exact this.congr (fun b _ _ k => e3' b k)
        · have : iK h z.2.2.2.1 := x8
          exact this.congr (fun b _ _ k => e3' b k)
        · exact ⟨by rw [e3']; exact x9.1, by rw [e3']; exact x9.2.1, by rw [e3']; exact x9.2.2⟩
    · obtain ⟨h2, e2, l2, i2, f2⟩ := M_list (by omega : 400 < N) hw (hm1.thr 0)
      obtain ⟨h3, e3, y1, y2, y3⟩ := lay_eq (N := N) (a := 86) (b := 85) (by omega) (by decide) h2
      have ms3 : MS h3 86 0 z.2.1 := i2.2.1.copy w (fun k hk => by rw [Nat.zero_add]; exact y1 k hk)
      have ms3' : MS h3 85 0 z.2.1 := i2.2.1.congr (fun k => y2 85 k (by decide))
      have ls3 : LsA h3 (ans z.2.1) := ⟨by rw [y2 82 17 (by decide)]; exact l2.1, fun j hj => by rw [y2 94 j (by decide)]; exact l2.2 j hj⟩
      have sd3 : mgl h3 82 13 = z.2.2.2.2.2 := by rw [y3]; exact i2.2.2.2.2.2
      obtain ⟨h4, g1, g2, g3⟩ := mdrawn_eq hN m20 w wp ms3 ls3 sd3
      have fi : ∀ b k, b ≠ 86 → mgi h4 b k = mgi h2 b k := fun b k hb => by rw [g3.1 b k hb, y2 b k hb]
      have ew := ms3'.2.1
      rw [Nat.zero_add] at ew
      refine ⟨h4, ?_, ?_, (F0 h1).trans (f2.frM.trans (fun b hb => ⟨fun k => fi b k (by omega), fun k => by rw [g3.2 b k (by omega), y3]⟩))⟩
      · unfold x_X9_drawn
        simp only [mlet_eq]
        rw [in1, Option.bind_some, if_pos c', if_pos (by decide), e2, Option.bind_some, e3, Option.bind_some, ms3'.1, ew]
        exact g1
      · obtain ⟨u1, u2, u3, u4, u5, -⟩ := i2
        refine ⟨⟨by rw [fi _ _ (by decide)]; exact u1.1, fun k hk => by rw [fi _ _ (by decide)]; exact u1.2 k hk⟩, u2.congr (fun k => fi _ k (by decide)), ?_, ?_, ⟨by rw [fi _ _ (by decide)]; exact u5.1, fun j q hq => by rw [fi _ _ (by decide), fi _ _ (by decide)]; exact u5.2 j q hq⟩, g2⟩
        · have : iB h2 z.2.2.1 := u3
          exact this.congr (fi _ _ (by decide)) (fun k => fi _ k (by decide))
        · have : iKM h2 z.2.2.2.1 := u4
          exact this.congr (fun k => fi _ k (by decide)) (fun k => fi _ k (by decide))
  · refine ok_W (r := -2) (z' := z) hm hw ⟨h, ?_, hc.next, frC.rfl⟩ (fun h1 hm1 => ⟨_, ?_, hm1.thr 0, F0 h1⟩)
    · unfold x_X8_drawn
      by_cases q : a < 1
      · rw [if_pos q]
      · rw [if_neg q]
        by_cases r : a ≤ 20
        · exact absurd ⟨fa_of_nlt q, r⟩ c
        · rw [if_neg r]
    · unfold x_X9_drawn
      simp only [mlet_eq]
      rw [in1, Option.bind_some, if_neg c, if_neg (by decide)]
