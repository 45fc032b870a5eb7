/-! the class's walk, from the plane -/
def GR (h : mH) (s : Sh) : Prop := (∀ q, s.2 = some q → mgi h 67 2 = nI (rchN (ans s) ((ans s).idxOf q)) ∧ ∀ k, k < (ans s).length → mgi h 68 k = dstI (ans s) ((ans s).idxOf q) k) ∧ (s.2 = none → mgi h 67 2 = 0 ∧ ∀ k, k < 310 → mgi h 68 k = -9)
def frG3 (h h' : mH) : Prop := (∀ b k, b ≠ 67 → b ≠ 68 → b ≠ 69 → mgi h' b k = mgi h b k) ∧ ∀ b k, mgl h' b k = mgl h b k
theorem go91 {N i : Nat} {s : Sh} {h0 h : mH} (hN : 400 < N) (w : WS s) (cs : CS h0 2 s) (al : AL h0 5 s) (hW : WM h (ans s).length [i] (fun _ => 0)) (hi : i < (ans s).length) (fr : frWk h0 h) : ∃ h', x_X7_goFrom_91 N 1 N 0 h = some h' ∧ mgi h' 67 2 = nI (rchN (ans s) i) ∧ (∀ k, k < (ans s).length → mgi h' 68 k = dstI (ans s) i k) ∧ frWk h0 h' := by
  have l310 := ans_310 w
  refine lpI (fun f (x : mH) j => x_X7_goFrom_91 N 1 f j x) (fun a x => ∃ Q D, WM x (ans s).length Q D ∧ BJ (ans s) i a Q D ∧ frWk h0 x ∧ a ≤ Q.length) (fun o => ∃ h', o = some h' ∧ mgi h' 67 2 = nI (rchN (ans s) i) ∧ (∀ k, k < (ans s).length → mgi h' 68 k = dstI (ans s) i k) ∧ frWk h0 h') 310 (fun f a x ha hx => ?_) (fun f x hx => ?_) N 0 h (by omega) (by omega) ⟨[i], fun _ => 0, hW, BJ.start hi, fr, Nat.zero_le _⟩
  · obtain ⟨Q, D, wm, bj, fx, le⟩ := hx
    have ql := bj.len
    have fin : (a = Q.length ∨ (a < Q.length ∧ Q.length = (ans s).length)) → mgi x 67 2 = nI (rchN (ans s) i) ∧ ∀ k, k < (ans s).length → mgi x 68 k = dstI (ans s) i k := fun c => by
      obtain ⟨f1, f2⟩ := bj.fin c
      exact ⟨by rw [wm.1, f1], fun k hk => by rw [wm.2.2 k hk, f2 k hk]⟩
    have sz : mgi x (1 + 4) 3 = nI (ans s).length := (fx.al al).2.2.1
    show (∃ x' : mH, x_X7_goFrom_91 N 1 (f + 1) (nI a) x = x_X7_goFrom_91 N 1 f (nI (a + 1)) x' ∧ _) ∨ ∃ h', x_X7_goFrom_91 N 1 (f + 1) (nI a) x = some h' ∧ _
    rw [x_X7_goFrom_91_s, if_neg (show ¬ (310 : Int32) ≤ nI a from nI_ge (b := 310) ha (by decide)), wm.1, sz]
    by_cases c1 : a = Q.length
    · obtain ⟨g1, g2⟩ := fin (Or.inl c1)
      exact Or.inr ⟨x, by rw [if_pos (nI_le (by omega) (by omega))], g1, g2, fx⟩
    rw [if_neg (nI_ge (by omega) (by omega))]
    by_cases c2 : Q.length = (ans s).length
    · obtain ⟨g1, g2⟩ := fin (Or.inr ⟨by omega, c2⟩)
      exact Or.inr ⟨x, by rw [if_pos (nI_le (by omega) (by omega))], g1, g2, fx⟩
    rw [if_neg (nI_ge (by omega) (by omega)), mck_ok (vp_in_nI (by omega) (by decide)), nI_clamp (by omega)]
    have hal : a < Q.length := by omega
    obtain ⟨v, hv⟩ : ∃ v, Q[a]? = some v := ⟨_, List.getElem?_eq_getElem hal⟩
    have vl := bj.1.2 v (List.mem_of_getElem? hv)
    obtain ⟨x', q1, Q', D', I, e1, e2⟩ := around_eq (N := N) (dv := D v) hN w cs al vl ⟨Q, D, ⟨wm, bj, hv, fx⟩, rfl, fun u hu => hu.elim⟩
    refine Or.inl ⟨x', by rw [wm.2.1 a v hv, q1, Option.bind_some, nI_1], Q', D', I.1, I.2.1.next I.2.2.1 (fun u hu hn => e2 u ⟨hu, hn⟩), I.2.2.2, ?_⟩
    have := (List.getElem?_eq_some_iff.mp I.2.2.1).1
    omega
  · obtain ⟨Q, D, wm, bj, fx, le⟩ := hx
    have ql := bj.len
    obtain ⟨f1, f2⟩ := bj.fin (Or.inl (by omega))
    refine ⟨x, ?_, by rw [wm.1, f1], fun k hk => by rw [wm.2.2 k hk, f2 k hk], fx⟩
    show x_X7_goFrom_91 N 1 (f + 1) (nI 310) x = _
    rw [x_X7_goFrom_91_s, if_pos (by decide)]
theorem go29 {N : Nat} {s : Sh} {h : mH} (hN : 400 < N) (w : WS s) (wp : WP s) (cs : CS h 2 s) (al : AL h 5 s) : ∃ h', x_X7_goFrom_29 N 1 h = some h' ∧ GR h' s ∧ mgi h' 67 3 = mgi h 5 4 ∧ mgi h' 67 4 = plC s ∧ frG3 h h' := by
  have l310 := ans_310 w
  have pc : mgi h (1 + 1) 6 = plC s := cs.2.2.2.2.2.2
  unfold x_X7_goFrom_29
  rw [mlet_eq, mlet_eq]
  obtain ⟨h0, e0⟩ : ∃ h0, h0 = msi (msi h 67 3 (mgi h (1 + 4) 4)) 67 4 (mgi (msi h 67 3 (mgi h (1 + 4) 4)) (1 + 1) 6) := ⟨_, rfl⟩
  rw [← e0]
  have F0 : ∀ b k, b ≠ 67 → mgi h0 b k = mgi h b k := fun b k hb => by rw [e0, mgi_msi, if_neg (by omega), mgi_msi, if_neg (by omega)]
  have v3 : mgi h0 67 3 = mgi h 5 4 := by rw [e0, mgi_msi, if_neg (by omega), mgi_same]
  have v4 : mgi h0 67 4 = plC s := by rw [e0, mgi_same, mgi_msi, if_neg (by omega)]; exact pc
  have L0 : ∀ b k, mgl h0 b k = mgl h b k := fun b k => by rw [e0]; rfl
  have cs0 : CS h0 2 s := cs.congr (fun k => F0 _ k (by omega)) (fun k => F0 _ k (by omega)) (fun k => F0 _ k (by omega))
  have al0 : AL h0 5 s := al.congr (fun k => F0 _ k (by omega)) (fun k => F0 _ k (by omega)) (fun k => F0 _ k (by omega)) (fun k => L0 _ k)
  have out : ∀ h', frWk h0 h' → mgi h' 67 3 = mgi h 5 4 ∧ mgi h' 67 4 = plC s ∧ frG3 h h' := fun h' f => ⟨by rw [f.1 67 3 (by omega) (by omega) (by omega)]; exact v3, by rw [f.1 67 4 (by omega) (by omega) (by omega)]; exact v4, fun b k x1 x2 x3 => by rw [f.1 b k (by omega) x2 x3, F0 b k x1], fun b k => by rw [f.2, L0]⟩
  refine lpI (fun f (x : mH) j => x_X7_goFrom_53 N 1 f j x) (fun k x => (∀ j, j < k → mgi x 68 j = -9) ∧ frWk h0 x) (fun o => ∃ h', o = some h' ∧ GR h' s ∧ mgi h' 67 3 = mgi h 5 4 ∧ mgi h' 67 4 = plC s ∧ frG3 h h') 310 (fun f k x hk hx => ?_) (fun f x hx => ?_) N 0 h0 (by omega) (by omega) ⟨fun j hj => by omega, frWk.refl⟩
  · refine Or.inl ⟨msi x 68 k (-9), ?_, fun j hj => ?_, hx.2.trans ⟨fun b j x1 x2 x3 => by rw [mgi_msi, if_neg (by omega)], fun b j => rfl⟩⟩
    · show x_X7_goFrom_53 N 1 (f + 1) (nI k) x = x_X7_goFrom_53 N 1 f (nI (k + 1)) _
      rw [x_X7_goFrom_53_s, if_neg (show ¬ (310 : Int32) ≤ nI k from nI_ge (b := 310) hk (by decide)), mck_ok (vp_in_nI (by omega) (by decide)), nI_clamp (by omega), mlet_eq, nI_1]
    · rw [mgi_msi]
      by_cases d : j = k
      · rw [if_pos ⟨rfl, d⟩]
      · rw [if_neg (fun q => d q.2)]; exact hx.1 j (by omega)
  · obtain ⟨x1, fx⟩ := hx
    show ∃ h', x_X7_goFrom_53 N 1 (f + 1) (nI 310) x = some h' ∧ _
    obtain ⟨y, ey⟩ : ∃ y, y = msi x 67 2 0 := ⟨_, rfl⟩
    have fy : frWk h0 y := fx.trans ⟨fun b j z1 z2 z3 => by rw [ey, mgi_msi, if_neg (by omega)], fun b j => by rw [ey]; rfl⟩
    have y2 : mgi y 67 2 = 0 := by rw [ey, mgi_same]
    have y8 : ∀ j, j < 310 → mgi y 68 j = -9 := fun j hj => by rw [ey, mgi_msi, if_neg (by omega)]; exact x1 j hj
    have y4 : mgi y 67 4 = plC s := by rw [fy.1 67 4 (by omega) (by omega) (by omega)]; exact v4
    rw [x_X7_goFrom_53_s, if_pos (by decide), mlet_eq, ← ey, y4]
    rcases wp with ⟨p1, p2⟩ | ⟨q, p1, p2⟩
    · have no : x_X1_numberOf N (1 + 4) (-1) y = some (-9) := no_none (a := 5) hN w (fy.al al0)
      obtain ⟨M, hM⟩ : ∃ M, N = M + 1 := ⟨N - 1, by omega⟩
      have st : ∀ K, x_X7_goFrom_91 K 1 (M + 1) 0 y = some y := fun K => by
        rw [x_X7_goFrom_91_s, if_neg (by decide), y2, if_pos (by decide)]
      have st' := st N
      rw [← hM] at st'
      refine ⟨y, ?_, ⟨(fun q hq => by rw [p1] at hq; cases hq), fun _ => ⟨y2, y8⟩⟩, out y fy⟩
      unfold x_X7_reach
      rw [plC_none p1, no, Option.bind_some, if_pos rfl, Option.bind_some]
      exact st'
    · have il := List.idxOf_lt_length_of_mem p2
      have no : x_X1_numberOf N (1 + 4) (shl s q) y = some (nI ((ans s).idxOf q)) := by
        have := no_ans (N := N) (a := 5) hN w (fy.al al0) (ans_lt p2)
        unfold nm at this
        rw [if_pos p2] at this
        exact this
      obtain ⟨x', ex'⟩ : ∃ x', x' = msi (msi (msi y 68 ((ans s).idxOf q) 0) 69 0 (nI ((ans s).idxOf q))) 67 2 1 := ⟨_, rfl⟩
      have wm : WM x' (ans s).length [(ans s).idxOf q] (fun _ => 0) := by
        rw [ex']
        refine ⟨by rw [mgi_same]; rfl, fun z u hz => ?_, fun k hk => ?_⟩
        · rw [mgi_msi, if_neg (by omega), mgi_msi]
          cases z with
          | zero =>
            rw [if_pos ⟨rfl, rfl⟩]
            have : (ans s).idxOf q = u := by simpa using hz
            rw [this]
          | succ z => simp at hz
        · rw [mgi_msi, if_neg (by omega), mgi_msi, if_neg (by omega), mgi_msi]
          by_cases d : k = (ans s).idxOf q
          · rw [if_pos ⟨rfl, d⟩, if_pos (by rw [d]; simp)]; rfl
          · rw [if_neg (fun z => d z.2), if_neg (by rw [List.mem_singleton]; exact d)]
            exact y8 k (by omega)
      have fx' : frWk h0 x' := fy.trans ⟨fun b j z1 z2 z3 => by rw [ex', mgi_msi, if_neg (by omega), mgi_msi, if_neg (by omega), mgi_msi, if_neg (by omega)], fun b j => by rw [ex']; rfl⟩
      obtain ⟨h', g1, g2, g3, g4⟩ := go91 hN w cs0 al0 wm il fx'
      refine ⟨h', ?_, ⟨fun q' hq' => ?_, fun hn => by rw [p1] at hn; cases hn⟩, out h' g4⟩
      · unfold x_X7_reach
        rw [plC_some p1, no, Option.bind_some, if_neg (nI_n9 (by omega)), mck_ok (vp_in_nI (by omega) (by decide)), nI_clamp (by omega), y8 _ (by omega), if_neg (not_not_intro rfl), y2, if_neg (by decide), mck_ok (vp_in_nI (by omega) (by decide)), mlet_eq, mgi_msi, if_neg (by omega), y2, mck_ok (show vp_in (0 : Int32) 310 by unfold vp_in; decide), mlet_eq, mgi_msi, if_neg (by omega), mgi_msi, if_neg (by omega), y2, mlet_eq, Option.bind_some]
        rw [ex'] at g1
        exact g1
      · rw [p1] at hq'
        cases hq'
        exact ⟨g2, g3⟩
theorem C_go {N t : Nat} {h : mH} {z : St} (hN : 400 < N) (hw : WF z) (hc : IC t h z) : ∃ h', x_X7_goFrom N 1 h = some h' ∧ IC t h' z ∧ GR h' z.2.1 ∧ frG3 h h' := by
  have w := hw.2.1.1
  have wp := hw.2.1.2
  have pc : mgi h (1 + 1) 6 = plC z.2.1 := hc.2.1.2.2.2.2.2.2
  have walk : ∃ h', x_X7_goFrom_29 N 1 h = some h' ∧ IC t h' z ∧ GR h' z.2.1 ∧ frG3 h h' := by
    obtain ⟨h', e1, gr, e3, e4, fr⟩ := go29 hN w wp hc.2.1 hc.2.2.1
    refine ⟨h', e1, ?_, gr, fr⟩
    obtain ⟨x1, x2, x3, ⟨ed, d1, d2, e', d3, d4⟩, x5, x6, x7, x8, x9, x10⟩ := hc
    have F : ∀ b, b ≠ 67 → b ≠ 68 → b ≠ 69 → ∀ k, mgi h' b k = mgi h b k := fun b a1 a2 a3 k => fr.1 b k a1 a2 a3
    refine ⟨⟨by rw [F 15 (by decide) (by decide) (by decide)]; exact x1.1, fun k hk => by rw [F 16 (by decide) (by decide) (by decide)]; exact x1.2 k hk⟩, x2.congr (F _ (by decide) (by decide) (by decide)) (F _ (by decide) (by decide) (by decide)) (F _ (by decide) (by decide) (by decide)), x3.congr (F _ (by decide) (by decide) (by decide)) (F _ (by decide) (by decide) (by decide)) (F _ (by decide) (by decide) (by decide)) (fun k => fr.2 5 k), ⟨ed, d1, by rw [F 5 (by decide) (by decide) (by decide)]; exact d2, ed, Nat.le_refl _, Or.inl (by rw [e3]; exact d2)⟩, fun _ => ?_, ?_, ?_, ?_, ⟨by rw [F 0 (by decide) (by decide) (by decide)]; exact x9.1, by rw [F 0 (by decide) (by decide) (by decide)]; exact x9.2.1, by rw [F 0 (by decide) (by decide) (by decide)]; exact x9.2.2⟩, by rw [fr.2]; exact x10⟩
    · rcases wp with ⟨p1, p2⟩ | ⟨q, p1, p2⟩
      · exact ⟨0, Or.inr ⟨by rw [e4, plC_none p1], (gr.2 p1).1, p2, (gr.2 p1).2⟩⟩
      · exact ⟨q, Or.inl ⟨by rw [e4, plC_some p1], p2, (gr.1 q p1).1, (gr.1 q p1).2⟩⟩
    · rcases x6 with g | ⟨s, g1, g2⟩
      · exact Or.inl (by rw [fr.2]; exact g)
      · exact Or.inr ⟨s, g1, g2.congr (F _ (by decide) (by decide) (by decide)) (F _ (by decide) (by decide) (by decide)) (F _ (by decide) (by decide) (by decide)) (fun k => fr.2 _ k)⟩
    · have : iA h z.2.2.1 := x7
      exact this.congr (fun b b1 b2 k => F b (by omega) (by omega) (by omega) k)
    · have : iK h z.2.2.2.1 := x8
      exact this.congr (fun b b1 b2 k => F b (by omega) (by omega) (by omega) k)
  unfold x_X7_goFrom
  by_cases c1 : mgi h 67 3 = mgi h (1 + 4) 4
  · by_cases c2 : mgi h 67 4 = mgi h (1 + 1) 6
    · rw [if_neg (not_not_intro c1), if_neg (not_not_intro c2)]
      refine ⟨h, rfl, hc, ?_, fun _ _ _ _ _ => rfl, fun _ _ => rfl⟩
      obtain ⟨q, hq⟩ := hc.2.2.2.2.1 c1
      rw [pc] at c2
      rcases hq with ⟨a1, a2, a3, a4⟩ | ⟨a1, a2, a3, a4⟩
      · refine ⟨fun q' hq' => ?_, fun hn => ?_⟩
        · rw [c2, plC_some hq'] at a1
          rcases wp with ⟨p1, p2⟩ | ⟨y, p1, p2⟩
          · rw [p1] at hq'; cases hq'
          · have ey : y = q' := by rw [p1] at hq'; cases hq'; rfl
            rw [ey] at p2
            have : q' = q := (shl_inj w (ans_lt p2) (ans_lt a2)).mp a1
            rw [this]
            exact ⟨a3, a4⟩
        · rw [c2, plC_none hn] at a1
          exact absurd a1.symm (shl_pos w (ans_lt a2))
      · refine ⟨fun q' hq' => ?_, fun hn => ⟨a2, a4⟩⟩
        rcases wp with ⟨p1, p2⟩ | ⟨q2, p1, p2⟩
        · rw [p1] at hq'; cases hq'
        · rw [a3] at p2; cases p2
    · rw [if_neg (not_not_intro c1), if_pos c2]; exact walk
  · rw [if_pos c1]; exact walk
/-! the model's walk -/
theorem lowbit : ∀ (m x : Nat), x < 2 ^ m → 0 < x → bc (x &&& (x - 1)) m + 1 = bc x m := by
  have bc_s : ∀ x m, bc x (m + 1) = (if x % 2 = 1 then 1 else 0) + bc (x / 2) m := fun x m => by
    unfold bc
    rw [Nat.add_comm m 1, fb_ct_split]
    congr 1
    · rw [show (1 : Nat) = 0 + 1 from rfl, fb_ct_succ, Nat.testBit_zero]
      show 0 + _ = _
      rw [Nat.zero_add]
      by_cases c : x % 2 = 1 <;> simp [c]
    · refine fb_ct_cong fun k _ => ?_
      rw [Nat.add_comm 1 k, Nat.testBit_succ]
  intro m
  induction m with
  | zero => intro x hx h0; simp at hx; omega
  | succ m ih =>
    intro x hx h0
    rw [Nat.pow_succ] at hx
    rw [bc_s, bc_s]
    have e0 : (x &&& (x - 1)) % 2 = 0 := by
      have t : (x &&& (x - 1)).testBit 0 = false := by
        rw [Nat.testBit_and, Nat.testBit_zero, Nat.testBit_zero]
        by_cases c : x % 2 = 1
        · have : (x - 1) % 2 = 0 := by omega
          simp [this]
        · simp [c]
      rw [Nat.testBit_zero] at t
      have : ¬ (x &&& (x - 1)) % 2 = 1 := by simpa using t
      omega
    have e1 : (x &&& (x - 1)) / 2 = x / 2 &&& (x - 1) / 2 := by
      refine Nat.eq_of_testBit_eq fun i => ?_
      rw [Nat.testBit_and, ← Nat.testBit_succ, ← Nat.testBit_succ, ← Nat.testBit_succ, Nat.testBit_and]
    rw [e0, if_neg (by decide), e1]
    by_cases c : x % 2 = 1
    · rw [if_pos c, show (x - 1) / 2 = x / 2 by omega, Nat.and_self]; omega
    · rw [if_neg c, show (x - 1) / 2 = x / 2 - 1 by omega]
      have := ih (x / 2) (by omega) (by omega)
      omega
def rl (x : Nat) : Nat := x &&& (x - 1)
theorem rl_I {x : Nat} (hx : x < 2 ^ 20) : nI x &&& (nI x - 1) = nI (rl x) := by
  unfold rl
  cases x with
  | zero => rfl
  | succ x => rw [nI_pred, fa_and, Nat.add_sub_cancel]
theorem rl_lt {x : Nat} (hx : x < 2 ^ 20) : rl x < 2 ^ 20 := Nat.lt_of_le_of_lt (Nat.and_le_left) hx
theorem rl_bc {x : Nat} (hx : x < 2 ^ 20) : bc (rl x) 20 = bc x 20 - 1 := by
  rcases Nat.eq_zero_or_pos x with e | e
  · subst e; rfl
  · have := lowbit 20 x hx e
    unfold rl
    omega
theorem bc_0 {x : Nat} (hx : x < 2 ^ 20) : x = 0 ↔ bc x 20 = 0 := by
  constructor
  · intro e; rw [e]; decide
  · intro e
    refine Nat.eq_of_testBit_eq fun i => ?_
    rw [Nat.zero_testBit]
    rcases Nat.lt_or_ge i 20 with c | c
    · exact fb_ct_zero.mp e i c
    · exact Nat.testBit_lt_two_pow (Nat.lt_of_lt_of_le hx (Nat.pow_le_pow_right (by decide) c))
theorem areFour_eq {x : Nat} (hx : x < 2 ^ 20) : x_X9_areFour (nI x) = some (b2i (bc x 20 == 4)) := by
  have l1 := rl_lt hx
  have l2 := rl_lt l1
  have l3 := rl_lt l2
  have l4 := rl_lt l3
  have b1 := rl_bc hx
  have b2 := rl_bc l1
  have b3 := rl_bc l2
  have b4 := rl_bc l3
  unfold x_X9_areFour
  rw [mlet_eq, rl_I hx, mlet_eq, rl_I l1, mlet_eq, rl_I l2, rl_I l3]
  congr 1
  by_cases c : rl (rl (rl x)) = 0
  · have := (bc_0 l3).mp c
    have ne : ¬ bc x 20 = 4 := by omega
    rw [c, if_pos (by decide), beq_eq_false_iff_ne.mpr ne]; rfl
  · have n3 : ¬ bc (rl (rl (rl x))) 20 = 0 := fun q => c ((bc_0 l3).mpr q)
    rw [if_neg (nI_ne0 (by omega) (by omega))]
    by_cases d : rl (rl (rl (rl x))) = 0
    · have := (bc_0 l4).mp d
      have e : bc x 20 = 4 := by omega
      rw [d, if_neg (by decide), beq_iff_eq.mpr e]; rfl
    · have n4 : ¬ bc (rl (rl (rl (rl x)))) 20 = 0 := fun q => d ((bc_0 l4).mpr q)
      have ne : ¬ bc x 20 = 4 := by omega
      rw [if_pos (nI_ne0 (by omega) (by omega)), beq_eq_false_iff_ne.mpr ne]; rfl
