/-! see, ask -/
theorem or_zero32 (x : Int32) : x ||| 0 = x := b_ext fun i _ => by rw [b_or, b_0, Bool.or_false]
theorem seen_get {l : List (Nat × Bool)} {e q : Nat × Bool} {j : Nat} (h : (l ++ [e])[j]? = some q) : (j < l.length ∧ l[j]? = some q) ∨ (j = l.length ∧ q = e) := by
  by_cases c : j < l.length
  · rw [List.getElem?_append_left c] at h
    exact Or.inl ⟨c, h⟩
  · rw [List.getElem?_append_right (by omega)] at h
    by_cases d : j - l.length = 0
    · rw [d] at h
      simp at h
      exact Or.inr ⟨by omega, h.symm⟩
    · obtain ⟨n, hn⟩ : ∃ n, j - l.length = n + 1 := ⟨j - l.length - 1, by omega⟩
      rw [hn] at h
      simp at h
theorem S_see {t : Nat} {h : mH} {z : St} (hw : WF z) (hc : IC t h z) (hm : IM h z) (a b : Int32) : GW t (xcW (x_X8_see a b h) (fun h1 => x_X9_see a b h1)) := by
  obtain ⟨c1, c2, c3⟩ := hc.2.2.2.2.2.2.2.2.1
  have sl := hw.2.2.2.2.1
  rcases in_cases a (n := 20) (by decide) with ⟨k, hk, rfl⟩ | ⟨ca, na⟩
  · rcases side_cases b with ⟨v, hv, rfl⟩ | ⟨n0, n1, nb⟩
    · have hd : x_X8_see (nI k) (nI v) h = x_X8_see_22 (nI k) (nI v) h := by
        unfold x_X8_see
        rw [if_neg (nI_pos (by omega)), if_neg (show ¬ (20 : Int32) ≤ nI k from nI_ge (b := 20) hk (by decide))]
        rcases (by omega : v = 0 ∨ v = 1) with q | q
        · subst q; rw [if_pos (by decide)]
        · subst q; rw [if_neg (by decide), if_pos (by decide)]
      have i1 : x_X9_in (nI k).toInt64 0 (19 : Int64) = some 1 := by
        rw [show (19 : Int64) = (nI 19).toInt64 by decide, inN _ (by decide), if_pos ⟨k, hk, rfl⟩]
      have i2 : x_X9_in (nI v).toInt64 0 (1 : Int64) = some 1 := by
        rw [show (1 : Int64) = (nI 1).toInt64 by decide, inN _ (by decide), if_pos ⟨v, hv, rfl⟩]
      by_cases f : z.2.2.2.2.1.length < 6
      · refine ok_W (r := nI (z.2.2.2.2.1.length + 1)) (z' := (z.1, z.2.1, z.2.2.1, z.2.2.2.1, z.2.2.2.2.1 ++ [(k, v == 1)], z.2.2.2.2.2)) hm ?_ ?_ (fun h1 hm1 => ?_)
        · refine ⟨hw.1, hw.2.1, hw.2.2.1, hw.2.2.2.1, ?_, fun e he => ?_⟩
          · show (z.2.2.2.2.1 ++ [(k, v == 1)]).length ≤ 6
            simp; omega
          · have he' : e ∈ z.2.2.2.2.1 ++ [(k, v == 1)] := he
            rw [List.mem_append] at he'
            rcases he' with q | q
            · exact hw.2.2.2.2.2 e q
            · rw [List.mem_singleton] at q; rw [q]; exact hk
        · rw [hd]
          unfold x_X8_see_22 x_X8_see_68
          rw [c1, if_pos (show nI z.2.2.2.2.1.length < (6 : Int32) from nI_lt (b := 6) f (by decide)), bit_of k hk]
          simp only [Option.bind_some, mlet_eq]
          rcases (by omega : v = 0 ∨ v = 1) with q | q
          · subst q
            rw [if_pos (by decide)]
            refine ⟨msi (msi h 0 10 (mgi h 0 10 ||| nI (2 ^ (19 - k)))) 0 11 (nI (z.2.2.2.2.1.length + 1)), ?_, IC.next (hc.seen (h' := msi (msi h 0 10 (mgi h 0 10 ||| nI (2 ^ (19 - k)))) 0 11 (nI (z.2.2.2.2.1.length + 1))) (se := z.2.2.2.2.1 ++ [(k, 0 == 1)]) ?_ (fun _ _ => rfl) ?_), (frC_i (by decide)).trans (frC_i (by decide))⟩
            · simp [mgi_msi, c1, nI_1]
            · intro a ha k
              rw [mgi_msi, if_neg (by omega), mgi_msi, if_neg (by omega)]
            · refine ⟨?_, ?_, ?_⟩
              · rw [mgi_msi, if_pos ⟨rfl, rfl⟩]; simp
              · rw [mgi_msi, if_neg (by omega), mgi_msi, if_neg (by omega), List.map_append, List.map_cons, List.map_nil, orAll_app, c2]
                simp [or_zero32]
              · rw [mgi_msi, if_neg (by omega), mgi_msi, if_pos ⟨rfl, rfl⟩, List.map_append, List.map_cons, List.map_nil, orAll_app, c3]
                simp
          · subst q
            rw [if_neg (by decide)]
            refine ⟨msi (msi h 0 9 (mgi h 0 9 ||| nI (2 ^ (19 - k)))) 0 11 (nI (z.2.2.2.2.1.length + 1)), ?_, IC.next (hc.seen (h' := msi (msi h 0 9 (mgi h 0 9 ||| nI (2 ^ (19 - k)))) 0 11 (nI (z.2.2.2.2.1.length + 1))) (se := z.2.2.2.2.1 ++ [(k, 1 == 1)]) ?_ (fun _ _ => rfl) ?_), (frC_i (by decide)).trans (frC_i (by decide))⟩
            · simp [mgi_msi, c1, nI_1]
            · intro a ha k
              rw [mgi_msi, if_neg (by omega), mgi_msi, if_neg (by omega)]
            · refine ⟨?_, ?_, ?_⟩
              · rw [mgi_msi, if_pos ⟨rfl, rfl⟩]; simp
              · rw [mgi_msi, if_neg (by omega), mgi_msi, if_pos ⟨rfl, rfl⟩, List.map_append, List.map_cons, List.map_nil, orAll_app, c2]
                simp
              · rw [mgi_msi, if_neg (by omega), mgi_msi, if_neg (by omega), List.map_append, List.map_cons, List.map_nil, orAll_app, c3]
                simp [or_zero32]
        · have m1 := hm1.2.2.2.2.1.1
          have m2 := hm1.2.2.2.2.1.2
          have e1 : mgi (msi h1 82 0 0) 82 10 = nI z.2.2.2.2.1.length := by rw [mgi_msi, if_neg (by omega)]; exact m1
          have e2 : ∀ v, mgi (msi (msi h1 82 0 0) 90 z.2.2.2.2.1.length v) 82 10 = nI z.2.2.2.2.1.length := fun v => by rw [mgi_msi, if_neg (by omega)]; exact e1
          have e3 : ∀ v w, mgi (msi (msi (msi h1 82 0 0) 90 z.2.2.2.2.1.length v) 91 z.2.2.2.2.1.length w) 82 10 = nI z.2.2.2.2.1.length := fun v w => by rw [mgi_msi, if_neg (by omega)]; exact e2 v
          refine ⟨msi (msi (msi (msi h1 82 0 0) 90 z.2.2.2.2.1.length (nI k)) 91 z.2.2.2.2.1.length (nI v)) 82 10 (nI (z.2.2.2.2.1.length + 1)), ?_, hm1.seen (se := z.2.2.2.2.1 ++ [(k, v == 1)]) ?_ ?_ (fun _ => rfl) ?_ ?_, (frM_i (by decide)).trans ((frM_i (by decide)).trans ((frM_i (by decide)).trans (frM_i (by decide))))⟩
          · unfold x_X9_see
            simp only [mlet_eq]
            rw [i1]
            simp only [Option.bind_some]
            rw [if_neg (by decide), i2]
            simp only [Option.bind_some]
            rw [if_pos (by decide), e1, if_pos (by rw [show (6 : Int32) = nI 6 from rfl, nI_eq (by omega) (by decide)]; omega), mck_ok (vp_in_nI f (by decide)), nI_clamp (by omega), e2, mck_ok (vp_in_nI f (by decide)), nI_clamp (by omega), e3, nI_1, mgi_msi, if_pos ⟨rfl, rfl⟩]
          · intro a h1 h2 h3 k
            rw [mgi_msi, if_neg (by omega), mgi_msi, if_neg (by omega), mgi_msi, if_neg (by omega), mgi_msi, if_neg (by omega)]
          · intro k h1 h2
            rw [mgi_msi, if_neg (by omega), mgi_msi, if_neg (by omega), mgi_msi, if_neg (by omega), mgi_msi, if_neg (by omega)]
          · rw [mgi_msi, if_pos ⟨rfl, rfl⟩]; simp
          · intro j q hq
            rcases seen_get hq with ⟨g1, g2⟩ | ⟨g1, g2⟩
            · rw [mgi_msi, if_neg (by omega), mgi_msi, if_neg (by omega), mgi_msi, if_neg (by omega), mgi_msi, if_neg (by omega), mgi_msi, if_neg (by omega), mgi_msi, if_neg (by omega), mgi_msi, if_neg (by omega), mgi_msi, if_neg (by omega)]
              exact m2 j q g2
            · subst g1
              subst g2
              refine ⟨?_, ?_⟩
              · rw [mgi_msi, if_neg (by omega), mgi_msi, if_neg (by omega), mgi_msi, if_pos ⟨rfl, rfl⟩]
              · rw [mgi_msi, if_neg (by omega), mgi_msi, if_pos ⟨rfl, rfl⟩]
                rcases (by omega : v = 0 ∨ v = 1) with q | q <;> subst q <;> rfl
      · refine ok_W (r := -4) (z' := z) hm hw ⟨h, ?_, hc.next, frC.rfl⟩ (fun h1 hm1 => ⟨_, ?_, hm1.thr 0, frM_i (by decide)⟩)
        · rw [hd]
          unfold x_X8_see_22
          rw [c1, if_neg (show ¬ nI z.2.2.2.2.1.length < (6 : Int32) from nI_nlt (b := 6) (by omega) (by omega))]
        · have e1 : mgi (msi h1 82 0 0) 82 10 = nI z.2.2.2.2.1.length := by rw [mgi_msi, if_neg (by omega)]; exact hm1.2.2.2.2.1.1
          have l6 : z.2.2.2.2.1.length = 6 := by omega
          unfold x_X9_see
          simp only [mlet_eq]
          rw [i1]
          simp only [Option.bind_some]
          rw [if_neg (by decide), i2]
          simp only [Option.bind_some]
          rw [if_pos (by decide), e1, l6, if_neg (fun q => q rfl)]
    · refine ok_W (r := -2) (z' := z) hm hw ⟨h, ?_, hc.next, frC.rfl⟩ (fun h1 hm1 => ⟨_, ?_, hm1.thr 0, frM_i (by decide)⟩)
      · unfold x_X8_see
        rw [if_neg (nI_pos (by omega)), if_neg (show ¬ (20 : Int32) ≤ nI k from nI_ge (b := 20) hk (by decide)), if_neg n0, if_neg n1]
      · unfold x_X9_see
        simp only [mlet_eq]
        rw [show (19 : Int64) = (nI 19).toInt64 by decide, inN _ (by decide), if_pos ⟨k, hk, rfl⟩]
        simp only [Option.bind_some]
        rw [if_neg (by decide), show (1 : Int64) = (nI 1).toInt64 by decide, inN _ (by decide), if_neg nb]
        simp only [Option.bind_some]
        rw [if_neg (by decide)]
  · refine ok_W (r := -2) (z' := z) hm hw ⟨h, ?_, hc.next, frC.rfl⟩ (fun h1 hm1 => ⟨_, ?_, hm1.thr 0, frM_i (by decide)⟩)
    · unfold x_X8_see
      by_cases q : a < 0
      · rw [if_pos q]
      · rw [if_neg q, if_pos (show (20 : Int32) ≤ a from ca.resolve_left q)]
    · unfold x_X9_see
      simp only [mlet_eq]
      rw [show (19 : Int64) = (nI 19).toInt64 by decide, inN _ (by decide), if_neg na]
      simp only [Option.bind_some]
      rw [if_pos (by decide)]
theorem ccells_eq {a : Nat} {s : Sh} {h : mH} (w : WS s) (cs : CS h a s) : x_X6_cells a h = some (nI (sN s)) := by
  unfold x_X6_cells sN
  rw [cs.1, cs.2.1, pk_mul]
/-- ask: the state behind k cells -/
def grN (s : Sh) (k : Nat) : Nat := if yesN s k ≤ (ans s).length - yesN s k then (ans s).length - yesN s k else yesN s k
def askS (s : Sh) : Nat → Int32 × Int32
  | 0 => (-9, -9)
  | k + 1 => if sureS s k = 2 then (if (askS s k).1 = -9 then (nI k, nI (grN s k)) else if (askS s k).2 ≤ nI (grN s k) then askS s k else (nI k, nI (grN s k))) else askS s k
theorem jmax_nI {a b : Nat} (ha : a < 2 ^ 31) (hb : b < 2 ^ 31) : x_J9_max_7cf53 (nI a) (nI b) = some (nI (if a ≤ b then b else a)) := by
  unfold x_J9_max_7cf53
  congr 1
  by_cases c : a ≤ b
  · rw [if_pos c]
    by_cases d : a < b
    · rw [if_pos (nI_lt d hb)]
    · have : a = b := by omega
      rw [if_neg (nI_nlt (by omega) (by omega)), this]
  · rw [if_neg c, if_neg (nI_nlt (by omega) ha)]
theorem askS_0 (s : Sh) : askS s 0 = (-9, -9) := by rw [askS]
theorem cask_eq {N v : Nat} {h : mH} {s : Sh} (hN : 1000 < N) (w : WS s) (cs : CS h 2 s) (al : AL h 5 s) (hv : v < 2) : x_X8_ask N (nI v) h = some (if ¬ nI v = 0 then (askS s (sN s)).2 else (askS s (sN s)).1) := by
  have n20 := w.n20
  have l310 := ans_310 w
  have hd : x_X8_ask N (nI v) h = x_X8_ask_21 N (nI v) h N (-9) (-9) 0 := by
    unfold x_X8_ask x_X8_ask_12
    rcases (by omega : v = 0 ∨ v = 1) with q | q
    · subst q; rw [if_pos (by decide)]
    · subst q; rw [if_neg (by decide), if_pos (by decide)]
  rw [hd]
  have K := lpV (fun f (x : Int32 × Int32) i => x_X8_ask_21 N (nI v) h f x.1 x.2 i) (askS s) (sN s) (some (if ¬ nI v = 0 then (askS s (sN s)).2 else (askS s (sN s)).1)) (fun f j hj => ?_) (fun f => ?_) (f := N) (by omega)
  · rw [askS_0] at K
    exact K
  · have yl := yesN_le s j
    show x_X8_ask_21 N (nI v) h (f + 1) (askS s j).1 (askS s j).2 (nI j) = x_X8_ask_21 N (nI v) h f (askS s (j + 1)).1 (askS s (j + 1)).2 (nI (j + 1))
    rw [x_X8_ask_21_s, ccells_eq w cs]
    simp only [Option.bind_some]
    rw [if_neg (nI_ge hj (by omega)), sureAt_eq w al hj]
    simp only [Option.bind_some]
    unfold x_X8_ask_104 x_X8_ask_98 x_X8_ask_104
    rw [askS]
    by_cases c1 : sureS s j = 2
    · rw [if_neg (fun q => q c1), if_pos c1, yesAt_eq (by omega) w al hj, Option.bind_some, al.2.2.1, pk_sub yl, jmax_nI (by omega) (by omega), Option.bind_some]
      have eg : (if yesN s j ≤ (ans s).length - yesN s j then (ans s).length - yesN s j else yesN s j) = grN s j := rfl
      rw [nI_1, eg]
      by_cases c2 : (askS s j).1 = (-9 : Int32)
      · rw [if_pos c2, if_pos c2]
      · rw [if_neg c2, if_neg c2]
        by_cases c3 : (askS s j).2 ≤ nI (grN s j)
        · rw [if_pos c3, if_pos c3]
        · rw [if_neg c3, if_neg c3]
    · rw [if_pos c1, if_neg c1, nI_1]
  · show x_X8_ask_21 N (nI v) h (f + 1) _ _ (nI (sN s)) = _
    rw [x_X8_ask_21_s, ccells_eq w cs]
    simp only [Option.bind_some]
    rw [if_pos (nI_le (Nat.le_refl _) (by omega))]
theorem mask_eq {N v : Nat} {h : mH} {s : Sh} (hN : 1000 < N) (w : WS s) (ms : MS h 85 0 s) (l : LsA h (ans s)) : x_X9_ask_36 N (nI v) N (-9) (-9) 0 h = some ((if ¬ nI v = 0 then (askS s (sN s)).2 else (askS s (sN s)).1), h) := by
  have n20 := w.n20
  have l310 := ans_310 w
  have K := lpV (fun f (x : Int32 × Int32) i => x_X9_ask_36 N (nI v) f x.1 x.2 i h) (askS s) (sN s) (some ((if ¬ nI v = 0 then (askS s (sN s)).2 else (askS s (sN s)).1), h)) (fun f j hj => ?_) (fun f => ?_) (f := N) (by omega)
  · rw [askS_0] at K
    exact K
  · have yl := yesN_le s j
    show x_X9_ask_36 N (nI v) (f + 1) (askS s j).1 (askS s j).2 (nI j) h = x_X9_ask_36 N (nI v) f (askS s (j + 1)).1 (askS s (j + 1)).2 (nI (j + 1)) h
    rw [x_X9_ask_36_s, cells_eq ms]
    simp only [Option.bind_some]
    rw [if_neg (nI_ge hj (by omega)), myesIn_eq (by omega) w ms l hj]
    simp only [Option.bind_some, mlet_eq]
    rw [l.1, pk_sub yl, msure_eq (by omega) w ms l hj]
    simp only [Option.bind_some]
    have eg : (if nI (yesN s j) ≤ nI ((ans s).length - yesN s j) then nI ((ans s).length - yesN s j) else nI (yesN s j)) = nI (grN s j) := by
      unfold grN
      by_cases c : yesN s j ≤ (ans s).length - yesN s j
      · rw [if_pos (nI_le c (by omega)), if_pos c]
      · rw [if_neg (fun q => c ((nI_leI (by omega) (by omega)).mp q)), if_neg c]
    rw [eg]
    unfold x_X9_ask_118 x_X9_ask_112 x_X9_ask_118
    rw [askS]
    by_cases c1 : sureS s j = 2
    · rw [if_neg (fun q => q c1), if_pos c1, nI_1]
      by_cases c2 : (askS s j).1 = (-9 : Int32)
      · rw [if_pos c2, if_pos c2]
      · rw [if_neg c2, if_neg c2]
        by_cases c3 : (askS s j).2 ≤ nI (grN s j)
        · rw [if_pos c3, if_pos c3]
        · rw [if_neg c3, if_neg c3]
    · rw [if_pos c1, if_neg c1, nI_1]
  · show x_X9_ask_36 N (nI v) (f + 1) _ _ (nI (sN s)) h = _
    rw [x_X9_ask_36_s, cells_eq ms]
    simp only [Option.bind_some]
    rw [if_pos (nI_le (Nat.le_refl _) (by omega))]
theorem S_ask {N t : Nat} {h : mH} {z : St} (hN : 1000 < N) (hw : WF z) (hc : IC t h z) (hm : IM h z) (a : Int32) : GW t (xcR (x_X8_ask N a h) h (fun h1 => x_X9_ask N a h1)) := by
  have w := hw.2.1.1
  have cs := hc.2.1
  have al := hc.2.2.1
  rcases side_cases a with ⟨v, hv, rfl⟩ | ⟨n0, n1, na⟩
  · obtain ⟨h', e', l', i', f'⟩ := M_list (by omega : 400 < N) hw (hm.thr 0)
    refine ok_R hc hm hw (cask_eq hN w cs al hv) ⟨h', ?_, i', (frM_i (by decide)).trans f'.frM⟩
    unfold x_X9_ask
    simp only [mlet_eq]
    rw [show (1 : Int64) = (nI 1).toInt64 by decide, inN _ (by decide), if_pos ⟨v, hv, rfl⟩]
    simp only [Option.bind_some]
    rw [if_pos (by decide), e']
    simp only [Option.bind_some]
    exact mask_eq hN w i'.2.1 l'
  · refine ok_R (r := -2) hc hm hw ?_ ⟨_, ?_, hm.thr 0, frM_i (by decide)⟩
    · unfold x_X8_ask
      rw [if_neg n0, if_neg n1]
    · unfold x_X9_ask
      simp only [mlet_eq]
      rw [show (1 : Int64) = (nI 1).toInt64 by decide, inN _ (by decide), if_neg na]
      simp only [Option.bind_some]
      rw [if_neg (by decide)]
