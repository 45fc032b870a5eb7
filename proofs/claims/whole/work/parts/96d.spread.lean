/-! the model's walk -/
def MM (h : mH) (L : Nat) (Q : List Nat) (D : Nat → Nat) : Prop := (∀ x u, Q[x]? = some u → mgi h 96 x = nI u) ∧ ∀ k, k < L → mgi h 95 k = if k ∈ Q then nI (D k) else -9
def frSp (h h' : mH) : Prop := (∀ b k, b ≠ 95 → b ≠ 96 → mgi h' b k = mgi h b k) ∧ ∀ b k, mgl h' b k = mgl h b k
theorem frSp.refl {h : mH} : frSp h h := ⟨fun _ _ _ _ => rfl, fun _ _ => rfl⟩
theorem frSp.trans {h h1 h2 : mH} (a : frSp h h1) (b : frSp h1 h2) : frSp h h2 := ⟨fun c k x y => (b.1 c k x y).trans (a.1 c k x y), fun c k => (b.2 c k).trans (a.2 c k)⟩
theorem frSp.ls {h h' : mH} {l : List Nat} (f : frSp h h') (m : LsA h l) : LsA h' l := ⟨by rw [f.1 82 17 (by omega) (by omega)]; exact m.1, fun j hj => by rw [f.1 94 j (by omega) (by omega)]; exact m.2 j hj⟩
theorem nbr_comm (l : List Nat) (k j : Nat) : nbr l k j = nbr l j k := by unfold nbr nb4; rw [Nat.xor_comm]
theorem sp80 {N i : Nat} {s : Sh} {h0 h : mH} (hN : 1000 < N) (w : WS s) (ls : LsA h0 (ans s)) (hW : MM h (ans s).length [i] (fun _ => 0)) (hi : i < (ans s).length) (fr : frSp h0 h) : ∃ h', x_X9_spread_80 N N 1 0 h = some (nI (rchN (ans s) i), h') ∧ (∀ k, k < (ans s).length → mgi h' 95 k = dstI (ans s) i k) ∧ frSp h0 h' := by
  have l310 := ans_310 w
  refine lpI (fun f (x : Int32 × mH) j => x_X9_spread_80 N f x.1 j x.2) (fun a x => ∃ Q D, x.1 = nI Q.length ∧ MM x.2 (ans s).length Q D ∧ BJ (ans s) i a Q D ∧ frSp h0 x.2 ∧ a ≤ Q.length) (fun o => ∃ h', o = some (nI (rchN (ans s) i), h') ∧ (∀ k, k < (ans s).length → mgi h' 95 k = dstI (ans s) i k) ∧ frSp h0 h') (ans s).length (fun f a x ha hx => ?_) (fun f x hx => ?_) N 0 (1, h) (by omega) (by omega) ⟨[i], fun _ => 0, rfl, hW, BJ.start hi, fr, Nat.zero_le _⟩
  · obtain ⟨Q, D, x1, mm, bj, fx, le⟩ := hx
    have ql := bj.len
    show (∃ x' : Int32 × mH, x_X9_spread_80 N (f + 1) x.1 (nI a) x.2 = x_X9_spread_80 N f x'.1 (nI (a + 1)) x'.2 ∧ _) ∨ ∃ h', x_X9_spread_80 N (f + 1) x.1 (nI a) x.2 = some (_, h') ∧ _
    rw [x_X9_spread_80_s, x1]
    by_cases c1 : a = Q.length
    · obtain ⟨f1, f2⟩ := bj.fin (Or.inl c1)
      exact Or.inr ⟨x.2, by rw [if_pos (nI_le (by omega) (by omega)), f1], fun k hk => by rw [mm.2 k hk, f2 k hk], fx⟩
    rw [if_neg (nI_ge (by omega) (by omega))]
    have hal : a < Q.length := by omega
    obtain ⟨v, hv⟩ : ∃ v, Q[a]? = some v := ⟨_, List.getElem?_eq_getElem hal⟩
    have vl := bj.1.2 v (List.mem_of_getElem? hv)
    have hqv := ans_lt (getD_mem vl)
    refine Or.inl (lpI (fun g (y : Int32 × mH) j => x_X9_spread_87 N (x_X9_spread_80 N f) (nI a) g y.1 j y.2) (fun k y => ∃ Q D, y.1 = nI Q.length ∧ MM y.2 (ans s).length Q D ∧ BJ (ans s) i a Q D ∧ Q[a]? = some v ∧ frSp h0 y.2 ∧ ∀ u, u < k → nbr (ans s) v u = true → u ∈ Q) (fun o => ∃ x' : Int32 × mH, o = x_X9_spread_80 N f x'.1 (nI (a + 1)) x'.2 ∧ ∃ Q D, x'.1 = nI Q.length ∧ MM x'.2 (ans s).length Q D ∧ BJ (ans s) i (a + 1) Q D ∧ frSp h0 x'.2 ∧ a + 1 ≤ Q.length) (ans s).length (fun g k y hk hy => ?_) (fun g y hy => ?_) N 0 (nI Q.length, x.2) (by omega) (by omega) ⟨Q, D, rfl, mm, bj, hv, fx, fun u hu => by omega⟩)
    · obtain ⟨Q, D, y1, mm, bj, hv, fy, hn⟩ := hy
      have ql := bj.len
      have lsy := fy.ls ls
      have vm : v ∈ Q := List.mem_of_getElem? hv
      have hal : a < Q.length := (List.getElem?_eq_some_iff.mp hv).1
      have hqk := ans_lt (getD_mem hk)
      have e96 : mgi y.2 96 a = nI v := mm.1 a v hv
      have dv : ∀ u ∈ Q, D u < 2 ^ 31 := fun u hu => by
        obtain ⟨x, hx, e⟩ := List.mem_iff_getElem.mp hu
        have := (bj.2.2.2.2.1 x u (by rw [List.getElem?_eq_getElem hx, e])).2
        omega
      refine Or.inl ?_
      show ∃ y' : Int32 × mH, x_X9_spread_87 N (x_X9_spread_80 N f) (nI a) (g + 1) y.1 (nI k) y.2 = x_X9_spread_87 N (x_X9_spread_80 N f) (nI a) g y'.1 (nI (k + 1)) y'.2 ∧ _
      rw [x_X9_spread_87_s, lsy.1, if_neg (nI_ge hk (by omega)), mck_ok (vp_in_nI (by omega) (by decide)), nI_clamp (by omega), mm.2 k hk]
      unfold x_X9_spread_159
      have skip : (nbr (ans s) v k = true → k ∈ Q) → ∃ y' : Int32 × mH, x_X9_spread_87 N (x_X9_spread_80 N f) (nI a) g y.1 (nI k + 1) y.2 = x_X9_spread_87 N (x_X9_spread_80 N f) (nI a) g y'.1 (nI (k + 1)) y'.2 ∧ ∃ Q D, y'.1 = nI Q.length ∧ MM y'.2 (ans s).length Q D ∧ BJ (ans s) i a Q D ∧ Q[a]? = some v ∧ frSp h0 y'.2 ∧ ∀ u, u < k + 1 → nbr (ans s) v u = true → u ∈ Q := fun hk' => ⟨y, by rw [nI_1], Q, D, y1, mm, bj, hv, fy, fun u hu hnu => by
        by_cases d : u = k
        · rw [d] at hnu ⊢; exact hk' hnu
        · exact hn u (by omega) hnu⟩
      by_cases c : k ∈ Q
      · rw [if_pos c, if_pos (nI_n9 (dv k c))]
        exact skip fun _ => c
      · have x20 : (ans s).getD k 0 ^^^ (ans s).getD v 0 < 2 ^ 20 := pw20 w (Nat.xor_lt_two_pow hqk hqv)
        have four : x_X9_areFour (nI ((ans s).getD k 0) ^^^ nI ((ans s).getD v 0)) = some (b2i (nbr (ans s) v k)) := by
          rw [fb_xorI, areFour_eq x20, nbr_comm]
          rfl
        rw [if_neg c, if_neg (not_not_intro rfl), mck_ok (vp_in_nI (by omega) (by decide)), mck_ok (vp_in_nI (by omega) (by decide)), nI_clamp (by omega), e96, mck_ok (vp_in_nI (by omega) (by decide)), nI_clamp (by omega), lsy.2 k hk, lsy.2 v vl, four, Option.bind_some]
        by_cases e : nbr (ans s) v k = true
        · obtain ⟨bj', sm⟩ := bj.add hv hk e c
          have rm := bj.room hk c
          rw [e, if_neg (by decide), mck_ok (vp_in_nI (by omega) (by decide)), mck_ok (vp_in_nI (by omega) (by decide)), mck_ok (vp_in_nI (by omega) (by decide)), mlet_eq, y1, mck_ok (vp_in_nI (by omega) (by decide)), nI_clamp (by omega), mlet_eq, mm.2 v vl, if_pos vm, nI_1, nI_1, nI_1]
          refine ⟨(nI (Q.length + 1), msi (msi y.2 95 k (nI (D v + 1))) 96 Q.length (nI k)), rfl, Q ++ [k], fun u => if u = k then D v + 1 else D u, by rw [List.length_append]; rfl, ⟨fun x u hx => ?_, fun u hu => ?_⟩, bj', ?_, fy.trans ⟨fun b j x1 x2 => by rw [mgi_msi, if_neg (by omega), mgi_msi, if_neg (by omega)], fun b j => rfl⟩, fun u hu hnu => ?_⟩
          · rw [mgi_msi]
            rcases get_app hx with ⟨x1, x2⟩ | ⟨x1, x2⟩
            · rw [if_neg (by omega), mgi_msi, if_neg (by omega)]; exact mm.1 x u x2
            · rw [if_pos ⟨rfl, x1⟩, x2]
          · rw [mgi_msi, if_neg (by omega), mgi_msi]
            show _ = if u ∈ Q ++ [k] then nI (if u = k then D v + 1 else D u) else -9
            by_cases d : u = k
            · rw [if_pos ⟨rfl, d⟩, if_pos (by rw [d]; simp), if_pos d]
            · rw [if_neg (fun q => d q.2), mm.2 u hu, if_neg d]
              by_cases e' : u ∈ Q
              · rw [if_pos e', if_pos (List.mem_append_left _ e')]
              · rw [if_neg e', if_neg (by rw [List.mem_append, List.mem_singleton]; exact fun q => q.elim e' d)]
          · rw [List.getElem?_append_left hal]; exact hv
          · by_cases d : u = k
            · rw [d]; simp
            · exact List.mem_append_left _ (hn u (by omega) hnu)
        · have e' : nbr (ans s) v k = false := by simpa using e
          rw [e', if_pos (show b2i false = 0 from rfl)]
          exact skip fun q => absurd q e
    · obtain ⟨Q, D, y1, mm, bj, hv, fy, hn⟩ := hy
      have lsy := fy.ls ls
      show ∃ x' : Int32 × mH, x_X9_spread_87 N (x_X9_spread_80 N f) (nI a) (g + 1) y.1 (nI (ans s).length) y.2 = _ ∧ _
      rw [x_X9_spread_87_s, lsy.1, if_pos (nI_le (Nat.le_refl _) (by omega)), nI_1]
      exact ⟨y, rfl, Q, D, y1, mm, bj.next hv (fun u hu hnu => hn u hu hnu), fy, (List.getElem?_eq_some_iff.mp hv).1⟩
  · obtain ⟨Q, D, x1, mm, bj, fx, le⟩ := hx
    have ql := bj.len
    obtain ⟨f1, f2⟩ := bj.fin (Or.inl (by omega))
    refine ⟨x.2, ?_, fun k hk => by rw [mm.2 k hk, f2 k hk], fx⟩
    show x_X9_spread_80 N (f + 1) x.1 (nI (ans s).length) x.2 = _
    rw [x_X9_spread_80_s, x1, if_pos (nI_le (by omega) (by omega)), f1]
def rcO (s : Sh) : Int32 := match s.2 with
  | none => 0
  | some q => nI (rchN (ans s) ((ans s).idxOf q))
theorem spread_eq {N : Nat} {h : mH} {z : St} (hN : 1000 < N) (hw : WF z) (hm : IM h z) : ∃ h', x_X9_spread N h = some (rcO z.2.1, h') ∧ IM h' z ∧ LsA h' (ans z.2.1) ∧ (∀ q, z.2.1.2 = some q → ∀ k, k < (ans z.2.1).length → mgi h' 95 k = dstI (ans z.2.1) ((ans z.2.1).idxOf q) k) ∧ frM h h' := by
  have w := hw.2.1.1
  have l310 := ans_310 w
  obtain ⟨h1, e1, l1, i1, f1⟩ := M_list (by omega : 400 < N) hw hm
  have fin : ∀ h', frSp h1 h' → IM h' z ∧ LsA h' (ans z.2.1) ∧ frM h h' := fun h' f => ⟨i1.scr (fun b hb k => f.1 b k (by omega) (by omega)) (fun k _ => f.1 82 k (by omega) (by omega)) (fun k => f.2 82 k), f.ls l1, f1.frM.trans (fun b hb => ⟨fun k => f.1 b k (by omega) (by omega), fun k => f.2 b k⟩)⟩
  unfold x_X9_spread
  rw [e1, Option.bind_some]
  refine lpI (fun f (x : mH) j => x_X9_spread_11 N f j x) (fun k x => (∀ j, j < k → mgi x 95 j = -9) ∧ frSp h1 x) (fun o => ∃ h', o = some (rcO z.2.1, h') ∧ IM h' z ∧ LsA h' (ans z.2.1) ∧ (∀ q, z.2.1.2 = some q → ∀ k, k < (ans z.2.1).length → mgi h' 95 k = dstI (ans z.2.1) ((ans z.2.1).idxOf q) k) ∧ frM h h') (ans z.2.1).length (fun f k x hk hx => ?_) (fun f x hx => ?_) N 0 h1 (by omega) (by omega) ⟨fun j hj => by omega, frSp.refl⟩
  · have lx := hx.2.ls l1
    refine Or.inl ⟨msi x 95 k (-9), ?_, fun j hj => ?_, hx.2.trans ⟨fun b j x1 x2 => by rw [mgi_msi, if_neg (by omega)], fun b j => rfl⟩⟩
    · show x_X9_spread_11 N (f + 1) (nI k) x = x_X9_spread_11 N f (nI (k + 1)) _
      rw [x_X9_spread_11_s, lx.1, if_neg (nI_ge hk (by omega)), mck_ok (vp_in_nI (by omega) (by decide)), nI_clamp (by omega), mlet_eq, nI_1]
    · rw [mgi_msi]
      by_cases d : j = k
      · rw [if_pos ⟨rfl, d⟩]
      · rw [if_neg (fun q => d q.2)]; exact hx.1 j (by omega)
  · obtain ⟨x1, fx⟩ := hx
    have lx := fx.ls l1
    have mx : MS x 85 0 z.2.1 := i1.2.1.congr (fun k => fx.1 85 k (by omega) (by omega))
    show ∃ h', x_X9_spread_11 N (f + 1) (nI (ans z.2.1).length) x = some (_, h') ∧ _
    rw [x_X9_spread_11_s, lx.1, if_pos (nI_le (Nat.le_refl _) (by omega)), mx.pl]
    unfold rcO
    rcases hw.2.1.2 with ⟨p1, p2⟩ | ⟨q, p1, p2⟩
    · obtain ⟨g1, g2, g3⟩ := fin x fx
      refine ⟨x, by rw [plM_none p1, if_neg (by decide), p1], g1, g2, (fun q hq => by rw [p1] at hq; cases hq), g3⟩
    · have il := List.idxOf_lt_length_of_mem p2
      have q20 := pw20 w (ans_lt p2)
      have pe : x_X9_place N (nI q) x = some (nI ((ans z.2.1).idxOf q)) := by
        rw [place_eq (by omega) lx (ans_sorted _) l310 (fun y hy => pw20 w (ans_lt hy)) q20]
        unfold nm
        rw [if_pos p2]
      obtain ⟨y, ey⟩ : ∃ y, y = msi (msi x 96 0 (nI ((ans z.2.1).idxOf q))) 95 ((ans z.2.1).idxOf q) 0 := ⟨_, rfl⟩
      have mm : MM y (ans z.2.1).length [(ans z.2.1).idxOf q] (fun _ => 0) := by
        rw [ey]
        refine ⟨fun j u hj => ?_, fun k hk => ?_⟩
        · rw [mgi_msi, if_neg (by omega), mgi_msi]
          cases j with
          | zero =>
            rw [if_pos ⟨rfl, rfl⟩]
            have : (ans z.2.1).idxOf q = u := by simpa using hj
            rw [this]
          | succ j => simp at hj
        · rw [mgi_msi]
          by_cases d : k = (ans z.2.1).idxOf q
          · rw [if_pos ⟨rfl, d⟩, if_pos (by rw [d]; simp)]; rfl
          · rw [if_neg (fun z => d z.2), if_neg (by rw [List.mem_singleton]; exact d), mgi_msi, if_neg (by omega)]
            exact x1 k hk
      have fy : frSp h1 y := fx.trans ⟨fun b j x1 x2 => by rw [ey, mgi_msi, if_neg (by omega), mgi_msi, if_neg (by omega)], fun b j => by rw [ey]; rfl⟩
      obtain ⟨h', s1, s2, s3⟩ := sp80 hN w l1 mm il fy
      obtain ⟨g1, g2, g3⟩ := fin h' s3
      refine ⟨h', ?_, g1, g2, fun q' hq' => ?_, g3⟩
      · rw [plM_some p1, if_pos (nI_n9 (by omega)), pe, Option.bind_some, mlet_eq, mgi_same, mck_ok (vp_in_nI (by omega) (by decide)), nI_clamp (by omega), mlet_eq, ← ey, s1, p1]
      · rw [p1] at hq'
        cases hq'
        exact s2
theorem S_reached {N t : Nat} {h : mH} {z : St} (hN : 1000 < N) (hw : WF z) (hc : IC t h z) (hm : IM h z) : GW t (xcW (x_X8_reached N h) (fun h1 => x_X9_reached N h1)) := by
  refine ok_W (r := rcO z.2.1) (z' := z) hm hw ?_ (fun h1 hm1 => ?_)
  · obtain ⟨h', e1, ic, gr, fr⟩ := C_go (N := N) (by omega) hw hc
    refine ⟨h', ?_, ic.next, fun b hb => ⟨fun k => fr.1 b k (by omega) (by omega) (by omega), fun k => fr.2 b k⟩⟩
    unfold x_X8_reached
    rw [e1, Option.bind_some]
    unfold rcO
    cases e : z.2.1.2 with
    | none => rw [(gr.2 e).1]
    | some q => rw [(gr.1 q e).1]
  · obtain ⟨h', e1, i1, -, -, f1⟩ := spread_eq hN hw (hm1.thr 0)
    refine ⟨h', ?_, i1, (frM_i (h := h1) (a := 82) (k := 0) (v := 0) (by decide)).trans f1⟩
    unfold x_X9_reached
    rw [mlet_eq, e1]
    rfl
theorem shl_same {s s' : Sh} (h : sH s' = sH s) (w : sW s' = sW s) (q : Nat) : shl s' q = shl s q := by unfold shl sN; rw [h, w]
def apO (s s' : Sh) : Int32 := match s.2, s'.2 with
  | some q, some q' => if q' ∈ ans s then dstI (ans s) ((ans s).idxOf q) ((ans s).idxOf q') else -9
  | _, _ => -9
theorem S_apart {N t : Nat} {h : mH} {z : St} (hN : 1000 < N) (hw : WF z) (hc : IC t h z) (hm : IM h z) (a : Int32) : GW t (xcW (x_X8_apart N a h) (fun h1 => x_X9_apart N a h1)) := by
  have w := hw.2.1.1
  have l310 := ans_310 w
  have kp : iK h z.2.2.2.1 := hc.2.2.2.2.2.2.2.1
  have F0 : ∀ h1, frM h1 (msi h1 82 0 0) := fun h1 => frM_i (by decide)
  rcases in_cases a (n := 2) (by decide) with ⟨i, hi, rfl⟩ | ⟨cv, c⟩
  · have ein : x_X9_in (nI i).toInt64 0 (1 : Int64) = some 1 := by
      rw [show (1 : Int64) = (nI 1).toInt64 by decide, inN _ (by decide), if_pos ⟨i, hi, rfl⟩]
    have hdC : x_X8_apart N (nI i) h = if ¬ mgi h 75 i = 0 then (if ¬ mgi h (76 + 3 * i) 0 = mgi h 2 0 then some (-9, h) else if mgi h (76 + 3 * i) 1 = mgi h 2 1 then (x_X7_goFrom N 1 h).bind fun q7 => (x_X1_numberOf N 5 (mgi q7 (76 + 3 * i) 6) q7).bind fun q8 => (x_X7_stepsTo q8 q7).bind fun q9 => some (q9, q7) else some (-9, h)) else some (-3, h) := by
      unfold x_X8_apart
      rw [if_neg (nI_pos (by omega)), if_pos (show nI i < (2 : Int32) from nI_lt (b := 2) hi (by decide)), mck_ok (vp_in_nI hi (by decide)), nI_clamp (by omega), mck_ok (vp_in_nI hi (by decide))]
    have hdM : ∀ h1, x_X9_apart N (nI i) h1 = if ¬ mgi (msi h1 82 0 0) 89 i = 0 then (if ¬ mgi (msi h1 82 0 0) 88 (32 * i) = mgi (msi h1 82 0 0) 85 0 then some (-9, msi h1 82 0 0) else if ¬ mgi (msi h1 82 0 0) 88 (32 * i + 1) = mgi (msi h1 82 0 0) 85 1 then some (-9, msi h1 82 0 0) else if mgi (msi h1 82 0 0) 88 (32 * i + 31) = -9 then some (-9, msi h1 82 0 0) else if ¬ mgi (msi h1 82 0 0) 85 31 = -9 then (x_X9_spread N (msi h1 82 0 0)).bind fun q11 => (x_X9_place N (mgi (msi h1 82 0 0) 88 (32 * i + 31)) q11.2).bind fun q12 => if ¬ q12 = -9 then mck q12 1000 (some (mgi q11.2 95 q12.toNatClampNeg, q11.2)) else some (-9, q11.2) else some (-9, msi h1 82 0 0)) else some (-3, msi h1 82 0 0) := fun h1 => by
      unfold x_X9_apart
      simp only [mlet_eq]
      rw [ein, Option.bind_some, if_pos (by decide), mck_ok (vp_in_nI hi (by decide)), nI_clamp (by omega), show (32 : Int32) * nI i = nI (32 * i) from pk_mul 32 i, show nI (32 * i) + (31 : Int32) = nI (32 * i + 31) from nI_add _ 31, mck_ok (vp_in_nI (by omega) (by decide)), nI_clamp (by omega), mck_ok (vp_in_nI (by omega) (by decide)), nI_clamp (by omega), nI_1, mck_ok (vp_in_nI (by omega) (by decide)), nI_clamp (by omega)]
    cases hK : z.2.2.2.1 i with
    | none =>
      refine ok_W (r := -3) (z' := z) hm hw ⟨h, ?_, hc.next, frC.rfl⟩ (fun h1 hm1 => ⟨_, ?_, hm1.thr 0, F0 h1⟩)
      · rw [hdC, (kp i hi).1, hK, if_neg (fun q => q rfl)]
      · rw [hdM h1, ((hm1.thr 0).2.2.2.1 i hi).1, hK, if_neg (fun q => q rfl)]
    | some s' =>
      have ws := hw.2.2.2.1 i s' hK
      have ck := (kp i hi).2 s' hK
      have c75 : ¬ mgi h 75 i = 0 := by rw [(kp i hi).1, hK]; simp
      have h4 := w.2.1
      have w5 := w.2.2.2.1
      have h4' := ws.1.2.1
      have w5' := ws.1.2.2.2.1
      have mK : ∀ h1, IM h1 z → ¬ mgi (msi h1 82 0 0) 89 i = 0 ∧ MS (msi h1 82 0 0) 88 (32 * i) s' ∧ MS (msi h1 82 0 0) 85 0 z.2.1 := fun h1 hm1 => by
        have i1 := hm1.thr 0
        exact ⟨by rw [(i1.2.2.2.1 i hi).1, hK]; simp, (i1.2.2.2.1 i hi).2 s' hK, i1.2.1⟩
      by_cases d : sH s' = sH z.2.1 ∧ sW s' = sW z.2.1
      · obtain ⟨dH, dW⟩ := d
        have hn : sN s' = sN z.2.1 := by unfold sN; rw [dH, dW]
        refine ok_W (r := apO z.2.1 s') (z' := z) hm hw ?_ (fun h1 hm1 => ?_)
        · obtain ⟨h', e1, ic, gr, fr⟩ := C_go (N := N) (by omega) hw hc
          refine ⟨h', ?_, ic.next, fun b hb => ⟨fun k => fr.1 b k (by omega) (by omega) (by omega), fun k => fr.2 b k⟩⟩
          have p6 : mgi h' (76 + 3 * i) 6 = plC s' := by rw [fr.1 _ 6 (by omega) (by omega) (by omega)]; exact ck.2.2.2.2.2.2
          rw [hdC, if_pos c75, ck.1, hc.2.1.1, if_neg (not_not_intro (by rw [dH])), ck.2.1, hc.2.1.2.1, if_pos (by rw [dW]), e1, Option.bind_some, p6]
          have al' := ic.2.2.1
          have s9 : x_X7_stepsTo (-9) h' = some (-9) := by unfold x_X7_stepsTo; rw [if_pos (by decide)]
          unfold apO
          cases e' : s'.2 with
          | none =>
            rw [plC_none e', no_none (a := 5) (by omega) w al', Option.bind_some, s9, Option.bind_some]
            cases z.2.1.2 <;> rfl
          | some q' =>
            have hq' : q' < 2 ^ sN z.2.1 := by rw [← hn]; exact PB_of ws.2 q' e'
            rw [plC_some e', shl_same dH dW, no_ans (a := 5) (by omega) w al' hq', Option.bind_some]
            unfold nm
            rcases hw.2.1.2 with ⟨p1, p2⟩ | ⟨q, p1, p2⟩
            · rw [if_neg (by rw [p2]; simp), s9, Option.bind_some, p1]
            · rw [p1]
              by_cases m : q' ∈ ans z.2.1
              · have il := List.idxOf_lt_length_of_mem m
                rw [if_pos m]
                unfold x_X7_stepsTo
                rw [if_neg (nI_pos (by omega)), if_neg (show ¬ (310 : Int32) ≤ nI _ from nI_ge (b := 310) (by omega) (by decide)), mck_ok (vp_in_nI (by omega) (by decide)), nI_clamp (by omega), (gr.1 q p1).2 _ il, Option.bind_some]
                show _ = some (if q' ∈ ans z.2.1 then _ else _, _)
                rw [if_pos m]
              · rw [if_neg m, s9, Option.bind_some]
                show _ = some (if q' ∈ ans z.2.1 then _ else _, _)
                rw [if_neg m]
        · obtain ⟨k1, k2, k3⟩ := mK h1 hm1
          obtain ⟨h', e1, i1, l1, st, f1⟩ := spread_eq hN hw (hm1.thr 0)
          have b0 : mgi (msi h1 82 0 0) 88 (32 * i) = nI (sH s') := k2.1
          have b1 : mgi (msi h1 82 0 0) 88 (32 * i + 1) = nI (sW s') := k2.2.1
          have b31 : mgi (msi h1 82 0 0) 88 (32 * i + 31) = plM s' := k2.2.2.2.2.2
          have a1 := k3.2.1
          rw [Nat.zero_add] at a1
          rw [hdM h1, if_pos k1, b0, k3.1, if_neg (not_not_intro (by rw [dH])), b1, a1, if_neg (not_not_intro (by rw [dW])), b31, k3.pl]
          unfold apO
          cases e' : s'.2 with
          | none =>
            refine ⟨_, ?_, hm1.thr 0, F0 h1⟩
            rw [plM_none e', if_pos rfl]
            cases z.2.1.2 <;> rfl
          | some q' =>
            have hq' : q' < 2 ^ sN z.2.1 := by rw [← hn]; exact PB_of ws.2 q' e'
            have q20' := pw20 w hq'
            rw [plM_some e', if_neg (nI_n9 (by omega))]
            rcases hw.2.1.2 with ⟨p1, p2⟩ | ⟨q, p1, p2⟩
            · refine ⟨_, ?_, hm1.thr 0, F0 h1⟩
              rw [plM_none p1, if_neg (by decide), p1]
            · have q20 := pw20 w (ans_lt p2)
              refine ⟨h', ?_, i1, (F0 h1).trans f1⟩
              rw [plM_some p1, if_pos (nI_n9 (by omega)), e1, Option.bind_some, place_eq (by omega) l1 (ans_sorted _) l310 (fun y hy => pw20 w (ans_lt hy)) q20', Option.bind_some, p1]
              unfold nm
              by_cases m : q' ∈ ans z.2.1
              · have il := List.idxOf_lt_length_of_mem m
                rw [if_pos m, if_pos (nI_n9 (by omega)), mck_ok (vp_in_nI (by omega) (by decide)), nI_clamp (by omega), st q p1 _ il]
                show _ = some (if q' ∈ ans z.2.1 then _ else _, _)
                rw [if_pos m]
              · rw [if_neg m, if_neg (not_not_intro rfl)]
                show _ = some (if q' ∈ ans z.2.1 then _ else _, _)
                rw [if_neg m]
      · refine ok_W (r := -9) (z' := z) hm hw ⟨h, ?_, hc.next, frC.rfl⟩ (fun h1 hm1 => ⟨_, ?_, hm1.thr 0, F0 h1⟩)
        · rw [hdC, if_pos c75, ck.1, hc.2.1.1, ck.2.1, hc.2.1.2.1]
          by_cases dH : sH s' = sH z.2.1
          · rw [if_neg (not_not_intro (by rw [dH])), if_neg (fun q => d ⟨dH, (nI_eq (by omega) (by omega)).mp q⟩)]
          · rw [if_pos (fun q => dH ((nI_eq (by omega) (by omega)).mp q))]
        · obtain ⟨k1, k2, k3⟩ := mK h1 hm1
          have b0 : mgi (msi h1 82 0 0) 88 (32 * i) = nI (sH s') := k2.1
          have b1 : mgi (msi h1 82 0 0) 88 (32 * i + 1) = nI (sW s') := k2.2.1
          have a1 := k3.2.1
          rw [Nat.zero_add] at a1
          rw [hdM h1, if_pos k1, b0, k3.1, b1, a1]
          by_cases dH : sH s' = sH z.2.1
          · rw [if_neg (not_not_intro (by rw [dH])), if_pos (fun q => d ⟨dH, (nI_eq (by omega) (by omega)).mp q⟩)]
          · rw [if_pos (fun q => dH ((nI_eq (by omega) (by omega)).mp q))]
  · refine ok_W (r := -1) (z' := z) hm hw ⟨h, ?_, hc.next, frC.rfl⟩ (fun h1 hm1 => ⟨_, ?_, hm1.thr 0, F0 h1⟩)
    · unfold x_X8_apart
      by_cases q : a < 0
      · rw [if_pos q]
      · rw [if_neg q, if_neg (show ¬ a < (2 : Int32) from fun r => (fa_of_lt r).2.1 (cv.resolve_left q))]
    · unfold x_X9_apart
      simp only [mlet_eq]
      rw [show (1 : Int64) = (nI 1).toInt64 by decide, inN _ (by decide), Option.bind_some, if_neg c, if_neg (by decide)]
