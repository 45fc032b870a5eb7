theorem shl_or {a b w : Nat} (hb : b < 2 ^ w) (hw : w < 32) : (nI a <<< (nI w &&& 31)) ||| nI b = nI (a * 2 ^ w + b) := by
  rw [shl_nI a w hw, Nat.mul_comm a, fa_or_sum a hb]
theorem cat_lt {x y m w : Nat} (hx : x < 2 ^ m) (hy : y < 2 ^ w) : x * 2 ^ w + y < 2 ^ (m + w) := by
  rw [Nat.pow_add]
  have : (x + 1) * 2 ^ w ≤ 2 ^ m * 2 ^ w := Nat.mul_le_mul hx (Nat.le_refl _)
  rw [Nat.add_mul] at this
  omega
theorem L3_cons (s : Sh) (a b c d : Nat) (l : List Nat) : L3 s a b c (d :: l) = (if pkd s a + pkd s b + pkd s c + pkd s d = tgt s then [pv s a b c d] else []) ++ L3 s a b c l := by
  unfold L3; rw [List.flatMap_cons]
section LL
variable {N p : Nat} {s : Sh} {pn : Bool}
theorem l161 {self68 self95 self128 : Int32 → mH → Option mH} {v6 v8 : Int32} (hN : 40 < N) (hp : p ≠ 94 ∧ p ≠ 82) (w : WS s) {ia ib ic a b c : Nat} (ha : ia < (rowA s pn 0).length) (hb : ib < (rowA s pn 1).length) (hc : ic < (rowA s pn 2).length) (ea : a = (rowA s pn 0).getD ia 0) (eb : b = (rowA s pn 1).getD ib 0) (ec : c = (rowA s pn 2).getD ic 0) :
    ∀ (d j f : Nat) (h : mH) (l : List Nat), j + d = (rowA s pn 3).length → d < f → MS h p 0 s → RwA h s pn → LsA h l → l.length + (L3 s a b c ((rowA s pn 3).drop j)).length ≤ 1000 →
    ∃ h', x_X9_list_161 N self68 self95 self128 p (nI (sW s)) (nI (tgt s)) (nI ia) v6 (nI ib) v8 (nI ic) (nI (pkd s a + pkd s b + pkd s c)) f (nI j) h = self128 (nI (ic + 1)) h' ∧ LsA h' (l ++ L3 s a b c ((rowA s pn 3).drop j)) ∧ frA h h' := by
  have w5 := w.2.2.2.1
  have w4 := w.2.1
  have A0 := rowA_le w pn 0
  have A1 := rowA_le w pn 1
  have A2 := rowA_le w pn 2
  have A3 := rowA_le w pn 3
  have la : a < 2 ^ sW s := by rw [ea]; exact rowA_lt w (getD_mem ha)
  have lb : b < 2 ^ sW s := by rw [eb]; exact rowA_lt w (getD_mem hb)
  have lc : c < 2 ^ sW s := by rw [ec]; exact rowA_lt w (getD_mem hc)
  intro d
  induction d with
  | zero =>
    intro j f h l hj hf ms rw_ ls hB
    obtain ⟨f, rfl⟩ : ∃ f', f = f' + 1 := ⟨f - 1, by omega⟩
    have : j = (rowA s pn 3).length := by omega
    subst this
    have e3 : mgi h 93 3 = nI (rowA s pn 3).length := (rw_ 3 (by decide)).1
    rw [x_X9_list_161_s, e3, if_pos (nI_le (Nat.le_refl _) (by omega)), nI_1]
    refine ⟨h, rfl, ?_, frA.refl⟩
    rw [List.drop_length]
    simpa [L3] using ls
  | succ d ih =>
    intro j f h l hj hf ms rw_ ls hB
    obtain ⟨f, rfl⟩ : ∃ f', f = f' + 1 := ⟨f - 1, by omega⟩
    have hjl : j < (rowA s pn 3).length := by omega
    have e3 : mgi h 93 3 = nI (rowA s pn 3).length := (rw_ 3 (by decide)).1
    have m3 : mgi h 92 (30 + j) = nI ((rowA s pn 3).getD j 0) := (rw_ 3 (by decide)).2 j hjl
    have m0 : mgi h 92 ia = nI a := by have := (rw_ 0 (by decide)).2 ia ha; rw [ea]; simpa using this
    have m1 : mgi h 92 (10 + ib) = nI b := by have := (rw_ 1 (by decide)).2 ib hb; rw [eb]; exact this
    have m2 : mgi h 92 (20 + ic) = nI c := by have := (rw_ 2 (by decide)).2 ic hc; rw [ec]; exact this
    have ld : (rowA s pn 3).getD j 0 < 2 ^ sW s := rowA_lt w (getD_mem hjl)
    rw [drop_cons hjl, L3_cons] at hB ⊢
    generalize hd : (rowA s pn 3).getD j 0 = dd at *
    have P1 := pkd_lt w a
    have P2 := pkd_lt w b
    have P3 := pkd_lt w c
    have P4 := pkd_lt w dd
    have PT := tgt_lt w
    rw [x_X9_list_161_s, e3, if_neg (nI_ge hjl (by omega)), show (30 : Int32) = nI 30 from rfl, nI_add, mck_ok (vp_in_nI (by omega) (by decide)), nI_clamp (by omega), m3, packed_eq hN w, Option.bind_some, nI_add]
    by_cases q : pkd s a + pkd s b + pkd s c + pkd s dd = tgt s
    · rw [if_pos q] at hB ⊢
      rw [q, if_neg (by simp)]
      have hB' : l.length < 1000 := by simp at hB; omega
      rw [mck_ok (vp_in_nI (by omega) (by decide)), show (10 : Int32) = nI 10 from rfl, nI_add, mck_ok (vp_in_nI (by omega) (by decide)), show (20 : Int32) = nI 20 from rfl, nI_add, mck_ok (vp_in_nI (by omega) (by decide)), nI_clamp (by omega), nI_clamp (by omega), nI_clamp (by omega), m0, m1, m2, shl_or lb (by omega), shl_or lc (by omega), mlet_eq, mck_ok (vp_in_nI (by omega) (by decide)), ls.1, mck_ok (vp_in_nI hB' (by decide)), nI_clamp (by omega), mlet_eq, mlet_eq, shl_or ld (by omega)]
      have e0 : mgi h p 0 = nI (sH s) := ms.1
      have lt20 : ((a * 2 ^ sW s + b) * 2 ^ sW s + c) * 2 ^ sW s + dd < 2 ^ 31 := by
        have := cat_lt (cat_lt (cat_lt la lb) lc) ld
        refine Nat.lt_of_lt_of_le this (Nat.pow_le_pow_right (by decide) (by omega))
      have hsm : sW s * (4 - sH s) < 32 := by
        have : sW s * (4 - sH s) ≤ 5 * 4 := Nat.mul_le_mul w5 (by omega)
        omega
      rw [e0, show (4 : Int32) = nI 4 from rfl, pk_sub w4, pk_mul, sar_nI lt20 hsm]
      unfold x_X9_list_271
      have eM : mgi (msi h 94 l.length (nI (pv s a b c dd))) 82 17 = nI l.length := by rw [mgi_msi, if_neg (by omega)]; exact ls.1
      rw [show nI ((((a * 2 ^ sW s + b) * 2 ^ sW s + c) * 2 ^ sW s + dd) / 2 ^ (sW s * (4 - sH s))) = nI (pv s a b c dd) from rfl, eM, nI_1, nI_1]
      have fA : frA h (msi (msi h 94 l.length (nI (pv s a b c dd))) 82 17 (nI (l.length + 1))) := ⟨fun x k h1 h2 => by rw [mgi_msi, if_neg (by omega), mgi_msi, if_neg (by omega)], fun _ _ => rfl⟩
      obtain ⟨h2, r1, r2, r3⟩ := ih (j + 1) f _ (l ++ [pv s a b c dd]) (by omega) (by omega) (fA.ms hp ms) (fA.rows rw_) ls.push (by simp at hB ⊢; omega)
      refine ⟨h2, r1, ?_, fA.trans r3⟩
      rw [List.append_assoc] at r2
      exact r2
    · rw [if_neg q] at hB ⊢
      have : ¬ nI (pkd s a + pkd s b + pkd s c + pkd s dd) = nI (tgt s) := fun z => q ((nI_eq (by omega) (by omega)).mp z)
      rw [if_pos this]
      unfold x_X9_list_271
      rw [nI_1]
      obtain ⟨h2, r1, r2, r3⟩ := ih (j + 1) f h l (by omega) (by omega) ms rw_ ls (by simpa using hB)
      exact ⟨h2, r1, by simpa using r2, r3⟩
theorem L2_cons (s : Sh) (pn : Bool) (a b c : Nat) (l : List Nat) : L2 s pn a b (c :: l) = L3 s a b c (rowA s pn 3) ++ L2 s pn a b l := by
  unfold L2; rw [List.flatMap_cons]
theorem L1_cons (s : Sh) (pn : Bool) (a b : Nat) (l : List Nat) : L1 s pn a (b :: l) = L2 s pn a b (rowA s pn 2) ++ L1 s pn a l := by
  unfold L1; rw [List.flatMap_cons]
theorem L0_cons (s : Sh) (pn : Bool) (a : Nat) (l : List Nat) : L0 s pn (a :: l) = L1 s pn a (rowA s pn 1) ++ L0 s pn l := by
  unfold L0; rw [List.flatMap_cons]
theorem l128 {self68 self95 : Int32 → mH → Option mH} {v6 : Int32} (hN : 40 < N) (hp : p ≠ 94 ∧ p ≠ 82) (w : WS s) {ia ib a b : Nat} (ha : ia < (rowA s pn 0).length) (hb : ib < (rowA s pn 1).length) (ea : a = (rowA s pn 0).getD ia 0) (eb : b = (rowA s pn 1).getD ib 0) :
    ∀ (d j f : Nat) (h : mH) (l : List Nat), j + d = (rowA s pn 2).length → d < f → MS h p 0 s → RwA h s pn → LsA h l → l.length + (L2 s pn a b ((rowA s pn 2).drop j)).length ≤ 1000 →
    ∃ h', x_X9_list_128 N self68 self95 p (nI (sW s)) (nI (tgt s)) (nI ia) v6 (nI ib) (nI (pkd s a + pkd s b)) f (nI j) h = self95 (nI (ib + 1)) h' ∧ LsA h' (l ++ L2 s pn a b ((rowA s pn 2).drop j)) ∧ frA h h' := by
  have A2 := rowA_le w pn 2
  have A3 := rowA_le w pn 3
  intro d
  induction d with
  | zero =>
    intro j f h l hj hf ms rw_ ls hB
    obtain ⟨f, rfl⟩ : ∃ f', f = f' + 1 := ⟨f - 1, by omega⟩
    have : j = (rowA s pn 2).length := by omega
    subst this
    have e3 : mgi h 93 2 = nI (rowA s pn 2).length := (rw_ 2 (by decide)).1
    rw [x_X9_list_128_s, e3, if_pos (nI_le (Nat.le_refl _) (by omega)), nI_1]
    refine ⟨h, rfl, ?_, frA.refl⟩
    rw [List.drop_length]
    simpa [L2] using ls
  | succ d ih =>
    intro j f h l hj hf ms rw_ ls hB
    obtain ⟨f, rfl⟩ : ∃ f', f = f' + 1 := ⟨f - 1, by omega⟩
    have hjl : j < (rowA s pn 2).length := by omega
    have e3 : mgi h 93 2 = nI (rowA s pn 2).length := (rw_ 2 (by decide)).1
    have m3 : mgi h 92 (20 + j) = nI ((rowA s pn 2).getD j 0) := (rw_ 2 (by decide)).2 j hjl
    rw [drop_cons hjl, L2_cons] at hB ⊢
    rw [x_X9_list_128_s, e3, if_neg (nI_ge hjl (by omega)), show (20 : Int32) = nI 20 from rfl, nI_add, mck_ok (vp_in_nI (by omega) (by decide)), nI_clamp (by omega), m3, packed_eq hN w, Option.bind_some, nI_add, mlet_eq]
    rw [List.length_append] at hB
    obtain ⟨h1, r1, r2, r3⟩ := l161 (N := N) (pn := pn) (self68 := self68) (self95 := self95) (self128 := x_X9_list_128 N self68 self95 p (nI (sW s)) (nI (tgt s)) (nI ia) v6 (nI ib) (nI (pkd s a + pkd s b)) f) (v6 := v6) (v8 := nI (pkd s a + pkd s b)) hN hp w ha hb hjl ea eb rfl (rowA s pn 3).length 0 N h l (by omega) (by omega) ms rw_ ls (by rw [List.drop_zero]; omega)
    rw [List.drop_zero] at r2
    rw [show (0 : Int32) = nI 0 from rfl, r1]
    obtain ⟨h2, q1, q2, q3⟩ := ih (j + 1) f h1 _ (by omega) (by omega) (r3.ms hp ms) (r3.rows rw_) r2 (by rw [List.length_append]; omega)
    exact ⟨h2, q1, by rw [← List.append_assoc]; exact q2, r3.trans q3⟩
theorem l95 {self68 : Int32 → mH → Option mH} (hN : 40 < N) (hp : p ≠ 94 ∧ p ≠ 82) (w : WS s) {ia a : Nat} (ha : ia < (rowA s pn 0).length) (ea : a = (rowA s pn 0).getD ia 0) :
    ∀ (d j f : Nat) (h : mH) (l : List Nat), j + d = (rowA s pn 1).length → d < f → MS h p 0 s → RwA h s pn → LsA h l → l.length + (L1 s pn a ((rowA s pn 1).drop j)).length ≤ 1000 →
    ∃ h', x_X9_list_95 N self68 p (nI (sW s)) (nI (tgt s)) (nI ia) (nI (pkd s a)) f (nI j) h = self68 (nI (ia + 1)) h' ∧ LsA h' (l ++ L1 s pn a ((rowA s pn 1).drop j)) ∧ frA h h' := by
  have A1 := rowA_le w pn 1
  have A2 := rowA_le w pn 2
  intro d
  induction d with
  | zero =>
    intro j f h l hj hf ms rw_ ls hB
    obtain ⟨f, rfl⟩ : ∃ f', f = f' + 1 := ⟨f - 1, by omega⟩
    have : j = (rowA s pn 1).length := by omega
    subst this
    have e3 : mgi h 93 1 = nI (rowA s pn 1).length := (rw_ 1 (by decide)).1
    rw [x_X9_list_95_s, e3, if_pos (nI_le (Nat.le_refl _) (by omega)), nI_1]
    refine ⟨h, rfl, ?_, frA.refl⟩
    rw [List.drop_length]
    simpa [L1] using ls
  | succ d ih =>
    intro j f h l hj hf ms rw_ ls hB
    obtain ⟨f, rfl⟩ : ∃ f', f = f' + 1 := ⟨f - 1, by omega⟩
    have hjl : j < (rowA s pn 1).length := by omega
    have e3 : mgi h 93 1 = nI (rowA s pn 1).length := (rw_ 1 (by decide)).1
    have m3 : mgi h 92 (10 + j) = nI ((rowA s pn 1).getD j 0) := (rw_ 1 (by decide)).2 j hjl
    rw [drop_cons hjl, L1_cons] at hB ⊢
    rw [x_X9_list_95_s, e3, if_neg (nI_ge hjl (by omega)), show (10 : Int32) = nI 10 from rfl, nI_add, mck_ok (vp_in_nI (by omega) (by decide)), nI_clamp (by omega), m3, packed_eq hN w, Option.bind_some, nI_add, mlet_eq]
    rw [List.length_append] at hB
    obtain ⟨h1, r1, r2, r3⟩ := l128 (N := N) (pn := pn) (self68 := self68) (self95 := x_X9_list_95 N self68 p (nI (sW s)) (nI (tgt s)) (nI ia) (nI (pkd s a)) f) (v6 := nI (pkd s a)) hN hp w ha hjl ea rfl (rowA s pn 2).length 0 N h l (by omega) (by omega) ms rw_ ls (by rw [List.drop_zero]; omega)
    rw [List.drop_zero] at r2
    rw [show (0 : Int32) = nI 0 from rfl, r1]
    obtain ⟨h2, q1, q2, q3⟩ := ih (j + 1) f h1 _ (by omega) (by omega) (r3.ms hp ms) (r3.rows rw_) r2 (by rw [List.length_append]; omega)
    exact ⟨h2, q1, by rw [← List.append_assoc]; exact q2, r3.trans q3⟩
theorem l68 (hN : 40 < N) (hp : p ≠ 94 ∧ p ≠ 82) (w : WS s) :
    ∀ (d j f : Nat) (h : mH) (l : List Nat), j + d = (rowA s pn 0).length → d < f → MS h p 0 s → RwA h s pn → LsA h l → l.length + (L0 s pn ((rowA s pn 0).drop j)).length ≤ 1000 →
    ∃ h', x_X9_list_68 N p (nI (sW s)) (nI (tgt s)) f (nI j) h = some h' ∧ LsA h' (l ++ L0 s pn ((rowA s pn 0).drop j)) ∧ frA h h' := by
  have A0 := rowA_le w pn 0
  have A1 := rowA_le w pn 1
  intro d
  induction d with
  | zero =>
    intro j f h l hj hf ms rw_ ls hB
    obtain ⟨f, rfl⟩ : ∃ f', f = f' + 1 := ⟨f - 1, by omega⟩
    have : j = (rowA s pn 0).length := by omega
    subst this
    have e3 : mgi h 93 0 = nI (rowA s pn 0).length := (rw_ 0 (by decide)).1
    rw [x_X9_list_68_s, e3, if_pos (nI_le (Nat.le_refl _) (by omega))]
    refine ⟨h, rfl, ?_, frA.refl⟩
    rw [List.drop_length]
    simpa [L0] using ls
  | succ d ih =>
    intro j f h l hj hf ms rw_ ls hB
    obtain ⟨f, rfl⟩ : ∃ f', f = f' + 1 := ⟨f - 1, by omega⟩
    have hjl : j < (rowA s pn 0).length := by omega
    have e3 : mgi h 93 0 = nI (rowA s pn 0).length := (rw_ 0 (by decide)).1
    have m3 : mgi h 92 j = nI ((rowA s pn 0).getD j 0) := by have := (rw_ 0 (by decide)).2 j hjl; simpa using this
    rw [drop_cons hjl, L0_cons] at hB ⊢
    rw [x_X9_list_68_s, e3, if_neg (nI_ge hjl (by omega)), mck_ok (vp_in_nI (by omega) (by decide)), nI_clamp (by omega), m3, packed_eq hN w, Option.bind_some]
    rw [List.length_append] at hB
    obtain ⟨h1, r1, r2, r3⟩ := l95 (N := N) (pn := pn) (self68 := x_X9_list_68 N p (nI (sW s)) (nI (tgt s)) f) hN hp w hjl rfl (rowA s pn 1).length 0 N h l (by omega) (by omega) ms rw_ ls (by rw [List.drop_zero]; omega)
    rw [List.drop_zero] at r2
    rw [show (0 : Int32) = nI 0 from rfl, r1]
    obtain ⟨h2, q1, q2, q3⟩ := ih (j + 1) f h1 _ (by omega) (by omega) (r3.ms hp ms) (r3.rows rw_) r2 (by rw [List.length_append]; omega)
    exact ⟨h2, q1, by rw [← List.append_assoc]; exact q2, r3.trans q3⟩
theorem l7 (hN : 40 < N) (hp : p ≠ 92 ∧ p ≠ 93 ∧ p ≠ 94 ∧ p ≠ 82) (w : WS s) (hB : (L0 s pn (rowA s pn 0)).length ≤ 1000) :
    ∀ (d r f : Nat) (h : mH), r + d = 4 → d < f → MS h p 0 s → (∀ r', r' < r → RwL h r' (rowA s pn r')) →
    ∃ h', x_X9_list_7 N p (b2i pn) (nI (sW s)) f (nI r) h = some h' ∧ LsA h' (L0 s pn (rowA s pn 0)) ∧ frL h h' := by
  have w4 := w.2.1
  have A0 := rowA_le w pn 0
  intro d
  induction d with
  | zero =>
    intro r f h hr hf ms rw_
    obtain ⟨f, rfl⟩ : ∃ f', f = f' + 1 := ⟨f - 1, by omega⟩
    have : r = 4 := by omega
    subst this
    have f1 : frA h (msi h 82 17 0) := ⟨fun a k h1 h2 => by rw [mgi_msi, if_neg (by omega)], fun _ _ => rfl⟩
    rw [x_X9_list_7_s, if_pos (by decide), mlet_eq, target_eq hN (f1.ms ⟨hp.2.2.1, hp.2.2.2⟩ ms) w, Option.bind_some]
    obtain ⟨h2, q1, q2, q3⟩ := l68 (N := N) (pn := pn) hN ⟨hp.2.2.1, hp.2.2.2⟩ w (rowA s pn 0).length 0 N (msi h 82 17 0) [] (by omega) (by omega) (f1.ms ⟨hp.2.2.1, hp.2.2.2⟩ ms) (f1.rows rw_) ⟨by rw [mgi_msi, if_pos ⟨rfl, rfl⟩]; rfl, fun j hj => by simp at hj⟩ (by rw [List.drop_zero]; simpa using hB)
    refine ⟨h2, q1, by simpa using q2, ?_⟩
    have := f1.trans q3
    exact ⟨fun a k x y z u => this.1 a k z u, this.2⟩
  | succ d ih =>
    intro r f h hr hf ms rw_
    obtain ⟨f, rfl⟩ : ∃ f', f = f' + 1 := ⟨f - 1, by omega⟩
    rw [x_X9_list_7_s, if_neg (show ¬ (4 : Int32) ≤ nI r from nI_ge (b := 4) (by omega) (by decide)), mck_ok (vp_in_nI (by omega) (by decide)), nI_clamp (by omega), mlet_eq, show (10 : Int32) = nI 10 from rfl, pk_mul, mck_ok (vp_in_nI (by omega) (by decide)), nI_clamp (by omega), mlet_eq]
    have f1 : frR r h (msi (msi h 93 r 1) 92 (10 * r) 0) := ⟨fun a k h1 h2 => by rw [mgi_msi, if_neg (by omega), mgi_msi, if_neg (by omega)], fun _ _ => rfl⟩
    have ms1 := f1.ms ⟨hp.1, hp.2.1⟩ ms
    have e0 : mgi (msi (msi h 93 r 1) 92 (10 * r) 0) p 0 = nI (sH s) := ms1.1
    unfold x_X9_list_48
    rw [e0, nI_1]
    by_cases c : r < sH s
    · rw [if_neg (nI_ge c (by omega))]
      obtain ⟨h2, q1, q2, q3⟩ := findMasks_eq (N := N) (pn := pn) hN ⟨hp.1, hp.2.1⟩ w c ms1
      rw [q1, Option.bind_some]
      have f2 := f1.trans q3
      obtain ⟨h3, t1, t2, t3⟩ := ih (r + 1) f h2 (by omega) (by omega) (f2.ms ⟨hp.1, hp.2.1⟩ ms) (fun r' hr' => by
        by_cases e : r' = r
        · subst e; unfold rowA; rw [if_pos c]; exact q2
        · exact RwL.kept f2 e (rowA_le w pn r') (rw_ r' (by omega)))
      exact ⟨h3, t1, t2, f2.frL.trans t3⟩
    · rw [if_pos (nI_le (by omega) (by omega))]
      obtain ⟨h3, t1, t2, t3⟩ := ih (r + 1) f _ (by omega) (by omega) ms1 (fun r' hr' => by
        by_cases e : r' = r
        · subst e; unfold rowA; rw [if_neg c]
          refine ⟨by rw [mgi_msi, if_neg (by omega), mgi_msi, if_pos ⟨rfl, rfl⟩]; rfl, fun j hj => ?_⟩
          have : j = 0 := by simp at hj; exact hj
          subst this
          rw [mgi_msi, if_pos ⟨rfl, rfl⟩]
          rfl
        · exact RwL.kept f1 e (rowA_le w pn r') (rw_ r' (by omega)))
      exact ⟨h3, t1, t2, f1.frL.trans t3⟩
theorem list_raw {h : mH} (hN : 40 < N) (hp : p ≠ 92 ∧ p ≠ 93 ∧ p ≠ 94 ∧ p ≠ 82) (w : WS s) (hB : (L0 s pn (rowA s pn 0)).length ≤ 1000) (ms : MS h p 0 s) : ∃ h', x_X9_list N p (b2i pn) h = some h' ∧ LsA h' (L0 s pn (rowA s pn 0)) ∧ frL h h' := by
  unfold x_X9_list
  have e1 : mgi h p 1 = nI (sW s) := ms.2.1
  rw [e1, mlet_eq]
  exact l7 hN hp w hB 4 0 N h (by omega) (by omega) ms (fun r' hr' => by omega)
end LL
