theorem shl_or {a b w : Nat} (hb : b < 2 ^ w) (hw : w < 32) : (nI a <<< (nI w &&& 31)) ||| nI b = nI (a * 2 ^ w + b) := by
  rw [shl_nI a w hw, Nat.mul_comm a, fa_or_sum a hb]
theorem cat_lt {x y m w : Nat} (hx : x < 2 ^ m) (hy : y < 2 ^ w) : x * 2 ^ w + y < 2 ^ (m + w) := by
  rw [Nat.pow_add]
  have : (x + 1) * 2 ^ w ≤ 2 ^ m * 2 ^ w := Nat.mul_le_mul hx (Nat.le_refl _)
  rw [Nat.add_mul] at this
  omega
theorem L3_cons (s : Sh) (a b c d : Nat) (l : List Nat) : L3 s a b c (d :: l) = (if pkd s a + pkd s b + pkd s c + pkd s d = tgt s then [pv s a b c d] else []) ++ L3 s a b c l := by
  unfold L3; rw [List.flatMap_cons]
section LL
variable {N p : Nat} {s : Sh} {pn : Bool}
theorem l161 {self68 self95 self128 : Int32 → mH → Option mH} {v6 v8 : Int32} (hN : 40 < N) (hp : p ≠ 94 ∧ p ≠ 82) (w : WS s) {ia ib ic a b c : Nat} (ha : ia < (rowA s pn 0).length) (hb : ib < (rowA s pn 1).length) (hc : ic < (rowA s pn 2).length) (ea : a = (rowA s pn 0).getD ia 0) (eb : b = (rowA s pn 1).getD ib 0) (ec : c = (rowA s pn 2).getD ic 0) :
    ∀ (d j f : Nat) (h : mH) (l : List Nat), j + d = (rowA s pn 3).length → d < f → MS h p 0 s → RwA h s pn → LsA h l → l.length + (L3 s a b c ((rowA s pn 3).drop j)).length ≤ 1000 →
    ∃ h', x_X9_list_161 N self68 self95 self128 p (nI (sW s)) (nI (tgt s)) (nI ia) v6 (nI ib) v8 (nI ic) (nI (pkd s a + pkd s b + pkd s c)) f (nI j) h = self128 (nI (ic + 1)) h' ∧ LsA h' (l ++ L3 s a b c ((rowA s pn 3).drop j)) ∧ frA h h' := by
  have w5 := w.2.2.2.1
  have w4 := w.2.1
  have A0 := rowA_le w pn 0
  have A1 := rowA_le w pn 1
  have A2 := rowA_le w pn 2
  have A3 := rowA_le w pn 3
  have la : a < 2 ^ sW s := by rw [ea]; exact rowA_lt w (getD_mem ha)
  have lb : b < 2 ^ sW s := by rw [eb]; exact rowA_lt w (getD_mem hb)
  have lc : c < 2 ^ sW s := by rw [ec]; exact rowA_lt w (getD_mem hc)
  intro d
  induction d with
  | zero =>
    intro j f h l hj hf ms rw_ ls hB
    obtain ⟨f, rfl⟩ : ∃ f', f = f' + 1 := ⟨f - 1, by omega⟩
    have : j = (rowA s pn 3).length := by omega
    subst this
    have e3 : mgi h 93 3 = nI (rowA s pn 3).length := (rw_ 3 (by decide)).1
    rw [x_X9_list_161_s, e3, if_pos (nI_le (Nat.le_refl _) (by omega)), nI_1]
    refine ⟨h, rfl, ?_, frA.refl⟩
    rw [List.drop_length]
    simpa [L3] using ls
  | succ d ih =>
    intro j f h l hj hf ms rw_ ls hB
    obtain ⟨f, rfl⟩ : ∃ f', f = f' + 1 := ⟨f - 1, by omega⟩
    have hjl : j < (rowA s pn 3).length := by omega
    have e3 : mgi h 93 3 = nI (rowA s pn 3).length := (rw_ 3 (by decide)).1
    have m3 : mgi h 92 (30 + j) = nI ((rowA s pn 3).getD j 0) := (rw_ 3 (by decide)).2 j hjl
    have m0 : mgi h 92 ia = nI a := by have := (rw_ 0 (by decide)).2 ia ha; rw [ea]; simpa using this
    have m1 : mgi h 92 (10 + ib) = nI b := by have := (rw_ 1 (by decide)).2 ib hb; rw [eb]; exact this
    have m2 : mgi h 92 (20 + ic) = nI c := by have := (rw_ 2 (by decide)).2 ic hc; rw [ec]; exact this
    have ld : (rowA s pn 3).getD j 0 < 2 ^ sW s := rowA_lt w (getD_mem hjl)
    rw [drop_cons hjl, L3_cons] at hB ⊢
    generalize hd : (rowA s pn 3).getD j 0 = dd at *
    have P1 := pkd_lt w a
    have P2 := pkd_lt w b
    have P3 := pkd_lt w c
    have P4 := pkd_lt w dd
    have PT := tgt_lt w
    rw [x_X9_list_161_s, e3, if_neg (nI_ge hjl (by omega)), show (30 : Int32) = nI 30 from rfl, nI_add, mck_ok (vp_in_nI (by omega) (by decide)), nI_clamp (by omega), m3, packed_eq hN w, Option.bind_some, nI_add]
    by_cases q : pkd s a + pkd s b + pkd s c + pkd s dd = tgt s
    · rw [if_pos q] at hB ⊢
      rw [q, if_neg (by simp)]
      have hB' : l.length < 1000 := by simp at hB; omega
      rw [mck_ok (vp_in_nI (by omega) (by decide)), show (10 : Int32) = nI 10 from rfl, nI_add, mck_ok (vp_in_nI (by omega) (by decide)), show (20 : Int32) = nI 20 from rfl, nI_add, mck_ok (vp_in_nI (by omega) (by decide)), nI_clamp (by omega), nI_clamp (by omega), nI_clamp (by omega), m0, m1, m2, shl_or lb (by omega), shl_or lc (by omega), mlet_eq, mck_ok (vp_in_nI (by omega) (by decide)), ls.1, mck_ok (vp_in_nI hB' (by decide)), nI_clamp (by omega), mlet_eq, mlet_eq, shl_or ld (by omega)]
      have e0 : mgi h p 0 = nI (sH s) := ms.1
      have lt20 : ((a * 2 ^ sW s + b) * 2 ^ sW s + c) * 2 ^ sW s + dd < 2 ^ 31 := by
        have := cat_lt (cat_lt (cat_lt la lb) lc) ld
        refine Nat.lt_of_lt_of_le this (Nat.pow_le_pow_right (by decide) (by omega))
      have hsm : sW s * (4 - sH s) < 32 := by
        have : sW s * (4 - sH s) ≤ 5 * 4 := Nat.mul_le_mul w5 (by omega)
        omega
      rw [e0, show (4 : Int32) = nI 4 from rfl, pk_sub w4, pk_mul, sar_nI lt20 hsm]
      unfold x_X9_list_271
      have eM : mgi (msi h 94 l.length (nI (pv s a b c dd))) 82 17 = nI l.length := by rw [mgi_msi, if_neg (by omega)]; exact ls.1
      rw [show nI ((((a * 2 ^ sW s + b) * 2 ^ sW s + c) * 2 ^ sW s + dd) / 2 ^ (sW s * (4 - sH s))) = nI (pv s a b c dd) from rfl, eM, nI_1, nI_1]
      have fA : frA h (msi (msi h 94 l.length (nI (pv s a b c dd))) 82 17 (nI (l.length + 1))) := ⟨fun x k h1 h2 => by rw [mgi_msi, if_neg (by omega), mgi_msi, if_neg (by omega)], fun _ _ => rfl⟩
      obtain ⟨h2, r1, r2, r3⟩ := ih (j + 1) f _ (l ++ [pv s a b c dd]) (by omega) (by omega) (fA.ms hp ms) (fA.rows rw_) ls.push (by simp at hB ⊢; omega)
      refine ⟨h2, r1, ?_, fA.trans r3⟩
      rw [List.append_assoc] at r2
      exact r2
    · rw [if_neg q] at hB ⊢
      have : ¬ nI (pkd s a + pkd s b + pkd s c + pkd s dd) = nI (tgt s) := fun z => q ((nI_eq (by omega) (by omega)).mp z)
      rw [if_pos this]
      unfold x_X9_list_271
      rw [nI_1]
      obtain ⟨h2, r1, r2, r3⟩ := ih (j + 1) f h l (by omega) (by omega) ms rw_ ls (by simpa using hB)
      exact ⟨h2, r1, by simpa using r2, r3⟩
end LL
