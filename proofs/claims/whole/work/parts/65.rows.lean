/-! the model's masks of a row -/
def b2i (b : Bool) : Int32 := if b then 1 else 0
def pok (s : Sh) (r m c : Nat) : Bool := sP s (sW s * r + c) == 0 || (m.testBit (sW s - 1 - c) == (sP s (sW s * r + c) == 1))
def rowok (s : Sh) (r : Nat) (pn : Bool) (m : Nat) : Bool := bc m 20 == sR s r && (!pn || (List.range (sW s)).all (pok s r m))
def rowF (s : Sh) (r : Nat) (pn : Bool) (n : Nat) : List Nat := (List.range n).filter (rowok s r pn)
def rowL (s : Sh) (r : Nat) (pn : Bool) : List Nat := rowF s r pn (2 ^ sW s)
def RwL (h : mH) (r : Nat) (l : List Nat) : Prop := mgi h 93 r = nI l.length ∧ ∀ j, j < l.length → mgi h 92 (10 * r + j) = nI (l.getD j 0)
/-- only the masks of a row are otherwise -/
def frR (r : Nat) (h h' : mH) : Prop := (∀ a k, ¬ (a = 92 ∧ 10 * r ≤ k ∧ k < 10 * r + 10) → ¬ (a = 93 ∧ k = r) → mgi h' a k = mgi h a k) ∧ ∀ a k, mgl h' a k = mgl h a k
theorem rowF_succ (s : Sh) (r : Nat) (pn : Bool) (n : Nat) : rowF s r pn (n + 1) = rowF s r pn n ++ (if rowok s r pn n then [n] else []) := by
  unfold rowF
  rw [List.range_succ, List.filter_append]
  congr 1
  by_cases c : rowok s r pn n = true
  · simp [c]
  · simp only [Bool.not_eq_true] at c; simp [c]
theorem w_pop : ∀ w, w ≤ 5 → ∀ t, t ≤ 5 → ((List.range (2 ^ w)).filter (fun m => bc m 20 == t)).length ≤ 10 := by decide +kernel
theorem rowF_mono (s : Sh) (r : Nat) (pn : Bool) {a b : Nat} (h : a ≤ b) : (rowF s r pn a).length ≤ (rowF s r pn b).length := by
  obtain ⟨d, rfl⟩ := Nat.exists_eq_add_of_le h
  induction d with
  | zero => exact Nat.le_refl _
  | succ d ih =>
    rw [← Nat.add_assoc, rowF_succ, List.length_append]
    have := ih (by omega)
    omega
theorem rowL_le {s : Sh} (w : WS s) {r : Nat} (hr : r < sH s) (pn : Bool) : (rowL s r pn).length ≤ 10 := by
  obtain ⟨h1, h2, h3, h4, h5, -⟩ := w
  refine Nat.le_trans ?_ (w_pop (sW s) h4 (sR s r) (Nat.le_trans (h5 r hr) h4))
  unfold rowL rowF
  have : (List.range (2 ^ sW s)).filter (rowok s r pn) = ((List.range (2 ^ sW s)).filter (fun m => bc m 20 == sR s r)).filter (fun m => !pn || (List.range (sW s)).all (pok s r m)) := by
    rw [List.filter_filter]
    congr 1
    funext m
    unfold rowok
    rw [Bool.and_comm]
  rw [this]
  exact List.length_filter_le _ _
theorem pw_eq : ∀ w, w ≤ 5 → (1 : Int32) <<< (nI w &&& 31) = nI (2 ^ w) := by decide +kernel
theorem b2i_0 (b : Bool) : b2i b = 0 ↔ b = false := by cases b <;> simp [b2i]
/-- the loop over columns -/
theorem fm_in {N p r m : Nat} {self : Int32 → mH → Option mH} {s : Sh} {pn : Bool} {h : mH} (ms : MS h p 0 s) (w : WS s) (hr : r < sH s) : ∀ (d c f : Nat) (is : Bool), c + d = sW s → d < f →
    x_X9_findMasks_47 N self p (nI r) (b2i pn) (nI (sW s)) (nI m) f (b2i is) (nI c) h = x_X9_findMasks_125 N self p (nI r) (b2i pn) (nI (sW s)) (nI m) (b2i (is && (!pn || (List.range d).all fun j => pok s r m (c + j)))) h := by
  have w5 := w.2.2.2.1
  have w4 := w.2.1
  intro d
  induction d with
  | zero =>
    intro c f is hc hf
    obtain ⟨f, rfl⟩ : ∃ f', f = f' + 1 := ⟨f - 1, by omega⟩
    rw [x_X9_findMasks_47_s, if_pos (nI_le (by omega) (by omega))]
    simp
  | succ d ih =>
    intro c f is hc hf
    obtain ⟨f, rfl⟩ : ∃ f', f = f' + 1 := ⟨f - 1, by omega⟩
    rw [x_X9_findMasks_47_s, if_neg (nI_ge (by omega) (by omega))]
    by_cases ci : is = true
    · subst ci
      rw [if_neg (by decide)]
      have hcell : sW s * r + c < sN s := by
        unfold sN
        have : sW s * r + sW s ≤ sW s * sH s := by rw [← Nat.mul_succ]; exact Nat.mul_le_mul (Nat.le_refl _) hr
        rw [Nat.mul_comm (sH s)]; omega
      have h20 := w.n20
      have hsplit : (List.range (d + 1)).all (fun j => pok s r m (c + j)) = (pok s r m c && (List.range d).all (fun j => pok s r m (c + 1 + j))) := by
        rw [List.range_succ_eq_map, List.all_cons, List.all_map]
        congr 1
        congr 1
        funext j
        simp only [Function.comp]
        congr 1
        omega
      cases pn with
      | false =>
        rw [if_pos (by decide)]
        unfold x_X9_findMasks_79 x_X9_findMasks_112 x_X9_findMasks_117
        rw [if_pos rfl, nI_1, show (1 : Int32) = b2i true from rfl, ih (c + 1) f true (by omega) (by omega)]
        simp
      | true =>
        rw [if_neg (by decide)]
        have e1 : (11 : Int32) + nI (sW s) * nI r + nI c = nI (11 + sW s * r + c) := by rw [pk_mul, show (11 : Int32) = nI 11 from rfl, nI_add, nI_add]
        rw [e1, mck_ok (vp_in_nI (by omega) (by decide)), nI_clamp (by omega)]
        have hp := ms.2.2.2.2.1 _ hcell
        rw [show 0 + 11 + (sW s * r + c) = 11 + sW s * r + c by omega] at hp
        rw [hp]
        have hp2 := w.2.2.2.2.2.2.1 _ hcell
        unfold x_X9_findMasks_79
        by_cases c0 : sP s (sW s * r + c) = 0
        · rw [c0, if_pos (by decide)]
          unfold x_X9_findMasks_112 x_X9_findMasks_117
          rw [nI_1, show (1 : Int32) = b2i true from rfl, ih (c + 1) f true (by omega) (by omega), hsplit]
          simp [pok, c0]
        · rw [if_neg (nI_ne0 (by omega) (by omega)), sub1 (by omega), has_eq m _ (by omega), Option.bind_some, mlet_eq, nI_1]
          have e2 : (if ¬ (if m.testBit (sW s - 1 - c) then (1 : Int32) else 0) = (if ¬ nI (sP s (sW s * r + c)) = 1 then 0 else 1) then (0 : Int32) else 1) = b2i (pok s r m c) := by
            have : sP s (sW s * r + c) = 1 ∨ sP s (sW s * r + c) = 2 := by omega
            unfold pok b2i
            rcases this with q | q <;> rw [q] <;> cases m.testBit (sW s - 1 - c) <;> decide
          rw [e2, ih (c + 1) f _ (by omega) (by omega), hsplit]
          simp
    · simp only [Bool.not_eq_true] at ci
      subst ci
      rw [if_pos (by decide)]
      simp
theorem fm_step {N p r m : Nat} {self : Int32 → mH → Option mH} {s : Sh} {pn : Bool} {h : mH} (hN : 20 < N) (ms : MS h p 0 s) (w : WS s) (hr : r < sH s) (hm : m < 2 ^ sW s) (hl : RwL h r (rowF s r pn m)) :
    ∃ h', x_X9_findMasks_125 N self p (nI r) (b2i pn) (nI (sW s)) (nI m) (b2i (rowok s r pn m)) h = self (nI (m + 1)) h' ∧ RwL h' r (rowF s r pn (m + 1)) ∧ frR r h h' := by
  have w4 := w.2.1
  unfold x_X9_findMasks_125 x_X9_findMasks_158
  rw [rowF_succ, nI_1]
  by_cases c : rowok s r pn m = true
  · have hlen : (rowF s r pn m).length + 1 ≤ 10 := by
      have h1 := rowL_le w hr pn
      have h2 := rowF_mono s r pn (a := m + 1) (b := 2 ^ sW s) (by omega)
      rw [rowF_succ, if_pos c, List.length_append] at h2
      unfold rowL at h1
      simp at h2
      omega
    obtain ⟨l1, l2⟩ := hl
    rw [c, if_neg (by decide), if_pos rfl, mck_ok (vp_in_nI (by omega) (by decide)), nI_clamp (by omega), l1, show (10 : Int32) = nI 10 from rfl, pk_mul, nI_add, mck_ok (vp_in_nI (by omega) (by decide)), nI_clamp (by omega), mlet_eq, mck_ok (vp_in_nI (by omega) (by decide)), mck_ok (vp_in_nI (by omega) (by decide)), mlet_eq]
    refine ⟨_, rfl, ⟨?_, fun j hj => ?_⟩, fun a k h1 h2 => ?_, fun a k => rfl⟩
    · rw [mgi_msi, if_pos ⟨rfl, rfl⟩, mgi_msi, if_neg (by omega), l1, nI_1, List.length_append]
      rfl
    · rw [mgi_msi, if_neg (by omega), mgi_msi]
      simp only [List.length_append, List.length_cons, List.length_nil] at hj
      by_cases e : j = (rowF s r pn m).length
      · subst e
        simp
      · rw [if_neg (by omega), l2 j (by omega)]
        have : j < (rowF s r pn m).length := by omega
        simp [List.getD, List.getElem?_append_left this]
    · rw [mgi_msi, if_neg (by omega), mgi_msi, if_neg (by omega)]
  · simp only [Bool.not_eq_true] at c
    rw [c, if_pos (by decide)]
    refine ⟨h, rfl, ?_, fun _ _ _ _ => rfl, fun _ _ => rfl⟩
    simp only [Bool.false_eq_true, if_false, List.append_nil]
    exact hl
theorem frR.refl {r : Nat} {h : mH} : frR r h h := ⟨fun _ _ _ _ => rfl, fun _ _ => rfl⟩
theorem frR.trans {r : Nat} {h h1 h2 : mH} (a : frR r h h1) (b : frR r h1 h2) : frR r h h2 := ⟨fun c k h1 h2 => (b.1 c k h1 h2).trans (a.1 c k h1 h2), fun c k => (b.2 c k).trans (a.2 c k)⟩
theorem frR.ms {r p o : Nat} {h h' : mH} {s : Sh} (f : frR r h h') (hp : p ≠ 92 ∧ p ≠ 93) (m : MS h p o s) : MS h' p o s := m.congr (fun k => f.1 p k (by omega) (by omega))
theorem fm_loop {N p r : Nat} {s : Sh} {pn : Bool} (hN : 40 < N) (hp : p ≠ 92 ∧ p ≠ 93) (w : WS s) (hr : r < sH s) : ∀ (d m f : Nat) (h : mH), m + d = 2 ^ sW s → d < f → MS h p 0 s → RwL h r (rowF s r pn m) →
    ∃ h', x_X9_findMasks_15 N p (nI r) (b2i pn) (nI (sW s)) f (nI m) h = some h' ∧ RwL h' r (rowL s r pn) ∧ frR r h h' := by
  have w5 := w.2.2.2.1
  have w4 := w.2.1
  have h32 : 2 ^ sW s ≤ 32 := Nat.pow_le_pow_right (n := 2) (by decide) w5
  intro d
  induction d with
  | zero =>
    intro m f h hm hf ms hl
    obtain ⟨f, rfl⟩ : ∃ f', f = f' + 1 := ⟨f - 1, by omega⟩
    have : m = 2 ^ sW s := by omega
    subst this
    rw [x_X9_findMasks_15_s, pw_eq _ w5, if_pos (nI_le (Nat.le_refl _) (by omega))]
    exact ⟨h, rfl, hl, frR.refl⟩
  | succ d ih =>
    intro m f h hm hf ms hl
    obtain ⟨f, rfl⟩ : ∃ f', f = f' + 1 := ⟨f - 1, by omega⟩
    rw [x_X9_findMasks_15_s, pw_eq _ w5, if_neg (nI_ge (by omega) (by omega)), ones_eq (by omega), Option.bind_some, show (2 : Int32) = nI 2 from rfl, nI_add, mck_ok (vp_in_nI (by omega) (by decide)), nI_clamp (by omega), mlet_eq]
    have hR := ms.2.2.1 r hr
    rw [show 0 + 2 + r = 2 + r by omega] at hR
    have hRw := w.2.2.2.2.1 r hr
    have hbc : bc m 20 ≤ 20 := fb_ct_le _ _
    have e1 : (if ¬ nI (bc m 20) = mgi h p (2 + r) then (0 : Int32) else 1) = b2i (bc m 20 == sR s r) := by
      rw [hR]
      by_cases c : bc m 20 = sR s r
      · rw [c]; simp [b2i]
      · have : ¬ nI (bc m 20) = nI (sR s r) := fun q => c ((nI_eq (by omega) (by omega)).mp q)
        simp [b2i, c, this]
    rw [e1, show (0 : Int32) = nI 0 from rfl, fm_in ms w hr (sW s) 0 N _ (by omega) (by omega)]
    have e2 : (bc m 20 == sR s r && (!pn || (List.range (sW s)).all fun j => pok s r m (0 + j))) = rowok s r pn m := by
      unfold rowok
      simp only [Nat.zero_add]
    rw [e2]
    obtain ⟨h1, q1, q2, q3⟩ := fm_step (N := N) (self := x_X9_findMasks_15 N p (nI r) (b2i pn) (nI (sW s)) f) (by omega) ms w hr (by omega) hl
    rw [q1]
    obtain ⟨h2, r1, r2, r3⟩ := ih (m + 1) f h1 (by omega) (by omega) (q3.ms hp ms) q2
    exact ⟨h2, r1, r2, q3.trans r3⟩
theorem findMasks_eq {N p r : Nat} {s : Sh} {pn : Bool} {h : mH} (hN : 40 < N) (hp : p ≠ 92 ∧ p ≠ 93) (w : WS s) (hr : r < sH s) (ms : MS h p 0 s) : ∃ h', x_X9_findMasks N p (nI r) (b2i pn) h = some h' ∧ RwL h' r (rowL s r pn) ∧ frR r h h' := by
  have w5 := w.2.2.2.1
  have w4 := w.2.1
  have h32 : 2 ^ sW s ≤ 32 := Nat.pow_le_pow_right (n := 2) (by decide) w5
  unfold x_X9_findMasks
  have e1 : mgi h p 1 = nI (sW s) := ms.2.1
  rw [e1, mlet_eq, mck_ok (vp_in_nI (by omega) (by decide)), nI_clamp (by omega), mlet_eq]
  have f1 : frR r h (msi h 93 r 0) := ⟨fun a k h1 h2 => by rw [mgi_msi, if_neg (by omega)], fun _ _ => rfl⟩
  obtain ⟨h2, r1, r2, r3⟩ := fm_loop (N := N) (pn := pn) hN hp w hr (2 ^ sW s) 0 N (msi h 93 r 0) (by omega) (by omega) (f1.ms hp ms) ⟨by rw [mgi_msi, if_pos ⟨rfl, rfl⟩]; rfl, fun j hj => by simp [rowF] at hj⟩
  exact ⟨h2, r1, r2, f1.trans r3⟩
/-! all rows -/
def rowA (s : Sh) (pn : Bool) (r : Nat) : List Nat := if r < sH s then rowL s r pn else [0]
/-- only scratch cells of the list are otherwise -/
def frL (h h' : mH) : Prop := (∀ a k, a ≠ 92 → a ≠ 93 → a ≠ 94 → ¬ (a = 82 ∧ k = 17) → mgi h' a k = mgi h a k) ∧ ∀ a k, mgl h' a k = mgl h a k
theorem frL.refl {h : mH} : frL h h := ⟨fun _ _ _ _ _ _ => rfl, fun _ _ => rfl⟩
theorem frL.trans {h h1 h2 : mH} (a : frL h h1) (b : frL h1 h2) : frL h h2 := ⟨fun c k x y z u => (b.1 c k x y z u).trans (a.1 c k x y z u), fun c k => (b.2 c k).trans (a.2 c k)⟩
theorem frL.ms {p o : Nat} {h h' : mH} {s : Sh} (f : frL h h') (hp : p ≠ 92 ∧ p ≠ 93 ∧ p ≠ 94 ∧ p ≠ 82) (m : MS h p o s) : MS h' p o s := m.congr (fun k => f.1 p k hp.1 hp.2.1 hp.2.2.1 (fun q => hp.2.2.2 q.1))
theorem frR.frL {r : Nat} {h h' : mH} (f : frR r h h') : frL h h' := ⟨fun a k x y z u => f.1 a k (fun q => x q.1) (fun q => y q.1), f.2⟩
theorem RwL.kept {r r' : Nat} {h h' : mH} {l : List Nat} (f : frR r h h') (hne : r' ≠ r) (hl : l.length ≤ 10) (m : RwL h r' l) : RwL h' r' l := ⟨by rw [f.1 93 r' (by omega) (by omega)]; exact m.1, fun j hj => by rw [f.1 92 _ (by omega) (by omega)]; exact m.2 j hj⟩
theorem rowA_le {s : Sh} (w : WS s) (pn : Bool) (r : Nat) : (rowA s pn r).length ≤ 10 := by
  unfold rowA
  split
  · rename_i h; exact rowL_le w h pn
  · simp
