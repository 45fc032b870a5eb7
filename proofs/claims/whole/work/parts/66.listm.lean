/-! numbers in three bits a column -/
theorem shl_nI (n k : Nat) (hk : k < 32) : nI n <<< (nI k &&& 31) = nI (n * 2 ^ k) := by
  refine b_ext fun i hi => ?_
  rw [b_shl k hk _ hi, bt_nI _ i hi, ← Nat.shiftLeft_eq, Nat.testBit_shiftLeft]
  by_cases c : k ≤ i
  · rw [bt_nI n _ (by omega)]
  · simp [c]
theorem sar_nI {n k : Nat} (hn : n < 2 ^ 31) (hk : k < 32) : nI n >>> (nI k &&& 31) = nI (n / 2 ^ k) := by
  refine b_ext fun i hi => ?_
  rw [b_sshr k hk _ hi, bt_nI _ i hi, Nat.testBit_div_two_pow]
  have h31 : bt (nI n) 31 = false := by rw [bt_nI n 31 (by decide), Nat.testBit_lt_two_pow hn]
  split
  · rw [bt_nI n _ (by omega)]
    congr 1
    omega
  · rw [h31]
    symm
    apply Nat.testBit_lt_two_pow
    exact Nat.lt_of_lt_of_le hn (Nat.pow_le_pow_right (by decide) (by omega))
def pkS (f : Nat → Nat) : Nat → Nat
  | 0 => 0
  | c + 1 => 8 * pkS f c + f c
theorem pkS_add (f g : Nat → Nat) : ∀ n, pkS (fun c => f c + g c) n = pkS f n + pkS g n
  | 0 => rfl
  | n + 1 => by simp only [pkS, pkS_add f g n]; omega
theorem pkS_lt {f : Nat → Nat} : ∀ {n : Nat}, (∀ c, c < n → f c < 8) → pkS f n < 8 ^ n
  | 0, _ => by simp [pkS]
  | n + 1, h => by
    have h1 := pkS_lt (n := n) (fun c hc => h c (by omega))
    have h2 := h n (by omega)
    simp only [pkS, Nat.pow_succ]
    omega
theorem pkS_inj {f g : Nat → Nat} : ∀ {n : Nat}, (∀ c, c < n → f c < 8) → (∀ c, c < n → g c < 8) → (pkS f n = pkS g n ↔ ∀ c, c < n → f c = g c)
  | 0, _, _ => by simp [pkS]
  | n + 1, h, h' => by
    have ih := pkS_inj (n := n) (fun c hc => h c (by omega)) (fun c hc => h' c (by omega))
    have h2 := h n (by omega)
    have h3 := h' n (by omega)
    simp only [pkS]
    constructor
    · intro e c hc
      by_cases q : c = n
      · subst q; omega
      · exact ih.mp (by omega) c (by omega)
    · intro e
      have := ih.mpr (fun c hc => e c (by omega))
      have := e n (by omega)
      omega
theorem pkS_congr {f g : Nat → Nat} : ∀ {n : Nat}, (∀ c, c < n → f c = g c) → pkS f n = pkS g n
  | 0, _ => rfl
  | n + 1, h => by simp only [pkS, pkS_congr (n := n) (fun c hc => h c (by omega)), h n (by omega)]
def bitN (m k : Nat) : Nat := if m.testBit k then 1 else 0
theorem shl3_or {n b : Nat} (hb : b < 8) : (nI n <<< ((3 : Int32) &&& 31)) ||| nI b = nI (8 * n + b) := by
  rw [show (3 : Int32) = nI 3 from rfl, shl_nI n 3 (by decide), Nat.mul_comm, show 2 ^ 3 * n = 2 ^ 3 * n from rfl, fa_or_sum n (k := 3) hb]
def pkd (s : Sh) (m : Nat) : Nat := pkS (fun c => bitN m (sW s - 1 - c)) (sW s)
def tgt (s : Sh) : Nat := pkS (sC s) (sW s)
theorem packed_loop {N m : Nat} {s : Sh} (w : WS s) : ∀ (d c f : Nat), c + d = sW s → d < f → x_X9_packed_4 N (nI m) (nI (sW s)) f (nI (pkS (fun c => bitN m (sW s - 1 - c)) c)) (nI c) = some (nI (pkd s m)) := by
  have w5 := w.2.2.2.1
  intro d
  induction d with
  | zero =>
    intro c f hc hf
    obtain ⟨f, rfl⟩ : ∃ f', f = f' + 1 := ⟨f - 1, by omega⟩
    have : c = sW s := by omega
    subst this
    rw [x_X9_packed_4_s, if_pos (nI_le (Nat.le_refl _) (by omega))]
    rfl
  | succ d ih =>
    intro c f hc hf
    obtain ⟨f, rfl⟩ : ∃ f', f = f' + 1 := ⟨f - 1, by omega⟩
    rw [x_X9_packed_4_s, if_neg (nI_ge (by omega) (by omega)), sub1 (by omega), has_eq m _ (by omega), Option.bind_some, mlet_eq, nI_1]
    have e : (if (if m.testBit (sW s - 1 - c) then (1 : Int32) else 0) = 0 then (0 : Int32) else 1) = nI (bitN m (sW s - 1 - c)) := by
      unfold bitN
      cases m.testBit (sW s - 1 - c) <;> decide
    rw [e, shl3_or (by unfold bitN; split <;> decide)]
    exact ih (c + 1) f (by omega) (by omega)
theorem packed_eq {N m : Nat} {s : Sh} (hN : 40 < N) (w : WS s) : x_X9_packed N (nI m) (nI (sW s)) = some (nI (pkd s m)) := by
  have w5 := w.2.2.2.1
  exact packed_loop (N := N) (m := m) w (sW s) 0 N (by omega) (by omega)
theorem target_loop {N p : Nat} {s : Sh} {h : mH} (ms : MS h p 0 s) (w : WS s) : ∀ (d c f : Nat), c + d = sW s → d < f → x_X9_target_4 N p h f (nI (pkS (sC s) c)) (nI c) = some (nI (tgt s)) := by
  have w5 := w.2.2.2.1
  have w4 := w.2.1
  have e1 : mgi h p 1 = nI (sW s) := ms.2.1
  intro d
  induction d with
  | zero =>
    intro c f hc hf
    obtain ⟨f, rfl⟩ : ∃ f', f = f' + 1 := ⟨f - 1, by omega⟩
    have : c = sW s := by omega
    subst this
    rw [x_X9_target_4_s, e1, if_pos (nI_le (Nat.le_refl _) (by omega))]
    rfl
  | succ d ih =>
    intro c f hc hf
    obtain ⟨f, rfl⟩ : ∃ f', f = f' + 1 := ⟨f - 1, by omega⟩
    have hC := ms.2.2.2.1 c (by omega)
    rw [show 0 + 6 + c = 6 + c by omega] at hC
    have hC2 := w.2.2.2.2.2.1 c (by omega)
    rw [x_X9_target_4_s, e1, if_neg (nI_ge (by omega) (by omega)), show (6 : Int32) = nI 6 from rfl, nI_add, mck_ok (vp_in_nI (by omega) (by decide)), nI_clamp (by omega), mlet_eq, nI_1, hC, shl3_or (by omega)]
    exact ih (c + 1) f (by omega) (by omega)
theorem target_eq {N p : Nat} {s : Sh} {h : mH} (hN : 40 < N) (ms : MS h p 0 s) (w : WS s) : x_X9_target N p h = some (nI (tgt s)) := by
  have w5 := w.2.2.2.1
  exact target_loop (N := N) ms w (sW s) 0 N (by omega) (by omega)
/-! the lists that the four loops make -/
def pv (s : Sh) (a b c d : Nat) : Nat := (((a * 2 ^ sW s + b) * 2 ^ sW s + c) * 2 ^ sW s + d) / 2 ^ (sW s * (4 - sH s))
def L3 (s : Sh) (a b c : Nat) (l : List Nat) : List Nat := l.flatMap fun d => if pkd s a + pkd s b + pkd s c + pkd s d = tgt s then [pv s a b c d] else []
def L2 (s : Sh) (pn : Bool) (a b : Nat) (l : List Nat) : List Nat := l.flatMap fun c => L3 s a b c (rowA s pn 3)
def L1 (s : Sh) (pn : Bool) (a : Nat) (l : List Nat) : List Nat := l.flatMap fun b => L2 s pn a b (rowA s pn 2)
def L0 (s : Sh) (pn : Bool) (l : List Nat) : List Nat := l.flatMap fun a => L1 s pn a (rowA s pn 1)
def LsA (h : mH) (l : List Nat) : Prop := mgi h 82 17 = nI l.length ∧ ∀ j, j < l.length → mgi h 94 j = nI (l.getD j 0)
def frA (h h' : mH) : Prop := (∀ a k, a ≠ 94 → ¬ (a = 82 ∧ k = 17) → mgi h' a k = mgi h a k) ∧ ∀ a k, mgl h' a k = mgl h a k
theorem frA.refl {h : mH} : frA h h := ⟨fun _ _ _ _ => rfl, fun _ _ => rfl⟩
theorem frA.trans {h h1 h2 : mH} (a : frA h h1) (b : frA h1 h2) : frA h h2 := ⟨fun c k x y => (b.1 c k x y).trans (a.1 c k x y), fun c k => (b.2 c k).trans (a.2 c k)⟩
theorem frA.ms {p o : Nat} {h h' : mH} {s : Sh} (f : frA h h') (hp : p ≠ 94 ∧ p ≠ 82) (m : MS h p o s) : MS h' p o s := m.congr (fun k => f.1 p k hp.1 (fun q => hp.2 q.1))
/-- all four rows stand -/
def RwA (h : mH) (s : Sh) (pn : Bool) : Prop := ∀ r, r < 4 → RwL h r (rowA s pn r)
theorem frA.rows {h h' : mH} {s : Sh} {pn : Bool} (f : frA h h') (m : RwA h s pn) : RwA h' s pn := fun r hr => ⟨by rw [f.1 93 r (by decide) (by omega)]; exact (m r hr).1, fun j hj => by rw [f.1 92 _ (by decide) (by omega)]; exact (m r hr).2 j hj⟩
theorem drop_cons {l : List Nat} {j : Nat} (hj : j < l.length) : l.drop j = l.getD j 0 :: l.drop (j + 1) := by
  rw [List.drop_eq_getElem_cons hj]
  congr 1
  simp [List.getD, List.getElem?_eq_getElem hj]
theorem LsA.push {h : mH} {l : List Nat} {x : Nat} (m : LsA h l) : LsA (msi (msi h 94 l.length (nI x)) 82 17 (nI (l.length + 1))) (l ++ [x]) := by
  refine ⟨by rw [mgi_msi, if_pos ⟨rfl, rfl⟩, List.length_append]; rfl, fun j hj => ?_⟩
  simp only [List.length_append, List.length_cons, List.length_nil] at hj
  rw [mgi_msi, if_neg (by omega), mgi_msi]
  by_cases e : j = l.length
  · subst e; simp
  · rw [if_neg (by omega), m.2 j (by omega)]
    have : j < l.length := by omega
    simp [List.getD, List.getElem?_append_left this]
theorem rowA_lt {s : Sh} (w : WS s) {pn : Bool} {r m : Nat} (h : m ∈ rowA s pn r) : m < 2 ^ sW s := by
  unfold rowA at h
  split at h
  · unfold rowL rowF at h
    exact List.mem_range.mp (List.mem_filter.mp h).1
  · simp at h
    subst h
    exact Nat.two_pow_pos _
theorem getD_mem {l : List Nat} {j : Nat} (hj : j < l.length) : l.getD j 0 ∈ l := by
  simp [List.getD, List.getElem?_eq_getElem hj]
theorem pkd_lt {s : Sh} (w : WS s) (m : Nat) : pkd s m < 32768 := by
  have w5 := w.2.2.2.1
  have h1 : pkd s m < 8 ^ sW s := pkS_lt (fun c _ => by unfold bitN; split <;> decide)
  have h2 : 8 ^ sW s ≤ 8 ^ 5 := Nat.pow_le_pow_right (by decide) w5
  exact Nat.lt_of_lt_of_le h1 h2
theorem tgt_lt {s : Sh} (w : WS s) : tgt s < 32768 := by
  have w5 := w.2.2.2.1
  have h1 : tgt s < 8 ^ sW s := pkS_lt (fun c hc => by have := w.2.2.2.2.2.1 c hc; have := w.2.1; omega)
  have h2 : 8 ^ sW s ≤ 8 ^ 5 := Nat.pow_le_pow_right (by decide) w5
  exact Nat.lt_of_lt_of_le h1 h2
