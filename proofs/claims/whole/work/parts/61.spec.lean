/-! THE PURE HALF: numbers -/
theorem mlet_eq {α β : Type} (e : α) (k : α → β) : mlet e k = k e := rfl
theorem xin_eq (x a b : Int64) : x_X9_in x a b = some (if a ≤ x ∧ x ≤ b then 1 else 0) := by
  unfold x_X9_in
  have h1 : (lg_cmp x a < 0) ↔ ¬ a ≤ x := by
    rw [← lg_cmp_ge]
    constructor
    · intro h q
      rw [fa_lt] at h; rw [fa_le] at q; simp at h q; omega
    · intro h
      rw [fa_lt]; rw [fa_le] at h; simp at h ⊢; omega
  have h2 : (0 < lg_cmp x b) ↔ ¬ x ≤ b := by
    unfold lg_cmp
    simp only [gt_iff_lt, Int64.lt_iff_toInt_lt, Int64.le_iff_toInt_le, ← Int64.toInt_inj]
    split
    · simp; omega
    · split
      · simp; omega
      · simp; omega
  simp only [h1, h2]
  by_cases c1 : a ≤ x <;> by_cases c2 : x ≤ b <;> simp [c1, c2]
theorem xin32 (x a b : Int32) : x_X9_in x.toInt64 a.toInt64 b.toInt64 = some (if a ≤ x ∧ x ≤ b then 1 else 0) := by
  rw [xin_eq]
  simp only [fa_wide_le]
/-! sheets -/
/-- a sheet: 0 rows, 1 columns, 2 + r and 6 + c totals, 11 + k pins; and the plane (the first cell highest) -/
abbrev Sh : Type := (Nat → Nat) × Option Nat
def sH (s : Sh) : Nat := s.1 0
def sW (s : Sh) : Nat := s.1 1
def sR (s : Sh) (r : Nat) : Nat := s.1 (2 + r)
def sC (s : Sh) (c : Nat) : Nat := s.1 (6 + c)
def sP (s : Sh) (k : Nat) : Nat := s.1 (11 + k)
def sN (s : Sh) : Nat := sH s * sW s
/-- whether a cell is yes in a plane -/
def cb (s : Sh) (q k : Nat) : Bool := q.testBit (sN s - 1 - k)
def isAns0 (s : Sh) (q : Nat) : Bool := (List.range (sH s)).all (fun r => fb_ct (fun c => cb s q (sW s * r + c)) (sW s) == sR s r) && (List.range (sW s)).all (fun c => fb_ct (fun r => cb s q (sW s * r + c)) (sH s) == sC s c)
def isPin (s : Sh) (q : Nat) : Bool := (List.range (sN s)).all fun k => (sP s k != 1 || cb s q k) && (sP s k != 2 || !cb s q k)
def ans0 (s : Sh) : List Nat := (List.range (2 ^ sN s)).filter (isAns0 s)
def ans (s : Sh) : List Nat := (ans0 s).filter (isPin s)
/-- cells that are so, as a mask of the class: cell k is bit 19 - k -/
def cmask (f : Nat → Bool) : Nat → Nat
  | 0 => 0
  | k + 1 => cmask f k + (if f k then 2 ^ (19 - k) else 0)
def plC (s : Sh) : Int32 := match s.2 with
  | none => -1
  | some q => nI (q * 2 ^ (20 - sN s))
def plM (s : Sh) : Int32 := match s.2 with
  | none => -9
  | some q => nI q
def CS (h : mH) (a : Nat) (s : Sh) : Prop := mgi h a 0 = nI (sH s) ∧ mgi h a 1 = nI (sW s) ∧ (∀ r, r < sH s → mgi h (a + 1) r = nI (sR s r)) ∧ (∀ c, c < sW s → mgi h (a + 2) c = nI (sC s c)) ∧ mgi h a 4 = nI (cmask (fun k => sP s k != 0) (sN s)) ∧ mgi h a 5 = nI (cmask (fun k => sP s k == 1) (sN s)) ∧ mgi h a 6 = plC s
def MS (h : mH) (p o : Nat) (s : Sh) : Prop := mgi h p o = nI (sH s) ∧ mgi h p (o + 1) = nI (sW s) ∧ (∀ r, r < sH s → mgi h p (o + 2 + r) = nI (sR s r)) ∧ (∀ c, c < sW s → mgi h p (o + 6 + c) = nI (sC s c)) ∧ (∀ k, k < sN s → mgi h p (o + 11 + k) = nI (sP s k)) ∧ mgi h p (o + 31) = plM s
def WS (s : Sh) : Prop := 1 ≤ sH s ∧ sH s ≤ 4 ∧ 1 ≤ sW s ∧ sW s ≤ 5 ∧ (∀ r, r < sH s → sR s r ≤ sW s) ∧ (∀ c, c < sW s → sC s c ≤ sH s) ∧ (∀ k, k < sN s → sP s k ≤ 2) ∧ fb_ct (fun k => sP s k != 0) (sN s) ≤ 6
/-- the plane is an answer, or there is none -/
def WP (s : Sh) : Prop := (s.2 = none ∧ ans s = []) ∨ ∃ q, s.2 = some q ∧ q ∈ ans s
/-- the state: letters, sheet, acts (the oldest first), slots, seen (cell, is), seed -/
abbrev St : Type := List Int32 × Sh × List Sh × (Nat → Option Sh) × List (Nat × Bool) × Int64
def WF (z : St) : Prop := z.1.length ≤ 40 ∧ (WS z.2.1 ∧ WP z.2.1) ∧ (z.2.2.1.length ≤ 14 ∧ ∀ s ∈ z.2.2.1, WS s ∧ WP s) ∧ (∀ i s, z.2.2.2.1 i = some s → WS s ∧ WP s) ∧ (z.2.2.2.2.1.length ≤ 6 ∧ ∀ e ∈ z.2.2.2.2.1, e.1 < 20)
/-! the model's cells -/
def IM (h : mH) (z : St) : Prop :=
  (mgi h 82 2 = nI z.1.length ∧ ∀ k, k < z.1.length → mgi h 83 k = z.1.getD k 0) ∧
  MS h 85 0 z.2.1 ∧
  (mgi h 82 7 = nI z.2.2.1.length ∧ ∀ j s, z.2.2.1[j]? = some s → MS h 87 (32 * j) s) ∧
  (∀ i, i < 2 → mgi h 89 i = (if (z.2.2.2.1 i).isSome then 1 else 0) ∧ ∀ s, z.2.2.2.1 i = some s → MS h 88 (32 * i) s) ∧
  (mgi h 82 10 = nI z.2.2.2.2.1.length ∧ ∀ j e, z.2.2.2.2.1[j]? = some e → mgi h 90 j = nI e.1 ∧ mgi h 91 j = if e.2 then 1 else 0) ∧
  mgl h 82 13 = z.2.2.2.2.2
/-- nothing below, nothing from 82 on is otherwise -/
def frM (h h' : mH) : Prop := ∀ a, a < 82 → (∀ k, mgi h' a k = mgi h a k) ∧ ∀ k, mgl h' a k = mgl h a k
def frC (h h' : mH) : Prop := ∀ a, 82 ≤ a → (∀ k, mgi h' a k = mgi h a k) ∧ ∀ k, mgl h' a k = mgl h a k
theorem frM.rfl {h : mH} : frM h h := fun _ _ => ⟨fun _ => Eq.refl _, fun _ => Eq.refl _⟩
theorem frC.rfl {h : mH} : frC h h := fun _ _ => ⟨fun _ => Eq.refl _, fun _ => Eq.refl _⟩
theorem frM.trans {h h1 h2 : mH} (a : frM h h1) (b : frM h1 h2) : frM h h2 := fun c hc => ⟨fun k => ((b c hc).1 k).trans ((a c hc).1 k), fun k => ((b c hc).2 k).trans ((a c hc).2 k)⟩
theorem frC.trans {h h1 h2 : mH} (a : frC h h1) (b : frC h1 h2) : frC h h2 := fun c hc => ⟨fun k => ((b c hc).1 k).trans ((a c hc).1 k), fun k => ((b c hc).2 k).trans ((a c hc).2 k)⟩
theorem frM_i {h : mH} {a k : Nat} {v : Int32} (ha : 82 ≤ a) : frM h (msi h a k v) := fun c hc => ⟨fun j => by rw [mgi_msi, if_neg (by omega)], fun _ => Eq.refl _⟩
theorem frM_l {h : mH} {a k : Nat} {v : Int64} (ha : 82 ≤ a) : frM h (msl h a k v) := fun c hc => ⟨fun _ => Eq.refl _, fun j => by rw [mgl_msl, if_neg (by omega)]⟩
theorem frC_i {h : mH} {a k : Nat} {v : Int32} (ha : a < 82) : frC h (msi h a k v) := fun c hc => ⟨fun j => by rw [mgi_msi, if_neg (by omega)], fun _ => Eq.refl _⟩
theorem frC_l {h : mH} {a k : Nat} {v : Int64} (ha : a < 82) : frC h (msl h a k v) := fun c hc => ⟨fun _ => Eq.refl _, fun j => by rw [mgl_msl, if_neg (by omega)]⟩
theorem MS.congr {h h' : mH} {p o : Nat} {s : Sh} (e : ∀ k, mgi h' p k = mgi h p k) (m : MS h p o s) : MS h' p o s := by
  unfold MS at *
  simp only [e]
  exact m
theorem CS.congr {h h' : mH} {a : Nat} {s : Sh} (e0 : ∀ k, mgi h' a k = mgi h a k) (e1 : ∀ k, mgi h' (a + 1) k = mgi h (a + 1) k) (e2 : ∀ k, mgi h' (a + 2) k = mgi h (a + 2) k) (m : CS h a s) : CS h' a s := by
  unfold CS at *
  simp only [e0, e1, e2]
  exact m
theorem IM.congr {h h' : mH} {z : St} (e : frC h h') (m : IM h z) : IM h' z := by
  obtain ⟨⟨a1, a2⟩, b, ⟨c1, c2⟩, d, ⟨f1, f2⟩, g⟩ := m
  have E := fun a (ha : 82 ≤ a) => (e a ha).1
  refine ⟨⟨by rw [E 82 (by decide)]; exact a1, fun k hk => by rw [E 83 (by decide)]; exact a2 k hk⟩, b.congr (E 85 (by decide)), ⟨by rw [E 82 (by decide)]; exact c1, fun j s hs => (c2 j s hs).congr (E 87 (by decide))⟩, fun i hi => ⟨by rw [E 89 (by decide)]; exact (d i hi).1, fun s hs => ((d i hi).2 s hs).congr (E 88 (by decide))⟩, ⟨by rw [E 82 (by decide)]; exact f1, fun j q hq => by rw [E 90 (by decide), E 91 (by decide)]; exact f2 j q hq⟩, by rw [(e 82 (by decide)).2]; exact g⟩
