/-! the class's cells -/
/-- the totals of a sheet in one number -/
def totN (s : Sh) : Nat := (List.range (sW s)).foldl (fun n c => 8 * n + sC s c) ((List.range (sH s)).foldl (fun n r => 8 * n + sR s r) (8 * sH s + sW s))
def andAll (l : List Int32) : Int32 := l.foldl (fun a x => a &&& x) (-1)
def orAll (l : List Int32) : Int32 := l.foldl (fun a x => a ||| x) 0
/-- an answer as the class holds it -/
def shl (s : Sh) (q : Nat) : Int32 := nI (q * 2 ^ (20 - sN s))
/-- the list of answers at a, for a sheet -/
def AL (h : mH) (a : Nat) (s : Sh) : Prop :=
  mgi h a 1 = nI (ans0 s).length ∧ (∀ k, k < (ans0 s).length → mgi h (a + 1) k = shl s ((ans0 s).getD k 0)) ∧
  mgi h a 3 = nI (ans s).length ∧ (∀ k, k < (ans s).length → mgi h (a + 2) k = shl s ((ans s).getD k 0)) ∧
  mgi h a 5 = andAll ((ans s).map (shl s)) ∧ mgi h a 6 = orAll ((ans s).map (shl s)) ∧
  mgl h a 7 = lN (totN s) ∧ mgi h a 8 = nI (cmask (fun k => sP s k != 0) (sN s)) ∧ mgi h a 9 = nI (cmask (fun k => sP s k == 1) (sN s))
/-- fewest switches: a way of n steps by answers of which four cells differ -/
def nb4 (x y : Nat) : Bool := fb_ct (fun j => (x ^^^ y).testBit j) 20 == 4
def way (l : List Nat) : Nat → Nat → Nat → Bool
  | 0, i, j => i == j && decide (i < l.length)
  | n + 1, i, j => (List.range l.length).any fun k => way l n i k && decide (j < l.length) && nb4 (l.getD k 0) (l.getD j 0)
/-- steps of the walk: by answers' numbers from the number i -/
def dstI (l : List Nat) (i j : Nat) : Int32 := match (List.range (l.length + 1)).find? (fun n => way l n i j) with
  | none => -9
  | some n => nI n
def rchN (l : List Nat) (i : Nat) : Nat := fb_ct (fun j => (List.range (l.length + 1)).any fun n => way l n i j) l.length
/-- what the walk's cells hold, if they are of this list and plane -/
def WK (h : mH) (s : Sh) : Prop := mgi h 67 3 = mgi h 5 4 → ∃ q, (mgi h 67 4 = shl s q ∧ q ∈ ans s ∧ mgi h 67 2 = nI (rchN (ans s) ((ans s).idxOf q)) ∧ ∀ k, k < (ans s).length → mgi h 68 k = dstI (ans s) ((ans s).idxOf q) k) ∨ (mgi h 67 4 = -1 ∧ mgi h 67 2 = 0 ∧ ans s = [] ∧ ∀ k, k < 310 → mgi h 68 k = -9)
def IC (t : Nat) (h : mH) (z : St) : Prop :=
  (mgi h 15 1 = nI z.1.length ∧ ∀ k, k < z.1.length → mgi h 16 k = z.1.getD k 0) ∧
  CS h 2 z.2.1 ∧ AL h 5 z.2.1 ∧
  (∃ e : Nat, e ≤ t + 1 ∧ mgi h 5 4 = nI e ∧ ∃ e', e' ≤ e ∧ (mgi h 67 3 = nI e' ∨ mgi h 67 3 = -9)) ∧ WK h z.2.1 ∧
  (mgl h 12 7 = -9 ∨ ∃ s, WS s ∧ AL h 12 s) ∧
  (∃ n : Nat, n < 14 ∧ mgi h 20 1 = nI n ∧ mgi h 20 2 = nI z.2.2.1.length ∧ ∀ j s, z.2.2.1[j]? = some s → CS h (22 + 3 * ((n + 14 - z.2.2.1.length + j) % 14)) s) ∧
  (∀ i, i < 2 → mgi h 75 i = (if (z.2.2.2.1 i).isSome then 1 else 0) ∧ ∀ s, z.2.2.2.1 i = some s → CS h (76 + 3 * i) s) ∧
  (mgi h 0 11 = nI z.2.2.2.2.1.length ∧ mgi h 0 9 = orAll (z.2.2.2.2.1.map fun e => if e.2 then nI (2 ^ (19 - e.1)) else 0) ∧ mgi h 0 10 = orAll (z.2.2.2.2.1.map fun e => if e.2 then 0 else nI (2 ^ (19 - e.1)))) ∧
  mgl h 0 12 = z.2.2.2.2.2
theorem AL.congr {h h' : mH} {a : Nat} {s : Sh} (e0 : ∀ k, mgi h' a k = mgi h a k) (e1 : ∀ k, mgi h' (a + 1) k = mgi h (a + 1) k) (e2 : ∀ k, mgi h' (a + 2) k = mgi h (a + 2) k) (e3 : ∀ k, mgl h' a k = mgl h a k) (m : AL h a s) : AL h' a s := by
  unfold AL at *
  simp only [e0, e1, e2, e3]
  exact m
theorem WK.congr {h h' : mH} {s : Sh} (e0 : ∀ k, mgi h' 67 k = mgi h 67 k) (e1 : ∀ k, mgi h' 68 k = mgi h 68 k) (e2 : mgi h' 5 4 = mgi h 5 4) (m : WK h s) : WK h' s := by
  unfold WK at *
  simp only [e0, e1, e2]
  exact m
theorem IC.congr {t : Nat} {h h' : mH} {z : St} (e : frM h h') (m : IC t h z) : IC t h' z := by
  obtain ⟨⟨a1, a2⟩, b, c, ⟨ed, d1, d2, e', d3, d4⟩, f, g, ⟨n, n1, n2, n3, n4⟩, k, ⟨l1, l2, l3⟩, o⟩ := m
  have E := fun a (ha : a < 82) => (e a ha).1
  have EL := fun a (ha : a < 82) => (e a ha).2
  refine ⟨⟨by rw [E 15 (by decide)]; exact a1, fun k hk => by rw [E 16 (by decide)]; exact a2 k hk⟩, b.congr (E 2 (by decide)) (E 3 (by decide)) (E 4 (by decide)), c.congr (E 5 (by decide)) (E 6 (by decide)) (E 7 (by decide)) (EL 5 (by decide)), ⟨ed, d1, by rw [E 5 (by decide)]; exact d2, e', d3, by rw [E 67 (by decide)]; exact d4⟩, f.congr (E 67 (by decide)) (E 68 (by decide)) (E 5 (by decide) 4), ?_, ⟨n, n1, by rw [E 20 (by decide)]; exact n2, by rw [E 20 (by decide)]; exact n3, fun j s hs => ?_⟩, fun i hi => ⟨by rw [E 75 (by decide)]; exact (k i hi).1, fun s hs => ((k i hi).2 s hs).congr (E _ (by omega)) (E _ (by omega)) (E _ (by omega))⟩, ⟨by rw [E 0 (by decide)]; exact l1, by rw [E 0 (by decide)]; exact l2, by rw [E 0 (by decide)]; exact l3⟩, by rw [EL 0 (by decide)]; exact o⟩
  · rcases g with g | ⟨s, g1, g2⟩
    · exact Or.inl (by rw [EL 12 (by decide)]; exact g)
    · exact Or.inr ⟨s, g1, g2.congr (E 12 (by decide)) (E 13 (by decide)) (E 14 (by decide)) (EL 12 (by decide))⟩
  · have hq : (n + 14 - z.2.2.1.length + j) % 14 < 14 := Nat.mod_lt _ (by decide)
    exact (n4 j s hs).congr (E _ (by omega)) (E _ (by omega)) (E _ (by omega))
theorem IC.next {t : Nat} {h : mH} {z : St} (m : IC t h z) : IC (t + 1) h z := by
  obtain ⟨a, b, c, ⟨ed, d1, d2⟩, f⟩ := m
  exact ⟨a, b, c, ⟨ed, by omega, d2⟩, f⟩
/-- a call: class and model do what is told -/
def okC {α : Type} (t : Nat) (z : St) (h : mH) (o : Option (α × mH)) (r : α) (z' : St) : Prop := ∃ h', o = some (r, h') ∧ IC (t + 1) h' z' ∧ frC h h'
def okM {α : Type} (z : St) (h : mH) (o : Option (α × mH)) (r : α) (z' : St) : Prop := ∃ h', o = some (r, h') ∧ IM h' z' ∧ frM h h'
theorem ok_W {α : Type} [DecidableEq α] {t : Nat} {z z' : St} {h : mH} {r : α} {a : Option (α × mH)} {b : mH → Option (α × mH)} (hm : IM h z) (hw : WF z') (hC : okC t z h a r z') (hM : ∀ h1, IM h1 z → okM z h1 (b h1) r z') : ∃ h2, xcW a b = some h2 ∧ ∃ z2, WF z2 ∧ IC (t + 1) h2 z2 ∧ IM h2 z2 := by
  obtain ⟨h1, e1, c1, f1⟩ := hC
  obtain ⟨h2, e2, m2, f2⟩ := hM h1 (hm.congr f1)
  refine ⟨h2, ?_, z', hw, c1.congr f2, m2⟩
  unfold xcW
  rw [e1]
  show (b h1).bind _ = _
  rw [e2]
  simp
theorem ok_R {α : Type} [DecidableEq α] {t : Nat} {z : St} {h : mH} {r : α} {a : Option α} {b : mH → Option (α × mH)} (hc : IC t h z) (hm : IM h z) (hw : WF z) (hC : a = some r) (hM : okM z h (b h) r z) : ∃ h2, xcR a h b = some h2 ∧ ∃ z2, WF z2 ∧ IC (t + 1) h2 z2 ∧ IM h2 z2 := by
  obtain ⟨h2, e2, m2, f2⟩ := hM
  refine ⟨h2, ?_, z, hw, (hc.congr f2).next, m2⟩
  unfold xcR
  rw [hC]
  show (b h).bind _ = _
  rw [e2]
  simp
def Inv0 (t : Nat) (h : mH) : Prop := ∃ z, WF z ∧ IC t h z ∧ IM h z
