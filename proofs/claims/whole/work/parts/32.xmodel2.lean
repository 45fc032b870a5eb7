noncomputable def x_X9_orderRows_47 (N : Nat) (self9 : Int32 → Int32 → mH → Option (mH)) (self15 : Int32 → Int32 → mH → Option (mH)) (v1 : Int32) (v2 : Int32) (v3 : Int32) (h : mH) : Option (mH) :=
  self15 v1 (v3 + (1 : Int32)) h
set_option maxRecDepth 20000 in
set_option maxHeartbeats 4000000 in
theorem b_X9_orderRows_47 {g : mG} {l : Launch} (hg : mnn g = 101) (N : Nat) (v1 : Int32) (v2 : Int32) (v3 : Int32) (self9 : Int32 → Int32 → mH → Option (mH)) (hself9 : ∀ (v1 : Int32) (v2 : Int32) (h : mH), mw g l 0 mX9_orderRows (fun r : mH => ((none : Option Value), r)) 9 [(0, .ref (mad g 82)), (1, .int v1), (2, .int v2)] [] h (self9 v1 v2 h)) (self15 : Int32 → Int32 → mH → Option (mH)) (hself15 : ∀ (v1 : Int32) (v3 : Int32) (h : mH), mw g l 0 mX9_orderRows (fun r : mH => ((none : Option Value), r)) 15 [(0, .ref (mad g 82)), (1, .int v1), (2, .int v2), (3, .int v3)] [] h (self15 v1 v3 h)) (h : mH) : mw g l 0 mX9_orderRows (fun r : mH => ((none : Option Value), r)) 47 [(0, .ref (mad g 82)), (1, .int v1), (2, .int v2), (3, .int v3)] [] h (x_X9_orderRows_47 N self9 self15 v1 v2 v3 h) := by
  unfold x_X9_orderRows_47
  refine mw_iinc (n := 50) (q := 3) (v := (v3 + (1 : Int32))) dX9_orderRows_47 rfl rfl rfl (by decide) rfl ?_
  refine mw_goto (n := 15) dX9_orderRows_50 (by decide) ?_
  refine mw_sub [1, 2, 3, 0] rfl ?_
  exact hself15 v1 (v3 + (1 : Int32)) h
noncomputable def x_X9_orderRows_15 (N : Nat) (self9 : Int32 → Int32 → mH → Option (mH)) (v2 : Int32) (f : Nat) : Int32 → Int32 → mH → Option (mH) :=
  Nat.rec (motive := fun _ => Int32 → Int32 → mH → Option (mH)) (fun _ _ _ => none) (fun _ self15 => fun v1 v3 h => 
    if (mgi h 85 0) ≤ v3 then
      self9 v1 (v2 + (-1 : Int32)) h
    else
      mck ((2 : Int32) + v3) 32 <|
      if ¬ (mgi h 85 (((2 : Int32) + v3)).toNatClampNeg) = v2 then
        x_X9_orderRows_47 N self9 self15 v1 v2 v3 h
      else
        mck v1 4 <|
        mlet (msi h 97 (v1).toNatClampNeg v3) fun h3 =>
        x_X9_orderRows_47 N self9 self15 (v1 + (1 : Int32)) v2 v3 h3) f
theorem x_X9_orderRows_15_0 (N : Nat) (self9 : Int32 → Int32 → mH → Option (mH)) (v2 : Int32) (v1 : Int32) (v3 : Int32) (h : mH) : x_X9_orderRows_15 N self9 v2 0 v1 v3 h = none := rfl
theorem x_X9_orderRows_15_s (N : Nat) (self9 : Int32 → Int32 → mH → Option (mH)) (v2 : Int32) (f : Nat) (v1 : Int32) (v3 : Int32) (h : mH) : x_X9_orderRows_15 N self9 v2 (f + 1) v1 v3 h = (
    if (mgi h 85 0) ≤ v3 then
      self9 v1 (v2 + (-1 : Int32)) h
    else
      mck ((2 : Int32) + v3) 32 <|
      if ¬ (mgi h 85 (((2 : Int32) + v3)).toNatClampNeg) = v2 then
        x_X9_orderRows_47 N self9 (x_X9_orderRows_15 N self9 v2 f) v1 v2 v3 h
      else
        mck v1 4 <|
        mlet (msi h 97 (v1).toNatClampNeg v3) fun h3 =>
        x_X9_orderRows_47 N self9 (x_X9_orderRows_15 N self9 v2 f) (v1 + (1 : Int32)) v2 v3 h3) := rfl
set_option maxRecDepth 20000 in
set_option maxHeartbeats 4000000 in
theorem b_X9_orderRows_15 {g : mG} {l : Launch} (hg : mnn g = 101) (N : Nat) (v2 : Int32) (self9 : Int32 → Int32 → mH → Option (mH)) (hself9 : ∀ (v1 : Int32) (v2 : Int32) (h : mH), mw g l 0 mX9_orderRows (fun r : mH => ((none : Option Value), r)) 9 [(0, .ref (mad g 82)), (1, .int v1), (2, .int v2)] [] h (self9 v1 v2 h)) (f : Nat) : ∀ (v1 : Int32) (v3 : Int32) (h : mH), mw g l 0 mX9_orderRows (fun r : mH => ((none : Option Value), r)) 15 [(0, .ref (mad g 82)), (1, .int v1), (2, .int v2), (3, .int v3)] [] h (x_X9_orderRows_15 N self9 v2 f v1 v3 h) := by
  induction f with
  | zero => intros; exact mw_none
  | succ f hself15 =>
    intro v1 v3 h
    refine mw_eq (x_X9_orderRows_15_s N self9 v2 f v1 v3 h) ?_
    generalize x_X9_orderRows_15 N self9 v2 f = self15 at hself15 ⊢
    refine mw_iload_n (n := 16) (q := 3) dX9_orderRows_15 rfl rfl rfl ?_
    refine mw_aload_n (n := 17) (q := 0) dX9_orderRows_16 rfl rfl rfl ?_
    refine mw_getr (n := 20) (a := 82) (k := 4) cl9 (mkm hg (by decide) (by rfl)) (by decide) rfl rfl fl_X9_16 dX9_orderRows_17 rfl ?_
    refine mw_iconst (n := 21) (v := 0) dX9_orderRows_20 rfl (by decide) ?_
    refine mw_iaLd (n := 22) (a := 85) (j := 0) (N := 32) (mkm hg (by decide) (by rfl)) (by decide) (by decide) dX9_orderRows_21 rfl ?_
    refine mw_icmp_ge (n := 25) (t := 53) dX9_orderRows_22 rfl (by decide) Iff.rfl (fun c1 => ?_) (fun c1 => ?_)
    · refine mw_iinc (n := 56) (q := 2) (v := (v2 + (-1 : Int32))) dX9_orderRows_53 rfl rfl rfl (by decide) rfl ?_
      refine mw_goto (n := 9) dX9_orderRows_56 (by decide) ?_
      refine mw_sub [1, 2, 0] rfl ?_
      exact hself9 v1 (v2 + (-1 : Int32)) h
    · refine mw_aload_n (n := 26) (q := 0) dX9_orderRows_25 rfl rfl rfl ?_
      refine mw_getr (n := 29) (a := 82) (k := 4) cl9 (mkm hg (by decide) (by rfl)) (by decide) rfl rfl fl_X9_16 dX9_orderRows_26 rfl ?_
      refine mw_iconst (n := 30) (v := 2) dX9_orderRows_29 rfl (by decide) ?_
      refine mw_iload_n (n := 31) (q := 3) dX9_orderRows_30 rfl rfl rfl ?_
      refine mw_iadd (n := 32) dX9_orderRows_31 rfl ?_
      refine mw_iald (n := 33) (a := 85) (N := 32) (mkm hg (by decide) (by rfl)) dX9_orderRows_32 rfl ?_
      refine mw_iload_n (n := 34) (q := 2) dX9_orderRows_33 rfl rfl rfl ?_
      refine mw_icmp_ne (n := 37) (t := 47) dX9_orderRows_34 rfl (by decide) Iff.rfl (fun c2 => ?_) (fun c2 => ?_)
      · exact b_X9_orderRows_47 hg N v1 v2 v3 self9 hself9 self15 hself15 h
      · refine mw_aload_n (n := 38) (q := 0) dX9_orderRows_37 rfl rfl rfl ?_
        refine mw_getr (n := 41) (a := 82) (k := 20) cl9 (mkm hg (by decide) (by rfl)) (by decide) rfl rfl fl_X9_53 dX9_orderRows_38 rfl ?_
        refine mw_iload_n (n := 42) (q := 1) dX9_orderRows_41 rfl rfl rfl ?_
        refine mw_iload_n (n := 43) (q := 3) dX9_orderRows_42 rfl rfl rfl ?_
        refine mw_iast (n := 44) (a := 97) (N := 4) (mkm hg (by decide) (by rfl)) dX9_orderRows_43 rfl (mw_leth (fun h3 => ?_))
        refine mw_iinc (n := 47) (q := 1) (v := (v1 + (1 : Int32))) dX9_orderRows_44 rfl rfl rfl (by decide) rfl ?_
        refine mw_sub [1, 0, 2, 3] rfl ?_
        exact b_X9_orderRows_47 hg N (v1 + (1 : Int32)) v2 v3 self9 hself9 self15 hself15 h3
noncomputable def x_X9_orderRows_9 (N : Nat) (f : Nat) : Int32 → Int32 → mH → Option (mH) :=
  Nat.rec (motive := fun _ => Int32 → Int32 → mH → Option (mH)) (fun _ _ _ => none) (fun _ self9 => fun v1 v2 h => 
    if v2 < 0 then
      some h
    else
      x_X9_orderRows_15 N self9 v2 N v1 (0 : Int32) h) f
theorem x_X9_orderRows_9_0 (N : Nat) (v1 : Int32) (v2 : Int32) (h : mH) : x_X9_orderRows_9 N 0 v1 v2 h = none := rfl
theorem x_X9_orderRows_9_s (N : Nat) (f : Nat) (v1 : Int32) (v2 : Int32) (h : mH) : x_X9_orderRows_9 N (f + 1) v1 v2 h = (
    if v2 < 0 then
      some h
    else
      x_X9_orderRows_15 N (x_X9_orderRows_9 N f) v2 N v1 (0 : Int32) h) := rfl
set_option maxRecDepth 20000 in
set_option maxHeartbeats 4000000 in
theorem b_X9_orderRows_9 {g : mG} {l : Launch} (hg : mnn g = 101) (N : Nat) (f : Nat) : ∀ (v1 : Int32) (v2 : Int32) (h : mH), mw g l 0 mX9_orderRows (fun r : mH => ((none : Option Value), r)) 9 [(0, .ref (mad g 82)), (1, .int v1), (2, .int v2)] [] h (x_X9_orderRows_9 N f v1 v2 h) := by
  induction f with
  | zero => intros; exact mw_none
  | succ f hself9 =>
    intro v1 v2 h
    refine mw_eq (x_X9_orderRows_9_s N f v1 v2 h) ?_
    generalize x_X9_orderRows_9 N f = self9 at hself9 ⊢
    refine mw_iload_n (n := 10) (q := 2) dX9_orderRows_9 rfl rfl rfl ?_
    refine mw_if_lt (n := 13) (t := 59) dX9_orderRows_10 rfl (by decide) Iff.rfl (fun c1 => ?_) (fun c1 => ?_)
    · exact mw_vret dX9_orderRows_59 rfl rfl
    · refine mw_iconst (n := 14) (v := 0) dX9_orderRows_13 rfl (by decide) ?_
      refine mw_istore_n (n := 15) dX9_orderRows_14 rfl rfl (by decide) rfl ?_
      refine mw_sub [1, 2, 3, 0] rfl ?_
      exact b_X9_orderRows_15 hg N v2 self9 hself9 N v1 (0 : Int32) h
noncomputable def x_X9_orderRows (N : Nat) (h : mH) : Option (mH) :=
  mlet (mgi h 85 1) fun u1 =>
  x_X9_orderRows_9 N N (0 : Int32) u1 h
set_option maxRecDepth 20000 in
set_option maxHeartbeats 4000000 in
theorem t_X9_orderRows {g : mG} {l : Launch} (hg : mnn g = 101) (N : Nat) (h : mH) : mf g l 0 mX9_orderRows (fun r : mH => ((none : Option Value), r)) [.ref (mad g 82)] h (x_X9_orderRows N h) := by
  refine mf_of (by decide) (Nat.le_of_ble_eq_true rfl) ?_
  show mw g l 0 mX9_orderRows (fun r : mH => ((none : Option Value), r)) 0 [(0, .ref (mad g 82))] [] h _
  unfold x_X9_orderRows
  refine mw_iconst (n := 1) (v := 0) dX9_orderRows_0 rfl (by decide) ?_
  refine mw_istore_n (n := 2) dX9_orderRows_1 rfl rfl (by decide) rfl ?_
  refine mw_aload_n (n := 3) (q := 1) dX9_orderRows_2 rfl rfl rfl ?_
  refine mw_getr (n := 6) (a := 82) (k := 4) cl9 (mkm hg (by decide) (by rfl)) (by decide) rfl rfl fl_X9_16 dX9_orderRows_3 rfl ?_
  refine mw_iconst (n := 7) (v := 1) dX9_orderRows_6 rfl (by decide) ?_
  refine mw_iaLd (n := 8) (a := 85) (j := 1) (N := 32) (mkm hg (by decide) (by rfl)) (by decide) (by decide) dX9_orderRows_7 rfl ?_
  refine mw_letI (fun u1 => ?_)
  refine mw_istore_n (n := 9) dX9_orderRows_8 rfl rfl (by decide) rfl ?_
  refine mw_sub [2, 1, 0] rfl ?_
  exact b_X9_orderRows_9 hg N N (0 : Int32) u1 h
noncomputable def x_X9_ahead_55 (N : Nat) (self4 : Int32 → Int32 → Option (Int32)) (v1 : Int32) (v3 : Int32) (s0 : Int32) (s1 : Int32) (h : mH) : Option (Int32) :=
  mlet (s1 + s0) fun u1 =>
  self4 u1 (v3 + (1 : Int32))
set_option maxRecDepth 20000 in
set_option maxHeartbeats 4000000 in
theorem b_X9_ahead_55 {g : mG} {l : Launch} (hg : mnn g = 101) (N : Nat) (v1 : Int32) (v3 : Int32) (s0 : Int32) (s1 : Int32) (h : mH) (self4 : Int32 → Int32 → Option (Int32)) (hself4 : ∀ (v2 : Int32) (v3 : Int32), mw g l 0 mX9_ahead (fun r : Int32 => (some (Value.int r), h)) 4 [(0, .ref (mad g 82)), (1, .int v1), (2, .int v2), (3, .int v3)] [] h (self4 v2 v3)) : mw g l 0 mX9_ahead (fun r : Int32 => (some (Value.int r), h)) 55 [(0, .ref (mad g 82)), (1, .int v1), (3, .int v3)] [.int s0, .int s1] h (x_X9_ahead_55 N self4 v1 v3 s0 s1 h) := by
  unfold x_X9_ahead_55
  refine mw_iadd (n := 56) dX9_ahead_55 rfl ?_
  refine mw_letI (fun u1 => ?_)
  refine mw_istore_n (n := 57) dX9_ahead_56 rfl rfl (by decide) rfl ?_
  refine mw_iinc (n := 60) (q := 3) (v := (v3 + (1 : Int32))) dX9_ahead_57 rfl rfl rfl (by decide) rfl ?_
  refine mw_goto (n := 4) dX9_ahead_60 (by decide) ?_
  refine mw_sub [2, 3, 1, 0] rfl ?_
  exact hself4 u1 (v3 + (1 : Int32))
noncomputable def x_X9_ahead_50 (N : Nat) (self4 : Int32 → Int32 → Option (Int32)) (v1 : Int32) (v3 : Int32) (s0 : Int32) (h : mH) : Option (Int32) :=
  x_X9_ahead_55 N self4 v1 v3 (1 : Int32) s0 h
set_option maxRecDepth 20000 in
set_option maxHeartbeats 4000000 in
theorem b_X9_ahead_50 {g : mG} {l : Launch} (hg : mnn g = 101) (N : Nat) (v1 : Int32) (v3 : Int32) (s0 : Int32) (h : mH) (self4 : Int32 → Int32 → Option (Int32)) (hself4 : ∀ (v2 : Int32) (v3 : Int32), mw g l 0 mX9_ahead (fun r : Int32 => (some (Value.int r), h)) 4 [(0, .ref (mad g 82)), (1, .int v1), (2, .int v2), (3, .int v3)] [] h (self4 v2 v3)) : mw g l 0 mX9_ahead (fun r : Int32 => (some (Value.int r), h)) 50 [(0, .ref (mad g 82)), (1, .int v1), (3, .int v3)] [.int s0] h (x_X9_ahead_50 N self4 v1 v3 s0 h) := by
  unfold x_X9_ahead_50
  refine mw_iconst (n := 51) (v := 1) dX9_ahead_50 rfl (by decide) ?_
  refine mw_goto (n := 55) dX9_ahead_51 (by decide) ?_
  exact b_X9_ahead_55 hg N v1 v3 (1 : Int32) s0 h self4 hself4
noncomputable def x_X9_ahead_4 (N : Nat) (v1 : Int32) (h : mH) (f : Nat) : Int32 → Int32 → Option (Int32) :=
  Nat.rec (motive := fun _ => Int32 → Int32 → Option (Int32)) (fun _ _ => none) (fun _ self4 => fun v2 v3 => 
    if (mgi h 85 1) ≤ v3 then
      some v2
    else
      mck v3 5 <|
      mck v1 5 <|
      if (mgi h 98 (v1).toNatClampNeg) < (mgi h 98 (v3).toNatClampNeg) then
        x_X9_ahead_50 N self4 v1 v3 v2 h
      else
        mck v3 5 <|
        mck v1 5 <|
        mlet (v2 + (if ¬ (mgi h 98 (v3).toNatClampNeg) = (mgi h 98 (v1).toNatClampNeg) then (0 : Int32) else (if v1 ≤ v3 then (0 : Int32) else (1 : Int32)))) fun u5 =>
        self4 u5 (v3 + (1 : Int32))) f
theorem x_X9_ahead_4_0 (N : Nat) (v1 : Int32) (h : mH) (v2 : Int32) (v3 : Int32) : x_X9_ahead_4 N v1 h 0 v2 v3 = none := rfl
theorem x_X9_ahead_4_s (N : Nat) (v1 : Int32) (h : mH) (f : Nat) (v2 : Int32) (v3 : Int32) : x_X9_ahead_4 N v1 h (f + 1) v2 v3 = (
    if (mgi h 85 1) ≤ v3 then
      some v2
    else
      mck v3 5 <|
      mck v1 5 <|
      if (mgi h 98 (v1).toNatClampNeg) < (mgi h 98 (v3).toNatClampNeg) then
        x_X9_ahead_50 N (x_X9_ahead_4 N v1 h f) v1 v3 v2 h
      else
        mck v3 5 <|
        mck v1 5 <|
        mlet (v2 + (if ¬ (mgi h 98 (v3).toNatClampNeg) = (mgi h 98 (v1).toNatClampNeg) then (0 : Int32) else (if v1 ≤ v3 then (0 : Int32) else (1 : Int32)))) fun u5 =>
        (x_X9_ahead_4 N v1 h f) u5 (v3 + (1 : Int32))) := rfl
set_option maxRecDepth 20000 in
set_option maxHeartbeats 4000000 in
theorem b_X9_ahead_4 {g : mG} {l : Launch} (hg : mnn g = 101) (N : Nat) (v1 : Int32) (h : mH) (f : Nat) : ∀ (v2 : Int32) (v3 : Int32), mw g l 0 mX9_ahead (fun r : Int32 => (some (Value.int r), h)) 4 [(0, .ref (mad g 82)), (1, .int v1), (2, .int v2), (3, .int v3)] [] h (x_X9_ahead_4 N v1 h f v2 v3) := by
  induction f with
  | zero => intros; exact mw_none
  | succ f hself4 =>
    intro v2 v3
    refine mw_eq (x_X9_ahead_4_s N v1 h f v2 v3) ?_
    generalize x_X9_ahead_4 N v1 h f = self4 at hself4 ⊢
    refine mw_iload_n (n := 5) (q := 3) dX9_ahead_4 rfl rfl rfl ?_
    refine mw_aload_n (n := 6) (q := 0) dX9_ahead_5 rfl rfl rfl ?_
    refine mw_getr (n := 9) (a := 82) (k := 4) cl9 (mkm hg (by decide) (by rfl)) (by decide) rfl rfl fl_X9_16 dX9_ahead_6 rfl ?_
    refine mw_iconst (n := 10) (v := 1) dX9_ahead_9 rfl (by decide) ?_
    refine mw_iaLd (n := 11) (a := 85) (j := 1) (N := 32) (mkm hg (by decide) (by rfl)) (by decide) (by decide) dX9_ahead_10 rfl ?_
    refine mw_icmp_ge (n := 14) (t := 63) dX9_ahead_11 rfl (by decide) Iff.rfl (fun c1 => ?_) (fun c1 => ?_)
    · refine mw_iload_n (n := 64) (q := 2) dX9_ahead_63 rfl rfl rfl ?_
      exact mw_iret dX9_ahead_64 rfl rfl
    · refine mw_iload_n (n := 15) (q := 2) dX9_ahead_14 rfl rfl rfl ?_
      refine mw_aload_n (n := 16) (q := 0) dX9_ahead_15 rfl rfl rfl ?_
      refine mw_getr (n := 19) (a := 82) (k := 21) cl9 (mkm hg (by decide) (by rfl)) (by decide) rfl rfl fl_X9_56 dX9_ahead_16 rfl ?_
      refine mw_iload_n (n := 20) (q := 3) dX9_ahead_19 rfl rfl rfl ?_
      refine mw_iald (n := 21) (a := 98) (N := 5) (mkm hg (by decide) (by rfl)) dX9_ahead_20 rfl ?_
      refine mw_aload_n (n := 22) (q := 0) dX9_ahead_21 rfl rfl rfl ?_
      refine mw_getr (n := 25) (a := 82) (k := 21) cl9 (mkm hg (by decide) (by rfl)) (by decide) rfl rfl fl_X9_56 dX9_ahead_22 rfl ?_
      refine mw_iload_n (n := 26) (q := 1) dX9_ahead_25 rfl rfl rfl ?_
      refine mw_iald (n := 27) (a := 98) (N := 5) (mkm hg (by decide) (by rfl)) dX9_ahead_26 rfl ?_
      refine mw_icmp_gt (n := 30) (t := 50) dX9_ahead_27 rfl (by decide) Iff.rfl (fun c2 => ?_) (fun c2 => ?_)
      · refine mw_sub [0, 1, 3] rfl ?_
        exact b_X9_ahead_50 hg N v1 v3 v2 h self4 hself4
      · refine mw_aload_n (n := 31) (q := 0) dX9_ahead_30 rfl rfl rfl ?_
        refine mw_getr (n := 34) (a := 82) (k := 21) cl9 (mkm hg (by decide) (by rfl)) (by decide) rfl rfl fl_X9_56 dX9_ahead_31 rfl ?_
        refine mw_iload_n (n := 35) (q := 3) dX9_ahead_34 rfl rfl rfl ?_
        refine mw_iald (n := 36) (a := 98) (N := 5) (mkm hg (by decide) (by rfl)) dX9_ahead_35 rfl ?_
        refine mw_aload_n (n := 37) (q := 0) dX9_ahead_36 rfl rfl rfl ?_
        refine mw_getr (n := 40) (a := 82) (k := 21) cl9 (mkm hg (by decide) (by rfl)) (by decide) rfl rfl fl_X9_56 dX9_ahead_37 rfl ?_
        refine mw_iload_n (n := 41) (q := 1) dX9_ahead_40 rfl rfl rfl ?_
        refine mw_iald (n := 42) (a := 98) (N := 5) (mkm hg (by decide) (by rfl)) dX9_ahead_41 rfl ?_
        refine mw_cutJ (pc' := 55) (lv' := [(0, .ref (mad g 82)), (1, .int v1), (2, .int v2), (3, .int v3)]) (st' := [.int (if ¬ (mgi h 98 (v3).toNatClampNeg) = (mgi h 98 (v1).toNatClampNeg) then (0 : Int32) else (if v1 ≤ v3 then (0 : Int32) else (1 : Int32))), .int v2]) (fun J => ?_) ?_
        · refine mw_icmp_ne_m (n := 45) (t := 54) dX9_ahead_42 rfl (by decide) (fun c3 => ?_) (fun c3 => ?_)
          · refine mw_iconst (n := 55) (v := 0) dX9_ahead_54 rfl (by decide) ?_
            exact mw_topeq (if_pos c3).symm J
          · refine mw_iload_n (n := 46) (q := 3) dX9_ahead_45 rfl rfl rfl ?_
            refine mw_iload_n (n := 47) (q := 1) dX9_ahead_46 rfl rfl rfl ?_
            refine mw_icmp_ge_m (n := 50) (t := 54) dX9_ahead_47 rfl (by decide) (fun c4 => ?_) (fun c4 => ?_)
            · refine mw_iconst (n := 55) (v := 0) dX9_ahead_54 rfl (by decide) ?_
              exact mw_topeq ((if_neg c3).trans (if_pos c4)).symm J
            · refine mw_iconst (n := 51) (v := 1) dX9_ahead_50 rfl (by decide) ?_
              refine mw_goto (n := 55) dX9_ahead_51 (by decide) ?_
              exact mw_topeq ((if_neg c3).trans (if_neg c4)).symm J
        refine mw_iadd (n := 56) dX9_ahead_55 rfl ?_
        refine mw_letI (fun u5 => ?_)
        refine mw_istore_n (n := 57) dX9_ahead_56 rfl rfl (by decide) rfl ?_
        refine mw_iinc (n := 60) (q := 3) (v := (v3 + (1 : Int32))) dX9_ahead_57 rfl rfl rfl (by decide) rfl ?_
        refine mw_goto (n := 4) dX9_ahead_60 (by decide) ?_
        refine mw_sub [2, 3, 1, 0] rfl ?_
        exact hself4 u5 (v3 + (1 : Int32))
noncomputable def x_X9_ahead (N : Nat) (p0 : Int32) (h : mH) : Option (Int32) :=
  x_X9_ahead_4 N p0 h N (0 : Int32) (0 : Int32)
set_option maxRecDepth 20000 in
set_option maxHeartbeats 4000000 in
theorem t_X9_ahead {g : mG} {l : Launch} (hg : mnn g = 101) (N : Nat) (p0 : Int32) (h : mH) : mf g l 0 mX9_ahead (fun r : Int32 => (some (Value.int r), h)) [.ref (mad g 82), .int p0] h (x_X9_ahead N p0 h) := by
  refine mf_of (by decide) (Nat.le_of_ble_eq_true rfl) ?_
  show mw g l 0 mX9_ahead (fun r : Int32 => (some (Value.int r), h)) 0 [(0, .ref (mad g 82)), (1, .int p0)] [] h _
  unfold x_X9_ahead
  refine mw_iconst (n := 1) (v := 0) dX9_ahead_0 rfl (by decide) ?_
  refine mw_istore_n (n := 2) dX9_ahead_1 rfl rfl (by decide) rfl ?_
  refine mw_iconst (n := 3) (v := 0) dX9_ahead_2 rfl (by decide) ?_
  refine mw_istore_n (n := 4) dX9_ahead_3 rfl rfl (by decide) rfl ?_
  refine mw_sub [2, 3, 1, 0] rfl ?_
  exact b_X9_ahead_4 hg N p0 h N (0 : Int32) (0 : Int32)
noncomputable def x_X9_fill_112 (N : Nat) (self41 : Int32 → Int32 → mH → Option (Int32 × mH)) (v1 : Int32) (v2 : Int32) (v3 : Int32) (v4 : Int32) (f : Nat) : Int32 → mH → Option (Int32 × mH) :=
  Nat.rec (motive := fun _ => Int32 → mH → Option (Int32 × mH)) (fun _ _ => none) (fun _ self112 => fun v5 h => 
    if (mgi h 85 1) ≤ v5 then
      mck v3 4 <|
      mlet (if ¬ (mgi h 97 (v3).toNatClampNeg) = v1 then v2 else v4) fun u3 =>
      self41 u3 (v3 + (1 : Int32)) h
    else
      mck v5 5 <|
      mck v5 5 <|
      mlet (msi h 98 (v5).toNatClampNeg ((mgi h 98 (v5).toNatClampNeg) - ((v4 >>> (v5 &&& 31)) &&& (1 : Int32)))) fun h4 =>
      self112 (v5 + (1 : Int32)) h4) f
theorem x_X9_fill_112_0 (N : Nat) (self41 : Int32 → Int32 → mH → Option (Int32 × mH)) (v1 : Int32) (v2 : Int32) (v3 : Int32) (v4 : Int32) (v5 : Int32) (h : mH) : x_X9_fill_112 N self41 v1 v2 v3 v4 0 v5 h = none := rfl
theorem x_X9_fill_112_s (N : Nat) (self41 : Int32 → Int32 → mH → Option (Int32 × mH)) (v1 : Int32) (v2 : Int32) (v3 : Int32) (v4 : Int32) (f : Nat) (v5 : Int32) (h : mH) : x_X9_fill_112 N self41 v1 v2 v3 v4 (f + 1) v5 h = (
    if (mgi h 85 1) ≤ v5 then
      mck v3 4 <|
      mlet (if ¬ (mgi h 97 (v3).toNatClampNeg) = v1 then v2 else v4) fun u3 =>
      self41 u3 (v3 + (1 : Int32)) h
    else
      mck v5 5 <|
      mck v5 5 <|
      mlet (msi h 98 (v5).toNatClampNeg ((mgi h 98 (v5).toNatClampNeg) - ((v4 >>> (v5 &&& 31)) &&& (1 : Int32)))) fun h4 =>
      (x_X9_fill_112 N self41 v1 v2 v3 v4 f) (v5 + (1 : Int32)) h4) := rfl
set_option maxRecDepth 20000 in
set_option maxHeartbeats 4000000 in
theorem b_X9_fill_112 {g : mG} {l : Launch} (hg : mnn g = 101) (N : Nat) (v1 : Int32) (v2 : Int32) (v3 : Int32) (v4 : Int32) (self41 : Int32 → Int32 → mH → Option (Int32 × mH)) (hself41 : ∀ (v2 : Int32) (v3 : Int32) (h : mH), mw g l 1 mX9_fill (fun r : Int32 × mH => (some (Value.int r.1), r.2)) 41 [(0, .ref (mad g 82)), (1, .int v1), (2, .int v2), (3, .int v3)] [] h (self41 v2 v3 h)) (f : Nat) : ∀ (v5 : Int32) (h : mH), mw g l 1 mX9_fill (fun r : Int32 × mH => (some (Value.int r.1), r.2)) 112 [(0, .ref (mad g 82)), (1, .int v1), (2, .int v2), (3, .int v3), (4, .int v4), (5, .int v5)] [] h (x_X9_fill_112 N self41 v1 v2 v3 v4 f v5 h) := by
  induction f with
  | zero => intros; exact mw_none
  | succ f hself112 =>
    intro v5 h
    refine mw_eq (x_X9_fill_112_s N self41 v1 v2 v3 v4 f v5 h) ?_
    generalize x_X9_fill_112 N self41 v1 v2 v3 v4 f = self112 at hself112 ⊢
    refine mw_iload (n := 114) (q := 5) dX9_fill_112 rfl rfl ?_
    refine mw_aload_n (n := 115) (q := 0) dX9_fill_114 rfl rfl rfl ?_
    refine mw_getr (n := 118) (a := 82) (k := 4) cl9 (mkm hg (by decide) (by rfl)) (by decide) rfl rfl fl_X9_16 dX9_fill_115 rfl ?_
    refine mw_iconst (n := 119) (v := 1) dX9_fill_118 rfl (by decide) ?_
    refine mw_iaLd (n := 120) (a := 85) (j := 1) (N := 32) (mkm hg (by decide) (by rfl)) (by decide) (by decide) dX9_fill_119 rfl ?_
    refine mw_icmp_ge (n := 123) (t := 146) dX9_fill_120 rfl (by decide) Iff.rfl (fun c1 => ?_) (fun c1 => ?_)
    · refine mw_aload_n (n := 147) (q := 0) dX9_fill_146 rfl rfl rfl ?_
      refine mw_getr (n := 150) (a := 82) (k := 20) cl9 (mkm hg (by decide) (by rfl)) (by decide) rfl rfl fl_X9_53 dX9_fill_147 rfl ?_
      refine mw_iload_n (n := 151) (q := 3) dX9_fill_150 rfl rfl rfl ?_
      refine mw_iald (n := 152) (a := 97) (N := 4) (mkm hg (by decide) (by rfl)) dX9_fill_151 rfl ?_
      refine mw_iload_n (n := 153) (q := 1) dX9_fill_152 rfl rfl rfl ?_
      refine mw_cutJ (pc' := 162) (lv' := [(0, .ref (mad g 82)), (1, .int v1), (2, .int v2), (3, .int v3), (4, .int v4), (5, .int v5)]) (st' := [.int (if ¬ (mgi h 97 (v3).toNatClampNeg) = v1 then v2 else v4)]) (fun J => ?_) ?_
      · refine mw_icmp_ne_m (n := 156) (t := 161) dX9_fill_153 rfl (by decide) (fun c2 => ?_) (fun c2 => ?_)
        · refine mw_iload_n (n := 162) (q := 2) dX9_fill_161 rfl rfl rfl ?_
          exact mw_topeq (if_pos c2).symm J
        · refine mw_iload (n := 158) (q := 4) dX9_fill_156 rfl rfl ?_
          refine mw_goto (n := 162) dX9_fill_158 (by decide) ?_
          exact mw_topeq (if_neg c2).symm J
      refine mw_letI (fun u3 => ?_)
      refine mw_istore_n (n := 163) dX9_fill_162 rfl rfl (by decide) rfl ?_
      refine mw_iinc (n := 166) (q := 3) (v := (v3 + (1 : Int32))) dX9_fill_163 rfl rfl rfl (by decide) rfl ?_
      refine mw_goto (n := 41) dX9_fill_166 (by decide) ?_
      refine mw_sub [2, 3, 1, 0] rfl ?_
      exact hself41 u3 (v3 + (1 : Int32)) h
    · refine mw_aload_n (n := 124) (q := 0) dX9_fill_123 rfl rfl rfl ?_
      refine mw_getr (n := 127) (a := 82) (k := 21) cl9 (mkm hg (by decide) (by rfl)) (by decide) rfl rfl fl_X9_56 dX9_fill_124 rfl ?_
      refine mw_iload (n := 129) (q := 5) dX9_fill_127 rfl rfl ?_
      refine mw_dup2 (n := 130) dX9_fill_129 rfl rfl rfl ?_
      refine mw_iald (n := 131) (a := 98) (N := 5) (mkm hg (by decide) (by rfl)) dX9_fill_130 rfl ?_
      refine mw_iload (n := 133) (q := 4) dX9_fill_131 rfl rfl ?_
      refine mw_iload (n := 135) (q := 5) dX9_fill_133 rfl rfl ?_
      refine mw_ishr (n := 136) dX9_fill_135 rfl ?_
      refine mw_iconst (n := 137) (v := 1) dX9_fill_136 rfl (by decide) ?_
      refine mw_iand (n := 138) dX9_fill_137 rfl ?_
      refine mw_isub (n := 139) dX9_fill_138 rfl ?_
      refine mw_iast (n := 140) (a := 98) (N := 5) (mkm hg (by decide) (by rfl)) dX9_fill_139 rfl (mw_leth (fun h4 => ?_))
      refine mw_iinc (n := 143) (q := 5) (v := (v5 + (1 : Int32))) dX9_fill_140 rfl rfl rfl (by decide) rfl ?_
      refine mw_goto (n := 112) dX9_fill_143 (by decide) ?_
      refine mw_sub [1, 2, 3, 4, 5, 0] rfl ?_
      exact hself112 (v5 + (1 : Int32)) h4
noncomputable def x_X9_fill_57 (N : Nat) (self41 : Int32 → Int32 → mH → Option (Int32 × mH)) (v1 : Int32) (v2 : Int32) (v3 : Int32) (f : Nat) : Int32 → Int32 → mH → Option (Int32 × mH) :=
  Nat.rec (motive := fun _ => Int32 → Int32 → mH → Option (Int32 × mH)) (fun _ _ _ => none) (fun _ self57 => fun v4 v5 h => 
    if (mgi h 85 1) ≤ v5 then
      x_X9_fill_112 N self41 v1 v2 v3 v4 N (0 : Int32) h
    else
      (x_X9_ahead N v5 h).bind fun q2 =>
      mck v3 4 <|
      mck ((2 : Int32) + (mgi h 97 (v3).toNatClampNeg)) 32 <|
      mlet (v4 ||| (if (mgi h 85 (((2 : Int32) + (mgi h 97 (v3).toNatClampNeg))).toNatClampNeg) ≤ q2 then (0 : Int32) else ((1 : Int32) <<< (v5 &&& 31)))) fun u4 =>
      self57 u4 (v5 + (1 : Int32)) h) f
theorem x_X9_fill_57_0 (N : Nat) (self41 : Int32 → Int32 → mH → Option (Int32 × mH)) (v1 : Int32) (v2 : Int32) (v3 : Int32) (v4 : Int32) (v5 : Int32) (h : mH) : x_X9_fill_57 N self41 v1 v2 v3 0 v4 v5 h = none := rfl
theorem x_X9_fill_57_s (N : Nat) (self41 : Int32 → Int32 → mH → Option (Int32 × mH)) (v1 : Int32) (v2 : Int32) (v3 : Int32) (f : Nat) (v4 : Int32) (v5 : Int32) (h : mH) : x_X9_fill_57 N self41 v1 v2 v3 (f + 1) v4 v5 h = (
    if (mgi h 85 1) ≤ v5 then
      x_X9_fill_112 N self41 v1 v2 v3 v4 N (0 : Int32) h
    else
      (x_X9_ahead N v5 h).bind fun q2 =>
      mck v3 4 <|
      mck ((2 : Int32) + (mgi h 97 (v3).toNatClampNeg)) 32 <|
      mlet (v4 ||| (if (mgi h 85 (((2 : Int32) + (mgi h 97 (v3).toNatClampNeg))).toNatClampNeg) ≤ q2 then (0 : Int32) else ((1 : Int32) <<< (v5 &&& 31)))) fun u4 =>
      (x_X9_fill_57 N self41 v1 v2 v3 f) u4 (v5 + (1 : Int32)) h) := rfl
set_option maxRecDepth 20000 in
set_option maxHeartbeats 4000000 in
theorem b_X9_fill_57 {g : mG} {l : Launch} (hg : mnn g = 101) (N : Nat) (v1 : Int32) (v2 : Int32) (v3 : Int32) (self41 : Int32 → Int32 → mH → Option (Int32 × mH)) (hself41 : ∀ (v2 : Int32) (v3 : Int32) (h : mH), mw g l 1 mX9_fill (fun r : Int32 × mH => (some (Value.int r.1), r.2)) 41 [(0, .ref (mad g 82)), (1, .int v1), (2, .int v2), (3, .int v3)] [] h (self41 v2 v3 h)) (f : Nat) : ∀ (v4 : Int32) (v5 : Int32) (h : mH), mw g l 1 mX9_fill (fun r : Int32 × mH => (some (Value.int r.1), r.2)) 57 [(0, .ref (mad g 82)), (1, .int v1), (2, .int v2), (3, .int v3), (4, .int v4), (5, .int v5)] [] h (x_X9_fill_57 N self41 v1 v2 v3 f v4 v5 h) := by
  induction f with
  | zero => intros; exact mw_none
  | succ f hself57 =>
    intro v4 v5 h
    refine mw_eq (x_X9_fill_57_s N self41 v1 v2 v3 f v4 v5 h) ?_
    generalize x_X9_fill_57 N self41 v1 v2 v3 f = self57 at hself57 ⊢
    refine mw_iload (n := 59) (q := 5) dX9_fill_57 rfl rfl ?_
    refine mw_aload_n (n := 60) (q := 0) dX9_fill_59 rfl rfl rfl ?_
    refine mw_getr (n := 63) (a := 82) (k := 4) cl9 (mkm hg (by decide) (by rfl)) (by decide) rfl rfl fl_X9_16 dX9_fill_60 rfl ?_
    refine mw_iconst (n := 64) (v := 1) dX9_fill_63 rfl (by decide) ?_
    refine mw_iaLd (n := 65) (a := 85) (j := 1) (N := 32) (mkm hg (by decide) (by rfl)) (by decide) (by decide) dX9_fill_64 rfl ?_
    refine mw_icmp_ge (n := 68) (t := 109) dX9_fill_65 rfl (by decide) Iff.rfl (fun c1 => ?_) (fun c1 => ?_)
    · refine mw_iconst (n := 110) (v := 0) dX9_fill_109 rfl (by decide) ?_
      refine mw_istore (n := 112) dX9_fill_110 rfl (by decide) rfl ?_
      refine mw_sub [1, 2, 3, 4, 5, 0] rfl ?_
      exact b_X9_fill_112 hg N v1 v2 v3 v4 self41 hself41 N (0 : Int32) h
    · refine mw_iload (n := 70) (q := 4) dX9_fill_68 rfl rfl ?_
      refine mw_aload_n (n := 71) (q := 0) dX9_fill_70 rfl rfl rfl ?_
      refine mw_iload (n := 73) (q := 5) dX9_fill_71 rfl rfl ?_
      refine mw_callV (n := 76) (a := 82) (As := [.int v5]) cl9 (mkm hg (by decide) (by rfl)) (t_X9_ahead hg N v5 h) (by decide) ok_X9_ahead rfl rfl lk_X9_164 im_X9_ahead se_X9_ahead dX9_fill_73 rfl rfl (Nat.le_of_ble_eq_true rfl) (fun q2 _ => ?_)
      show mw g l _ _ _ 76 _ [.int q2, .int v4] h _
      refine mw_aload_n (n := 77) (q := 0) dX9_fill_76 rfl rfl rfl ?_
      refine mw_getr (n := 80) (a := 82) (k := 4) cl9 (mkm hg (by decide) (by rfl)) (by decide) rfl rfl fl_X9_16 dX9_fill_77 rfl ?_
      refine mw_iconst (n := 81) (v := 2) dX9_fill_80 rfl (by decide) ?_
      refine mw_aload_n (n := 82) (q := 0) dX9_fill_81 rfl rfl rfl ?_
      refine mw_getr (n := 85) (a := 82) (k := 20) cl9 (mkm hg (by decide) (by rfl)) (by decide) rfl rfl fl_X9_53 dX9_fill_82 rfl ?_
      refine mw_iload_n (n := 86) (q := 3) dX9_fill_85 rfl rfl rfl ?_
      refine mw_iald (n := 87) (a := 97) (N := 4) (mkm hg (by decide) (by rfl)) dX9_fill_86 rfl ?_
      refine mw_iadd (n := 88) dX9_fill_87 rfl ?_
      refine mw_iald (n := 89) (a := 85) (N := 32) (mkm hg (by decide) (by rfl)) dX9_fill_88 rfl ?_
      refine mw_cutJ (pc' := 100) (lv' := [(0, .ref (mad g 82)), (1, .int v1), (2, .int v2), (3, .int v3), (4, .int v4), (5, .int v5)]) (st' := [.int (if (mgi h 85 (((2 : Int32) + (mgi h 97 (v3).toNatClampNeg))).toNatClampNeg) ≤ q2 then (0 : Int32) else ((1 : Int32) <<< (v5 &&& 31))), .int v4]) (fun J => ?_) ?_
      · refine mw_icmp_ge_m (n := 92) (t := 99) dX9_fill_89 rfl (by decide) (fun c3 => ?_) (fun c3 => ?_)
        · refine mw_iconst (n := 100) (v := 0) dX9_fill_99 rfl (by decide) ?_
          exact mw_topeq (if_pos c3).symm J
        · refine mw_iconst (n := 93) (v := 1) dX9_fill_92 rfl (by decide) ?_
          refine mw_iload (n := 95) (q := 5) dX9_fill_93 rfl rfl ?_
          refine mw_ishl (n := 96) dX9_fill_95 rfl ?_
          refine mw_goto (n := 100) dX9_fill_96 (by decide) ?_
          exact mw_topeq (if_neg c3).symm J
      refine mw_ior (n := 101) dX9_fill_100 rfl ?_
      refine mw_letI (fun u4 => ?_)
      refine mw_istore (n := 103) dX9_fill_101 rfl (by decide) rfl ?_
      refine mw_iinc (n := 106) (q := 5) (v := (v5 + (1 : Int32))) dX9_fill_103 rfl rfl rfl (by decide) rfl ?_
      refine mw_goto (n := 57) dX9_fill_106 (by decide) ?_
      refine mw_sub [2, 3, 4, 5, 1, 0] rfl ?_
      exact hself57 u4 (v5 + (1 : Int32)) h
noncomputable def x_X9_fill_41 (N : Nat) (v1 : Int32) (f : Nat) : Int32 → Int32 → mH → Option (Int32 × mH) :=
  Nat.rec (motive := fun _ => Int32 → Int32 → mH → Option (Int32 × mH)) (fun _ _ _ => none) (fun _ self41 => fun v2 v3 h => 
    if (mgi h 85 0) ≤ v3 then
      some (v2, h)
    else
      x_X9_fill_57 N self41 v1 v2 v3 N (0 : Int32) (0 : Int32) h) f
theorem x_X9_fill_41_0 (N : Nat) (v1 : Int32) (v2 : Int32) (v3 : Int32) (h : mH) : x_X9_fill_41 N v1 0 v2 v3 h = none := rfl
theorem x_X9_fill_41_s (N : Nat) (v1 : Int32) (f : Nat) (v2 : Int32) (v3 : Int32) (h : mH) : x_X9_fill_41 N v1 (f + 1) v2 v3 h = (
    if (mgi h 85 0) ≤ v3 then
      some (v2, h)
    else
      x_X9_fill_57 N (x_X9_fill_41 N v1 f) v1 v2 v3 N (0 : Int32) (0 : Int32) h) := rfl
set_option maxRecDepth 20000 in
set_option maxHeartbeats 4000000 in
theorem b_X9_fill_41 {g : mG} {l : Launch} (hg : mnn g = 101) (N : Nat) (v1 : Int32) (f : Nat) : ∀ (v2 : Int32) (v3 : Int32) (h : mH), mw g l 1 mX9_fill (fun r : Int32 × mH => (some (Value.int r.1), r.2)) 41 [(0, .ref (mad g 82)), (1, .int v1), (2, .int v2), (3, .int v3)] [] h (x_X9_fill_41 N v1 f v2 v3 h) := by
  induction f with
  | zero => intros; exact mw_none
  | succ f hself41 =>
    intro v2 v3 h
    refine mw_eq (x_X9_fill_41_s N v1 f v2 v3 h) ?_
    generalize x_X9_fill_41 N v1 f = self41 at hself41 ⊢
    refine mw_iload_n (n := 42) (q := 3) dX9_fill_41 rfl rfl rfl ?_
    refine mw_aload_n (n := 43) (q := 0) dX9_fill_42 rfl rfl rfl ?_
    refine mw_getr (n := 46) (a := 82) (k := 4) cl9 (mkm hg (by decide) (by rfl)) (by decide) rfl rfl fl_X9_16 dX9_fill_43 rfl ?_
    refine mw_iconst (n := 47) (v := 0) dX9_fill_46 rfl (by decide) ?_
    refine mw_iaLd (n := 48) (a := 85) (j := 0) (N := 32) (mkm hg (by decide) (by rfl)) (by decide) (by decide) dX9_fill_47 rfl ?_
    refine mw_icmp_ge (n := 51) (t := 169) dX9_fill_48 rfl (by decide) Iff.rfl (fun c1 => ?_) (fun c1 => ?_)
    · refine mw_iload_n (n := 170) (q := 2) dX9_fill_169 rfl rfl rfl ?_
      exact mw_iret dX9_fill_170 rfl rfl
    · refine mw_iconst (n := 52) (v := 0) dX9_fill_51 rfl (by decide) ?_
      refine mw_istore (n := 54) dX9_fill_52 rfl (by decide) rfl ?_
      refine mw_iconst (n := 55) (v := 0) dX9_fill_54 rfl (by decide) ?_
      refine mw_istore (n := 57) dX9_fill_55 rfl (by decide) rfl ?_
      refine mw_sub [2, 3, 4, 5, 1, 0] rfl ?_
      exact b_X9_fill_57 hg N v1 v2 v3 self41 hself41 N (0 : Int32) (0 : Int32) h
noncomputable def x_X9_fill_6 (N : Nat) (v1 : Int32) (f : Nat) : Int32 → mH → Option (Int32 × mH) :=
  Nat.rec (motive := fun _ => Int32 → mH → Option (Int32 × mH)) (fun _ _ => none) (fun _ self6 => fun v2 h => 
    if (mgi h 85 1) ≤ v2 then
      x_X9_fill_41 N v1 N (0 : Int32) (0 : Int32) h
    else
      mck ((6 : Int32) + v2) 32 <|
      mck v2 5 <|
      mlet (msi h 98 (v2).toNatClampNeg (mgi h 85 (((6 : Int32) + v2)).toNatClampNeg)) fun h2 =>
      self6 (v2 + (1 : Int32)) h2) f
theorem x_X9_fill_6_0 (N : Nat) (v1 : Int32) (v2 : Int32) (h : mH) : x_X9_fill_6 N v1 0 v2 h = none := rfl
theorem x_X9_fill_6_s (N : Nat) (v1 : Int32) (f : Nat) (v2 : Int32) (h : mH) : x_X9_fill_6 N v1 (f + 1) v2 h = (
    if (mgi h 85 1) ≤ v2 then
      x_X9_fill_41 N v1 N (0 : Int32) (0 : Int32) h
    else
      mck ((6 : Int32) + v2) 32 <|
      mck v2 5 <|
      mlet (msi h 98 (v2).toNatClampNeg (mgi h 85 (((6 : Int32) + v2)).toNatClampNeg)) fun h2 =>
      (x_X9_fill_6 N v1 f) (v2 + (1 : Int32)) h2) := rfl
set_option maxRecDepth 20000 in
set_option maxHeartbeats 4000000 in
theorem b_X9_fill_6 {g : mG} {l : Launch} (hg : mnn g = 101) (N : Nat) (v1 : Int32) (f : Nat) : ∀ (v2 : Int32) (h : mH), mw g l 1 mX9_fill (fun r : Int32 × mH => (some (Value.int r.1), r.2)) 6 [(0, .ref (mad g 82)), (1, .int v1), (2, .int v2)] [] h (x_X9_fill_6 N v1 f v2 h) := by
  induction f with
  | zero => intros; exact mw_none
  | succ f hself6 =>
    intro v2 h
    refine mw_eq (x_X9_fill_6_s N v1 f v2 h) ?_
    generalize x_X9_fill_6 N v1 f = self6 at hself6 ⊢
    refine mw_iload_n (n := 7) (q := 2) dX9_fill_6 rfl rfl rfl ?_
    refine mw_aload_n (n := 8) (q := 0) dX9_fill_7 rfl rfl rfl ?_
    refine mw_getr (n := 11) (a := 82) (k := 4) cl9 (mkm hg (by decide) (by rfl)) (by decide) rfl rfl fl_X9_16 dX9_fill_8 rfl ?_
    refine mw_iconst (n := 12) (v := 1) dX9_fill_11 rfl (by decide) ?_
    refine mw_iaLd (n := 13) (a := 85) (j := 1) (N := 32) (mkm hg (by decide) (by rfl)) (by decide) (by decide) dX9_fill_12 rfl ?_
    refine mw_icmp_ge (n := 16) (t := 37) dX9_fill_13 rfl (by decide) Iff.rfl (fun c1 => ?_) (fun c1 => ?_)
    · refine mw_iconst (n := 38) (v := 0) dX9_fill_37 rfl (by decide) ?_
      refine mw_istore_n (n := 39) dX9_fill_38 rfl rfl (by decide) rfl ?_
      refine mw_iconst (n := 40) (v := 0) dX9_fill_39 rfl (by decide) ?_
      refine mw_istore_n (n := 41) dX9_fill_40 rfl rfl (by decide) rfl ?_
      refine mw_sub [2, 3, 1, 0] rfl ?_
      exact b_X9_fill_41 hg N v1 N (0 : Int32) (0 : Int32) h
    · refine mw_aload_n (n := 17) (q := 0) dX9_fill_16 rfl rfl rfl ?_
      refine mw_getr (n := 20) (a := 82) (k := 21) cl9 (mkm hg (by decide) (by rfl)) (by decide) rfl rfl fl_X9_56 dX9_fill_17 rfl ?_
      refine mw_iload_n (n := 21) (q := 2) dX9_fill_20 rfl rfl rfl ?_
      refine mw_aload_n (n := 22) (q := 0) dX9_fill_21 rfl rfl rfl ?_
      refine mw_getr (n := 25) (a := 82) (k := 4) cl9 (mkm hg (by decide) (by rfl)) (by decide) rfl rfl fl_X9_16 dX9_fill_22 rfl ?_
      refine mw_bipush (n := 27) (v := 6) dX9_fill_25 rfl (by decide) ?_
      refine mw_iload_n (n := 28) (q := 2) dX9_fill_27 rfl rfl rfl ?_
      refine mw_iadd (n := 29) dX9_fill_28 rfl ?_
      refine mw_iald (n := 30) (a := 85) (N := 32) (mkm hg (by decide) (by rfl)) dX9_fill_29 rfl ?_
      refine mw_iast (n := 31) (a := 98) (N := 5) (mkm hg (by decide) (by rfl)) dX9_fill_30 rfl (mw_leth (fun h2 => ?_))
      refine mw_iinc (n := 34) (q := 2) (v := (v2 + (1 : Int32))) dX9_fill_31 rfl rfl rfl (by decide) rfl ?_
      refine mw_goto (n := 6) dX9_fill_34 (by decide) ?_
      refine mw_sub [1, 2, 0] rfl ?_
      exact hself6 (v2 + (1 : Int32)) h2
noncomputable def x_X9_fill (N : Nat) (p0 : Int32) (h : mH) : Option (Int32 × mH) :=
  (x_X9_orderRows N h).bind fun q1 =>
  x_X9_fill_6 N p0 N (0 : Int32) q1
set_option maxRecDepth 20000 in
set_option maxHeartbeats 4000000 in
theorem t_X9_fill {g : mG} {l : Launch} (hg : mnn g = 101) (N : Nat) (p0 : Int32) (h : mH) : mf g l 1 mX9_fill (fun r : Int32 × mH => (some (Value.int r.1), r.2)) [.ref (mad g 82), .int p0] h (x_X9_fill N p0 h) := by
  refine mf_of (by decide) (Nat.le_of_ble_eq_true rfl) ?_
  show mw g l 1 mX9_fill (fun r : Int32 × mH => (some (Value.int r.1), r.2)) 0 [(0, .ref (mad g 82)), (1, .int p0)] [] h _
  unfold x_X9_fill
  refine mw_aload_n (n := 1) (q := 0) dX9_fill_0 rfl rfl rfl ?_
  refine mw_callV (n := 4) (a := 82) (As := []) cl9 (mkm hg (by decide) (by rfl)) (t_X9_orderRows hg N h) (by decide) ok_X9_orderRows rfl rfl lk_X9_161 im_X9_orderRows se_X9_orderRows dX9_fill_1 rfl rfl (Nat.le_of_ble_eq_true rfl) (fun q1 _ => ?_)
  show mw g l _ _ _ 4 _ [] q1 _
  refine mw_iconst (n := 5) (v := 0) dX9_fill_4 rfl (by decide) ?_
  refine mw_istore_n (n := 6) dX9_fill_5 rfl rfl (by decide) rfl ?_
  refine mw_sub [1, 2, 0] rfl ?_
  exact b_X9_fill_6 hg N p0 N (0 : Int32) q1
noncomputable def x_X9_filled (N : Nat) (p0 : Int32) (h : mH) : Option (Int32 × mH) :=
  mlet (msi h 82 0 (0 : Int32)) fun h1 =>
  (x_X9_noCell p0 h1).bind fun q2 =>
  if q2 = 0 then
    (x_X9_tested N 85 h1).bind fun q4 =>
    if q4 = (-9 : Int32) then
      mzd (mgi h1 85 1) <|
      (x_X9_fill N (p0 / (mgi h1 85 1)) h1).bind fun q6 =>
      mzd (mgi q6.2 85 1) <|
      some (((q6.1 >>> ((xrem p0 (mgi q6.2 85 1)) &&& 31)) &&& (1 : Int32)), q6.2)
    else
      some ((-3 : Int32), h1)
  else
    some ((-1 : Int32), h1)
set_option maxRecDepth 20000 in
set_option maxHeartbeats 4000000 in
theorem t_X9_filled {g : mG} {l : Launch} (hg : mnn g = 101) (N : Nat) (p0 : Int32) (h : mH) : mf g l 3 mX9_filled (fun r : Int32 × mH => (some (Value.int r.1), r.2)) [.ref (mad g 82), .int p0] h (x_X9_filled N p0 h) := by
  refine mf_of (by decide) (Nat.le_of_ble_eq_true rfl) ?_
  show mw g l 3 mX9_filled (fun r : Int32 × mH => (some (Value.int r.1), r.2)) 0 [(0, .ref (mad g 82)), (1, .int p0)] [] h _
  unfold x_X9_filled
  refine mw_aload_n (n := 1) (q := 0) dX9_filled_0 rfl rfl rfl ?_
  refine mw_iconst (n := 2) (v := 0) dX9_filled_1 rfl (by decide) ?_
  refine mw_puti (n := 5) (a := 82) (k := 0) cl9 ct9 (mkm hg (by decide) (by rfl)) (by decide) rfl rfl rfl rfl fl_X9_65 dX9_filled_2 rfl (mw_leth (fun h1 => ?_))
  refine mw_aload_n (n := 6) (q := 0) dX9_filled_5 rfl rfl rfl ?_
  refine mw_iload_n (n := 7) (q := 1) dX9_filled_6 rfl rfl rfl ?_
  refine mw_callV (n := 10) (a := 82) (As := [.int p0]) cl9 (mkm hg (by decide) (by rfl)) (t_X9_noCell hg p0 h1) (by decide) ok_X9_noCell rfl rfl lk_X9_146 im_X9_noCell se_X9_noCell dX9_filled_7 rfl rfl (Nat.le_of_ble_eq_true rfl) (fun q2 _ => ?_)
  show mw g l _ _ _ 10 _ [.int q2] h1 _
  refine mw_if_eq (n := 13) (t := 15) dX9_filled_10 rfl (by decide) Iff.rfl (fun c3 => ?_) (fun c3 => ?_)
  · refine mw_aload_n (n := 16) (q := 0) dX9_filled_15 rfl rfl rfl ?_
    refine mw_getr (n := 19) (a := 82) (k := 4) cl9 (mkm hg (by decide) (by rfl)) (by decide) rfl rfl fl_X9_16 dX9_filled_16 rfl ?_
    refine mw_callS (n := 22) (As := [.ref (mad g 85)]) (t_X9_tested hg N 85 (mkm hg (by decide) (by rfl)) h1) (by decide) ok_X9_tested rfl lk_X9_158 sm_X9_tested dX9_filled_19 rfl rfl (Nat.le_of_ble_eq_true rfl) (fun q4 _ => ?_)
    show mw g l _ _ _ 22 _ [.int q4] h1 _
    refine mw_bipush (n := 24) (v := -9) dX9_filled_22 rfl (by decide) ?_
    refine mw_icmp_eq (n := 27) (t := 30) dX9_filled_24 rfl (by decide) Iff.rfl (fun c5 => ?_) (fun c5 => ?_)
    · refine mw_aload_n (n := 31) (q := 0) dX9_filled_30 rfl rfl rfl ?_
      refine mw_iload_n (n := 32) (q := 1) dX9_filled_31 rfl rfl rfl ?_
      refine mw_aload_n (n := 33) (q := 0) dX9_filled_32 rfl rfl rfl ?_
      refine mw_getr (n := 36) (a := 82) (k := 4) cl9 (mkm hg (by decide) (by rfl)) (by decide) rfl rfl fl_X9_16 dX9_filled_33 rfl ?_
      refine mw_iconst (n := 37) (v := 1) dX9_filled_36 rfl (by decide) ?_
      refine mw_iaLd (n := 38) (a := 85) (j := 1) (N := 32) (mkm hg (by decide) (by rfl)) (by decide) (by decide) dX9_filled_37 rfl ?_
      refine mw_idivC (n := 39) dX9_filled_38 rfl ?_
      refine mw_callV (n := 42) (a := 82) (As := [.int (p0 / (mgi h1 85 1))]) cl9 (mkm hg (by decide) (by rfl)) (t_X9_fill hg N (p0 / (mgi h1 85 1)) h1) (by decide) ok_X9_fill rfl rfl lk_X9_167 im_X9_fill se_X9_fill dX9_filled_39 rfl rfl (Nat.le_of_ble_eq_true rfl) (fun q6 _ => ?_)
      show mw g l _ _ _ 42 _ [.int q6.1] q6.2 _
      refine mw_iload_n (n := 43) (q := 1) dX9_filled_42 rfl rfl rfl ?_
      refine mw_aload_n (n := 44) (q := 0) dX9_filled_43 rfl rfl rfl ?_
      refine mw_getr (n := 47) (a := 82) (k := 4) cl9 (mkm hg (by decide) (by rfl)) (by decide) rfl rfl fl_X9_16 dX9_filled_44 rfl ?_
      refine mw_iconst (n := 48) (v := 1) dX9_filled_47 rfl (by decide) ?_
      refine mw_iaLd (n := 49) (a := 85) (j := 1) (N := 32) (mkm hg (by decide) (by rfl)) (by decide) (by decide) dX9_filled_48 rfl ?_
      refine mw_iremC (n := 50) dX9_filled_49 rfl ?_
      refine mw_ishr (n := 51) dX9_filled_50 rfl ?_
      refine mw_iconst (n := 52) (v := 1) dX9_filled_51 rfl (by decide) ?_
      refine mw_iand (n := 53) dX9_filled_52 rfl ?_
      exact mw_iret dX9_filled_53 rfl rfl
    · refine mw_bipush (n := 29) (v := -3) dX9_filled_27 rfl (by decide) ?_
      exact mw_iret dX9_filled_29 rfl rfl
  · refine mw_iconst (n := 14) (v := -1) dX9_filled_13 rfl (by decide) ?_
    exact mw_iret dX9_filled_14 rfl rfl
noncomputable def x_X9_mended_221 (N : Nat) (v1 : Int32) (v2 : Int32) (v3 : Int32) (h : mH) : Option (Int32 × mH) :=
  some ((if ¬ v1 = 0 then v3 else v2), h)
set_option maxRecDepth 20000 in
set_option maxHeartbeats 4000000 in
theorem b_X9_mended_221 {g : mG} {l : Launch} (hg : mnn g = 101) (N : Nat) (v1 : Int32) (v2 : Int32) (v3 : Int32) (h : mH) : mw g l 3 mX9_mended (fun r : Int32 × mH => (some (Value.int r.1), r.2)) 221 [(1, .int v1), (2, .int v2), (3, .int v3)] [] h (x_X9_mended_221 N v1 v2 v3 h) := by
  unfold x_X9_mended_221
  refine mw_iload_n (n := 222) (q := 0) dX9_mended_221 rfl rfl rfl ?_
  refine mw_cutJ (pc' := 230) (lv' := [(1, .int v1), (2, .int v2), (3, .int v3)]) (st' := [.int (if ¬ v1 = 0 then v3 else v2)]) (fun J => ?_) ?_
  · refine mw_if_ne_m (n := 225) (t := 229) dX9_mended_222 rfl (by decide) (fun c1 => ?_) (fun c1 => ?_)
    · refine mw_iload_n (n := 230) (q := 2) dX9_mended_229 rfl rfl rfl ?_
      exact mw_topeq (if_pos c1).symm J
    · refine mw_iload_n (n := 226) (q := 1) dX9_mended_225 rfl rfl rfl ?_
      refine mw_goto (n := 230) dX9_mended_226 (by decide) ?_
      exact mw_topeq (if_neg c1).symm J
  exact mw_iret dX9_mended_230 rfl rfl
noncomputable def x_X9_mended_110 (N : Nat) (self45 : Int32 → Int32 → Int32 → mH → Option (Int32 × mH)) (v1 : Int32) (v4 : Int32) (v5 : Int32) (v6 : Int32) (v7 : Int32) (f : Nat) : Int32 → Int32 → Int32 → mH → Option (Int32 × mH) :=
  Nat.rec (motive := fun _ => Int32 → Int32 → Int32 → mH → Option (Int32 × mH)) (fun _ _ _ _ => none) (fun _ self110 => fun v2 v3 v8 h => 
    mck ((1 : Int32) - v6) 32 <|
    if (mgi h 85 (((1 : Int32) - v6)).toNatClampNeg) < v8 then
      self45 v2 v3 (v5 + (1 : Int32)) h
    else
      (x_X9_lay N 86 85 h).bind fun q2 =>
      (x_X9_totalAt v6 v7).bind fun q3 =>
      mck q3 32 <|
      mlet (msi q2 86 (q3).toNatClampNeg v8) fun h4 =>
      (x_X9_tested N 86 h4).bind fun q5 =>
      mlet (if ¬ q5 = (-9 : Int32) then (0 : Int32) else (1 : Int32)) fun u7 =>
      mlet (if u7 = 0 then v3 else (if ¬ v2 = 0 then v3 else ((((100 : Int32) * v6) + ((10 : Int32) * v7)) + v8))) fun u10 =>
      mlet (v2 + (if u7 = 0 then (0 : Int32) else (1 : Int32))) fun u12 =>
      self110 u12 u10 (v8 + (1 : Int32)) h4) f
theorem x_X9_mended_110_0 (N : Nat) (self45 : Int32 → Int32 → Int32 → mH → Option (Int32 × mH)) (v1 : Int32) (v4 : Int32) (v5 : Int32) (v6 : Int32) (v7 : Int32) (v2 : Int32) (v3 : Int32) (v8 : Int32) (h : mH) : x_X9_mended_110 N self45 v1 v4 v5 v6 v7 0 v2 v3 v8 h = none := rfl
theorem x_X9_mended_110_s (N : Nat) (self45 : Int32 → Int32 → Int32 → mH → Option (Int32 × mH)) (v1 : Int32) (v4 : Int32) (v5 : Int32) (v6 : Int32) (v7 : Int32) (f : Nat) (v2 : Int32) (v3 : Int32) (v8 : Int32) (h : mH) : x_X9_mended_110 N self45 v1 v4 v5 v6 v7 (f + 1) v2 v3 v8 h = (
    mck ((1 : Int32) - v6) 32 <|
    if (mgi h 85 (((1 : Int32) - v6)).toNatClampNeg) < v8 then
      self45 v2 v3 (v5 + (1 : Int32)) h
    else
      (x_X9_lay N 86 85 h).bind fun q2 =>
      (x_X9_totalAt v6 v7).bind fun q3 =>
      mck q3 32 <|
      mlet (msi q2 86 (q3).toNatClampNeg v8) fun h4 =>
      (x_X9_tested N 86 h4).bind fun q5 =>
      mlet (if ¬ q5 = (-9 : Int32) then (0 : Int32) else (1 : Int32)) fun u7 =>
      mlet (if u7 = 0 then v3 else (if ¬ v2 = 0 then v3 else ((((100 : Int32) * v6) + ((10 : Int32) * v7)) + v8))) fun u10 =>
      mlet (v2 + (if u7 = 0 then (0 : Int32) else (1 : Int32))) fun u12 =>
      (x_X9_mended_110 N self45 v1 v4 v5 v6 v7 f) u12 u10 (v8 + (1 : Int32)) h4) := rfl
set_option maxRecDepth 20000 in
set_option maxHeartbeats 4000000 in
theorem b_X9_mended_110 {g : mG} {l : Launch} (hg : mnn g = 101) (N : Nat) (v1 : Int32) (v4 : Int32) (v5 : Int32) (v6 : Int32) (v7 : Int32) (self45 : Int32 → Int32 → Int32 → mH → Option (Int32 × mH)) (hself45 : ∀ (v2 : Int32) (v3 : Int32) (v5 : Int32) (h : mH), mw g l 3 mX9_mended (fun r : Int32 × mH => (some (Value.int r.1), r.2)) 45 [(0, .ref (mad g 82)), (1, .int v1), (2, .int v2), (3, .int v3), (4, .int v4), (5, .int v5)] [] h (self45 v2 v3 v5 h)) (f : Nat) : ∀ (v2 : Int32) (v3 : Int32) (v8 : Int32) (h : mH), mw g l 3 mX9_mended (fun r : Int32 × mH => (some (Value.int r.1), r.2)) 110 [(0, .ref (mad g 82)), (1, .int v1), (2, .int v2), (3, .int v3), (4, .int v4), (5, .int v5), (6, .int v6), (7, .int v7), (8, .int v8)] [] h (x_X9_mended_110 N self45 v1 v4 v5 v6 v7 f v2 v3 v8 h) := by
  induction f with
  | zero => intros; exact mw_none
  | succ f hself110 =>
    intro v2 v3 v8 h
    refine mw_eq (x_X9_mended_110_s N self45 v1 v4 v5 v6 v7 f v2 v3 v8 h) ?_
    generalize x_X9_mended_110 N self45 v1 v4 v5 v6 v7 f = self110 at hself110 ⊢
    refine mw_iload (n := 112) (q := 8) dX9_mended_110 rfl rfl ?_
    refine mw_aload_n (n := 113) (q := 0) dX9_mended_112 rfl rfl rfl ?_
    refine mw_getr (n := 116) (a := 82) (k := 4) cl9 (mkm hg (by decide) (by rfl)) (by decide) rfl rfl fl_X9_16 dX9_mended_113 rfl ?_
    refine mw_iconst (n := 117) (v := 1) dX9_mended_116 rfl (by decide) ?_
    refine mw_iload (n := 119) (q := 6) dX9_mended_117 rfl rfl ?_
    refine mw_isub (n := 120) dX9_mended_119 rfl ?_
    refine mw_iald (n := 121) (a := 85) (N := 32) (mkm hg (by decide) (by rfl)) dX9_mended_120 rfl ?_
    refine mw_icmp_gt (n := 124) (t := 215) dX9_mended_121 rfl (by decide) Iff.rfl (fun c1 => ?_) (fun c1 => ?_)
    · refine mw_iinc (n := 218) (q := 5) (v := (v5 + (1 : Int32))) dX9_mended_215 rfl rfl rfl (by decide) rfl ?_
      refine mw_goto (n := 45) dX9_mended_218 (by decide) ?_
      refine mw_sub [1, 2, 3, 4, 5, 0] rfl ?_
      exact hself45 v2 v3 (v5 + (1 : Int32)) h
    · refine mw_aload_n (n := 125) (q := 0) dX9_mended_124 rfl rfl rfl ?_
      refine mw_getr (n := 128) (a := 82) (k := 5) cl9 (mkm hg (by decide) (by rfl)) (by decide) rfl rfl fl_X9_19 dX9_mended_125 rfl ?_
      refine mw_aload_n (n := 129) (q := 0) dX9_mended_128 rfl rfl rfl ?_
      refine mw_getr (n := 132) (a := 82) (k := 4) cl9 (mkm hg (by decide) (by rfl)) (by decide) rfl rfl fl_X9_16 dX9_mended_129 rfl ?_
      refine mw_callS (n := 135) (As := [.ref (mad g 86), .ref (mad g 85)]) (t_X9_lay hg N 86 85 (mkm hg (by decide) (by rfl)) (mkm hg (by decide) (by rfl)) h) (by decide) ok_X9_lay rfl lk_X9_129 sm_X9_lay dX9_mended_132 rfl rfl (Nat.le_of_ble_eq_true rfl) (fun q2 _ => ?_)
      show mw g l _ _ _ 135 _ [] q2 _
      refine mw_aload_n (n := 136) (q := 0) dX9_mended_135 rfl rfl rfl ?_
      refine mw_getr (n := 139) (a := 82) (k := 5) cl9 (mkm hg (by decide) (by rfl)) (by decide) rfl rfl fl_X9_19 dX9_mended_136 rfl ?_
      refine mw_iload (n := 141) (q := 6) dX9_mended_139 rfl rfl ?_
      refine mw_iload (n := 143) (q := 7) dX9_mended_141 rfl rfl ?_
      refine mw_callS (n := 146) (As := [.int v6, .int v7]) (t_X9_totalAt hg v6 v7 q2) (by decide) ok_X9_totalAt rfl lk_X9_143 sm_X9_totalAt dX9_mended_143 rfl rfl (Nat.le_of_ble_eq_true rfl) (fun q3 _ => ?_)
      show mw g l _ _ _ 146 _ [.int q3, .ref (mad g 86)] q2 _
      refine mw_iload (n := 148) (q := 8) dX9_mended_146 rfl rfl ?_
      refine mw_iast (n := 149) (a := 86) (N := 32) (mkm hg (by decide) (by rfl)) dX9_mended_148 rfl (mw_leth (fun h4 => ?_))
      refine mw_aload_n (n := 150) (q := 0) dX9_mended_149 rfl rfl rfl ?_
      refine mw_getr (n := 153) (a := 82) (k := 5) cl9 (mkm hg (by decide) (by rfl)) (by decide) rfl rfl fl_X9_19 dX9_mended_150 rfl ?_
      refine mw_callS (n := 156) (As := [.ref (mad g 86)]) (t_X9_tested hg N 86 (mkm hg (by decide) (by rfl)) h4) (by decide) ok_X9_tested rfl lk_X9_158 sm_X9_tested dX9_mended_153 rfl rfl (Nat.le_of_ble_eq_true rfl) (fun q5 _ => ?_)
      show mw g l _ _ _ 156 _ [.int q5] h4 _
      refine mw_bipush (n := 158) (v := -9) dX9_mended_156 rfl (by decide) ?_
      refine mw_cutJ (pc' := 166) (lv' := [(0, .ref (mad g 82)), (1, .int v1), (2, .int v2), (3, .int v3), (4, .int v4), (5, .int v5), (6, .int v6), (7, .int v7), (8, .int v8)]) (st' := [.int (if ¬ q5 = (-9 : Int32) then (0 : Int32) else (1 : Int32))]) (fun J => ?_) ?_
      · refine mw_icmp_ne_m (n := 161) (t := 165) dX9_mended_158 rfl (by decide) (fun c6 => ?_) (fun c6 => ?_)
        · refine mw_iconst (n := 166) (v := 0) dX9_mended_165 rfl (by decide) ?_
          exact mw_topeq (if_pos c6).symm J
        · refine mw_iconst (n := 162) (v := 1) dX9_mended_161 rfl (by decide) ?_
          refine mw_goto (n := 166) dX9_mended_162 (by decide) ?_
          exact mw_topeq (if_neg c6).symm J
      refine mw_letI (fun u7 => ?_)
      refine mw_istore (n := 168) dX9_mended_166 rfl (by decide) rfl ?_
      refine mw_iload (n := 170) (q := 0) dX9_mended_168 rfl rfl ?_
      refine mw_cutJ (pc' := 195) (lv' := [(9, .int u7), (0, .ref (mad g 82)), (1, .int v1), (2, .int v2), (3, .int v3), (4, .int v4), (5, .int v5), (6, .int v6), (7, .int v7), (8, .int v8)]) (st' := [.int (if u7 = 0 then v3 else (if ¬ v2 = 0 then v3 else ((((100 : Int32) * v6) + ((10 : Int32) * v7)) + v8)))]) (fun J => ?_) ?_
      · refine mw_if_eq_m (n := 173) (t := 194) dX9_mended_170 rfl (by decide) (fun c8 => ?_) (fun c8 => ?_)
        · refine mw_iload_n (n := 195) (q := 4) dX9_mended_194 rfl rfl rfl ?_
          exact mw_topeq (if_pos c8).symm J
        · refine mw_iload_n (n := 174) (q := 3) dX9_mended_173 rfl rfl rfl ?_
          refine mw_if_ne_m (n := 177) (t := 194) dX9_mended_174 rfl (by decide) (fun c9 => ?_) (fun c9 => ?_)
          · refine mw_iload_n (n := 195) (q := 4) dX9_mended_194 rfl rfl rfl ?_
            exact mw_topeq ((if_neg c8).trans (if_pos c9)).symm J
          · refine mw_bipush (n := 179) (v := 100) dX9_mended_177 rfl (by decide) ?_
            refine mw_iload (n := 181) (q := 7) dX9_mended_179 rfl rfl ?_
            refine mw_imul (n := 182) dX9_mended_181 rfl ?_
            refine mw_bipush (n := 184) (v := 10) dX9_mended_182 rfl (by decide) ?_
            refine mw_iload (n := 186) (q := 8) dX9_mended_184 rfl rfl ?_
            refine mw_imul (n := 187) dX9_mended_186 rfl ?_
            refine mw_iadd (n := 188) dX9_mended_187 rfl ?_
            refine mw_iload (n := 190) (q := 9) dX9_mended_188 rfl rfl ?_
            refine mw_iadd (n := 191) dX9_mended_190 rfl ?_
            refine mw_goto (n := 195) dX9_mended_191 (by decide) ?_
            exact mw_topeq ((if_neg c8).trans (if_neg c9)).symm J
      refine mw_letI (fun u10 => ?_)
      refine mw_istore_n (n := 196) dX9_mended_195 rfl rfl (by decide) rfl ?_
      refine mw_iload_n (n := 197) (q := 4) dX9_mended_196 rfl rfl rfl ?_
      refine mw_iload (n := 199) (q := 1) dX9_mended_197 rfl rfl ?_
      refine mw_cutJ (pc' := 207) (lv' := [(3, .int u10), (9, .int u7), (0, .ref (mad g 82)), (1, .int v1), (2, .int v2), (4, .int v4), (5, .int v5), (6, .int v6), (7, .int v7), (8, .int v8)]) (st' := [.int (if u7 = 0 then (0 : Int32) else (1 : Int32)), .int v2]) (fun J => ?_) ?_
      · refine mw_if_eq_m (n := 202) (t := 206) dX9_mended_199 rfl (by decide) (fun c11 => ?_) (fun c11 => ?_)
        · refine mw_iconst (n := 207) (v := 0) dX9_mended_206 rfl (by decide) ?_
          exact mw_topeq (if_pos c11).symm J
        · refine mw_iconst (n := 203) (v := 1) dX9_mended_202 rfl (by decide) ?_
          refine mw_goto (n := 207) dX9_mended_203 (by decide) ?_
          exact mw_topeq (if_neg c11).symm J
      refine mw_iadd (n := 208) dX9_mended_207 rfl ?_
      refine mw_letI (fun u12 => ?_)
      refine mw_istore_n (n := 209) dX9_mended_208 rfl rfl (by decide) rfl ?_
      refine mw_iinc (n := 212) (q := 9) (v := (v8 + (1 : Int32))) dX9_mended_209 rfl rfl rfl (by decide) rfl ?_
      refine mw_goto (n := 110) dX9_mended_212 (by decide) ?_
      refine mw_sub [4, 5, 1, 2, 6, 7, 8, 9, 0] rfl ?_
      exact hself110 u12 u10 (v8 + (1 : Int32)) h4
noncomputable def x_X9_mended_45 (N : Nat) (v1 : Int32) (v4 : Int32) (f : Nat) : Int32 → Int32 → Int32 → mH → Option (Int32 × mH) :=
  Nat.rec (motive := fun _ => Int32 → Int32 → Int32 → mH → Option (Int32 × mH)) (fun _ _ _ _ => none) (fun _ self45 => fun v2 v3 v5 h => 
    if ((mgi h 85 0) + (mgi h 85 1)) ≤ v5 then
      x_X9_mended_221 N v1 v2 v3 h
    else
      if v4 = 0 then
        x_X9_mended_221 N v1 v2 v3 h
      else
        mlet (if (mgi h 85 0) ≤ v5 then (1 : Int32) else (0 : Int32)) fun u4 =>
        mlet (if ¬ u4 = 0 then (v5 - (mgi h 85 0)) else v5) fun u6 =>
        x_X9_mended_110 N self45 v1 v4 v5 u4 u6 N v2 v3 (0 : Int32) h) f
theorem x_X9_mended_45_0 (N : Nat) (v1 : Int32) (v4 : Int32) (v2 : Int32) (v3 : Int32) (v5 : Int32) (h : mH) : x_X9_mended_45 N v1 v4 0 v2 v3 v5 h = none := rfl
theorem x_X9_mended_45_s (N : Nat) (v1 : Int32) (v4 : Int32) (f : Nat) (v2 : Int32) (v3 : Int32) (v5 : Int32) (h : mH) : x_X9_mended_45 N v1 v4 (f + 1) v2 v3 v5 h = (
    if ((mgi h 85 0) + (mgi h 85 1)) ≤ v5 then
      x_X9_mended_221 N v1 v2 v3 h
    else
      if v4 = 0 then
        x_X9_mended_221 N v1 v2 v3 h
      else
        mlet (if (mgi h 85 0) ≤ v5 then (1 : Int32) else (0 : Int32)) fun u4 =>
        mlet (if ¬ u4 = 0 then (v5 - (mgi h 85 0)) else v5) fun u6 =>
        x_X9_mended_110 N (x_X9_mended_45 N v1 v4 f) v1 v4 v5 u4 u6 N v2 v3 (0 : Int32) h) := rfl
set_option maxRecDepth 20000 in
set_option maxHeartbeats 4000000 in
theorem b_X9_mended_45 {g : mG} {l : Launch} (hg : mnn g = 101) (N : Nat) (v1 : Int32) (v4 : Int32) (f : Nat) : ∀ (v2 : Int32) (v3 : Int32) (v5 : Int32) (h : mH), mw g l 3 mX9_mended (fun r : Int32 × mH => (some (Value.int r.1), r.2)) 45 [(0, .ref (mad g 82)), (1, .int v1), (2, .int v2), (3, .int v3), (4, .int v4), (5, .int v5)] [] h (x_X9_mended_45 N v1 v4 f v2 v3 v5 h) := by
  induction f with
  | zero => intros; exact mw_none
  | succ f hself45 =>
    intro v2 v3 v5 h
    refine mw_eq (x_X9_mended_45_s N v1 v4 f v2 v3 v5 h) ?_
    generalize x_X9_mended_45 N v1 v4 f = self45 at hself45 ⊢
    refine mw_iload (n := 47) (q := 5) dX9_mended_45 rfl rfl ?_
    refine mw_aload_n (n := 48) (q := 0) dX9_mended_47 rfl rfl rfl ?_
    refine mw_getr (n := 51) (a := 82) (k := 4) cl9 (mkm hg (by decide) (by rfl)) (by decide) rfl rfl fl_X9_16 dX9_mended_48 rfl ?_
    refine mw_iconst (n := 52) (v := 0) dX9_mended_51 rfl (by decide) ?_
    refine mw_iaLd (n := 53) (a := 85) (j := 0) (N := 32) (mkm hg (by decide) (by rfl)) (by decide) (by decide) dX9_mended_52 rfl ?_
    refine mw_aload_n (n := 54) (q := 0) dX9_mended_53 rfl rfl rfl ?_
    refine mw_getr (n := 57) (a := 82) (k := 4) cl9 (mkm hg (by decide) (by rfl)) (by decide) rfl rfl fl_X9_16 dX9_mended_54 rfl ?_
    refine mw_iconst (n := 58) (v := 1) dX9_mended_57 rfl (by decide) ?_
    refine mw_iaLd (n := 59) (a := 85) (j := 1) (N := 32) (mkm hg (by decide) (by rfl)) (by decide) (by decide) dX9_mended_58 rfl ?_
    refine mw_iadd (n := 60) dX9_mended_59 rfl ?_
    refine mw_icmp_ge (n := 63) (t := 221) dX9_mended_60 rfl (by decide) Iff.rfl (fun c1 => ?_) (fun c1 => ?_)
    · refine mw_sub [1, 2, 3] rfl ?_
      exact b_X9_mended_221 hg N v1 v2 v3 h
    · refine mw_iload (n := 65) (q := 4) dX9_mended_63 rfl rfl ?_
      refine mw_if_eq (n := 68) (t := 221) dX9_mended_65 rfl (by decide) Iff.rfl (fun c2 => ?_) (fun c2 => ?_)
      · refine mw_sub [1, 2, 3] rfl ?_
        exact b_X9_mended_221 hg N v1 v2 v3 h
      · refine mw_iload (n := 70) (q := 5) dX9_mended_68 rfl rfl ?_
        refine mw_aload_n (n := 71) (q := 0) dX9_mended_70 rfl rfl rfl ?_
        refine mw_getr (n := 74) (a := 82) (k := 4) cl9 (mkm hg (by decide) (by rfl)) (by decide) rfl rfl fl_X9_16 dX9_mended_71 rfl ?_
        refine mw_iconst (n := 75) (v := 0) dX9_mended_74 rfl (by decide) ?_
        refine mw_iaLd (n := 76) (a := 85) (j := 0) (N := 32) (mkm hg (by decide) (by rfl)) (by decide) (by decide) dX9_mended_75 rfl ?_
        refine mw_cutJ (pc' := 84) (lv' := [(0, .ref (mad g 82)), (1, .int v1), (2, .int v2), (3, .int v3), (4, .int v4), (5, .int v5)]) (st' := [.int (if (mgi h 85 0) ≤ v5 then (1 : Int32) else (0 : Int32))]) (fun J => ?_) ?_
        · refine mw_icmp_ge_m (n := 79) (t := 83) dX9_mended_76 rfl (by decide) (fun c3 => ?_) (fun c3 => ?_)
          · refine mw_iconst (n := 84) (v := 1) dX9_mended_83 rfl (by decide) ?_
            exact mw_topeq (if_pos c3).symm J
          · refine mw_iconst (n := 80) (v := 0) dX9_mended_79 rfl (by decide) ?_
            refine mw_goto (n := 84) dX9_mended_80 (by decide) ?_
            exact mw_topeq (if_neg c3).symm J
        refine mw_letI (fun u4 => ?_)
        refine mw_istore (n := 86) dX9_mended_84 rfl (by decide) rfl ?_
        refine mw_iload (n := 88) (q := 0) dX9_mended_86 rfl rfl ?_
        refine mw_cutJ (pc' := 105) (lv' := [(6, .int u4), (0, .ref (mad g 82)), (1, .int v1), (2, .int v2), (3, .int v3), (4, .int v4), (5, .int v5)]) (st' := [.int (if ¬ u4 = 0 then (v5 - (mgi h 85 0)) else v5)]) (fun J => ?_) ?_
        · refine mw_if_ne_m (n := 91) (t := 96) dX9_mended_88 rfl (by decide) (fun c5 => ?_) (fun c5 => ?_)
          · refine mw_iload (n := 98) (q := 6) dX9_mended_96 rfl rfl ?_
            refine mw_aload_n (n := 99) (q := 1) dX9_mended_98 rfl rfl rfl ?_
            refine mw_getr (n := 102) (a := 82) (k := 4) cl9 (mkm hg (by decide) (by rfl)) (by decide) rfl rfl fl_X9_16 dX9_mended_99 rfl ?_
            refine mw_iconst (n := 103) (v := 0) dX9_mended_102 rfl (by decide) ?_
            refine mw_iaLd (n := 104) (a := 85) (j := 0) (N := 32) (mkm hg (by decide) (by rfl)) (by decide) (by decide) dX9_mended_103 rfl ?_
            refine mw_isub (n := 105) dX9_mended_104 rfl ?_
            exact mw_topeq (if_pos c5).symm J
          · refine mw_iload (n := 93) (q := 6) dX9_mended_91 rfl rfl ?_
            refine mw_goto (n := 105) dX9_mended_93 (by decide) ?_
            exact mw_topeq (if_neg c5).symm J
        refine mw_letI (fun u6 => ?_)
        refine mw_istore (n := 107) dX9_mended_105 rfl (by decide) rfl ?_
        refine mw_iconst (n := 108) (v := 0) dX9_mended_107 rfl (by decide) ?_
        refine mw_istore (n := 110) dX9_mended_108 rfl (by decide) rfl ?_
        refine mw_sub [3, 4, 5, 6, 7, 8, 2, 1, 0] rfl ?_
        exact b_X9_mended_110 hg N v1 v4 v5 u4 u6 self45 hself45 N v2 v3 (0 : Int32) h
noncomputable def x_X9_mended (N : Nat) (p0 : Int32) (h : mH) : Option (Int32 × mH) :=
  mlet (msi h 82 0 (0 : Int32)) fun h1 =>
  (x_X9_in ((p0).toInt64) (0 : Int64) (1 : Int64)).bind fun q2 =>
  if ¬ q2 = 0 then
    (x_X9_tested N 85 h1).bind fun q4 =>
    mlet (if q4 = (-9 : Int32) then (0 : Int32) else (1 : Int32)) fun u6 =>
    x_X9_mended_45 N p0 u6 N (0 : Int32) (-9 : Int32) (0 : Int32) h1
  else
    some ((-2 : Int32), h1)
set_option maxRecDepth 20000 in
set_option maxHeartbeats 4000000 in
theorem t_X9_mended {g : mG} {l : Launch} (hg : mnn g = 101) (N : Nat) (p0 : Int32) (h : mH) : mf g l 3 mX9_mended (fun r : Int32 × mH => (some (Value.int r.1), r.2)) [.ref (mad g 82), .int p0] h (x_X9_mended N p0 h) := by
  refine mf_of (by decide) (Nat.le_of_ble_eq_true rfl) ?_
  show mw g l 3 mX9_mended (fun r : Int32 × mH => (some (Value.int r.1), r.2)) 0 [(0, .ref (mad g 82)), (1, .int p0)] [] h _
  unfold x_X9_mended
  refine mw_aload_n (n := 1) (q := 0) dX9_mended_0 rfl rfl rfl ?_
  refine mw_iconst (n := 2) (v := 0) dX9_mended_1 rfl (by decide) ?_
  refine mw_puti (n := 5) (a := 82) (k := 0) cl9 ct9 (mkm hg (by decide) (by rfl)) (by decide) rfl rfl rfl rfl fl_X9_65 dX9_mended_2 rfl (mw_leth (fun h1 => ?_))
  refine mw_iload_n (n := 6) (q := 1) dX9_mended_5 rfl rfl rfl ?_
  refine mw_i2l (n := 7) dX9_mended_6 rfl ?_
  refine mw_lconst (n := 8) (v := 0) dX9_mended_7 rfl (by decide) ?_
  refine mw_lconst (n := 9) (v := 1) dX9_mended_8 rfl (by decide) ?_
  refine mw_callS (n := 12) (As := [.long (p0).toInt64, .long (0 : Int64), .long (1 : Int64)]) (t_X9_in hg ((p0).toInt64) (0 : Int64) (1 : Int64) h1) (by decide) ok_X9_in rfl lk_X9_77 sm_X9_in dX9_mended_9 rfl rfl (Nat.le_of_ble_eq_true rfl) (fun q2 _ => ?_)
  show mw g l _ _ _ 12 _ [.int q2] h1 _
  refine mw_if_ne (n := 15) (t := 18) dX9_mended_12 rfl (by decide) Iff.rfl (fun c3 => ?_) (fun c3 => ?_)
  · refine mw_iconst (n := 19) (v := 0) dX9_mended_18 rfl (by decide) ?_
    refine mw_istore_n (n := 20) dX9_mended_19 rfl rfl (by decide) rfl ?_
    refine mw_bipush (n := 22) (v := -9) dX9_mended_20 rfl (by decide) ?_
    refine mw_istore_n (n := 23) dX9_mended_22 rfl rfl (by decide) rfl ?_
    refine mw_aload_n (n := 24) (q := 2) dX9_mended_23 rfl rfl rfl ?_
    refine mw_getr (n := 27) (a := 82) (k := 4) cl9 (mkm hg (by decide) (by rfl)) (by decide) rfl rfl fl_X9_16 dX9_mended_24 rfl ?_
    refine mw_callS (n := 30) (As := [.ref (mad g 85)]) (t_X9_tested hg N 85 (mkm hg (by decide) (by rfl)) h1) (by decide) ok_X9_tested rfl lk_X9_158 sm_X9_tested dX9_mended_27 rfl rfl (Nat.le_of_ble_eq_true rfl) (fun q4 _ => ?_)
    show mw g l _ _ _ 30 _ [.int q4] h1 _
    refine mw_bipush (n := 32) (v := -9) dX9_mended_30 rfl (by decide) ?_
    refine mw_cutJ (pc' := 40) (lv' := [(3, .int (-9 : Int32)), (2, .int (0 : Int32)), (0, .ref (mad g 82)), (1, .int p0)]) (st' := [.int (if q4 = (-9 : Int32) then (0 : Int32) else (1 : Int32))]) (fun J => ?_) ?_
    · refine mw_icmp_eq_m (n := 35) (t := 39) dX9_mended_32 rfl (by decide) (fun c5 => ?_) (fun c5 => ?_)
      · refine mw_iconst (n := 40) (v := 0) dX9_mended_39 rfl (by decide) ?_
        exact mw_topeq (if_pos c5).symm J
      · refine mw_iconst (n := 36) (v := 1) dX9_mended_35 rfl (by decide) ?_
        refine mw_goto (n := 40) dX9_mended_36 (by decide) ?_
        exact mw_topeq (if_neg c5).symm J
    refine mw_letI (fun u6 => ?_)
    refine mw_istore (n := 42) dX9_mended_40 rfl (by decide) rfl ?_
    refine mw_iconst (n := 43) (v := 0) dX9_mended_42 rfl (by decide) ?_
    refine mw_istore (n := 45) dX9_mended_43 rfl (by decide) rfl ?_
    refine mw_sub [4, 5, 3, 2, 1, 0] rfl ?_
    exact b_X9_mended_45 hg N p0 u6 N (0 : Int32) (-9 : Int32) (0 : Int32) h1
  · refine mw_bipush (n := 17) (v := -2) dX9_mended_15 rfl (by decide) ?_
    exact mw_iret dX9_mended_17 rfl rfl
noncomputable def x_X9_answers (N : Nat) (h : mH) : Option (Int32 × mH) :=
  mlet (msi h 82 0 (0 : Int32)) fun h1 =>
  (x_X9_list N 85 (1 : Int32) h1).bind fun q2 =>
  some ((mgi q2 82 17), q2)
set_option maxRecDepth 20000 in
set_option maxHeartbeats 4000000 in
theorem t_X9_answers {g : mG} {l : Launch} (hg : mnn g = 101) (N : Nat) (h : mH) : mf g l 3 mX9_answers (fun r : Int32 × mH => (some (Value.int r.1), r.2)) [.ref (mad g 82)] h (x_X9_answers N h) := by
  refine mf_of (by decide) (Nat.le_of_ble_eq_true rfl) ?_
  show mw g l 3 mX9_answers (fun r : Int32 × mH => (some (Value.int r.1), r.2)) 0 [(0, .ref (mad g 82))] [] h _
  unfold x_X9_answers
  refine mw_aload_n (n := 1) (q := 0) dX9_answers_0 rfl rfl rfl ?_
  refine mw_iconst (n := 2) (v := 0) dX9_answers_1 rfl (by decide) ?_
  refine mw_puti (n := 5) (a := 82) (k := 0) cl9 ct9 (mkm hg (by decide) (by rfl)) (by decide) rfl rfl rfl rfl fl_X9_65 dX9_answers_2 rfl (mw_leth (fun h1 => ?_))
  refine mw_aload_n (n := 6) (q := 0) dX9_answers_5 rfl rfl rfl ?_
  refine mw_aload_n (n := 7) (q := 0) dX9_answers_6 rfl rfl rfl ?_
  refine mw_getr (n := 10) (a := 82) (k := 4) cl9 (mkm hg (by decide) (by rfl)) (by decide) rfl rfl fl_X9_16 dX9_answers_7 rfl ?_
  refine mw_iconst (n := 11) (v := 1) dX9_answers_10 rfl (by decide) ?_
  refine mw_callV (n := 14) (a := 82) (As := [.ref (mad g 85), .int (1 : Int32)]) cl9 (mkm hg (by decide) (by rfl)) (t_X9_list hg N 85 (1 : Int32) (mkm hg (by decide) (by rfl)) h1) (by decide) ok_X9_list rfl rfl lk_X9_122 im_X9_list se_X9_list dX9_answers_11 rfl rfl (Nat.le_of_ble_eq_true rfl) (fun q2 _ => ?_)
  show mw g l _ _ _ 14 _ [] q2 _
  refine mw_aload_n (n := 15) (q := 0) dX9_answers_14 rfl rfl rfl ?_
  refine mw_geti (n := 18) (a := 82) (k := 17) cl9 (mkm hg (by decide) (by rfl)) (by decide) rfl rfl fl_X9_112 dX9_answers_15 rfl ?_
  exact mw_iret dX9_answers_18 rfl rfl
noncomputable def x_X9_yesIn_5 (N : Nat) (r1 : Nat) (v2 : Int32) (h : mH) (f : Nat) : Int32 → Int32 → Option (Int32) :=
  Nat.rec (motive := fun _ => Int32 → Int32 → Option (Int32)) (fun _ _ => none) (fun _ self5 => fun v3 v4 => 
    if (mgi h 82 17) ≤ v4 then
      some v3
    else
      mck v4 1000 <|
      (x_X9_isYes r1 (mgi h 94 (v4).toNatClampNeg) v2 h).bind fun q2 =>
      mlet (v3 + (if q2 = 0 then (0 : Int32) else (1 : Int32))) fun u4 =>
      self5 u4 (v4 + (1 : Int32))) f
theorem x_X9_yesIn_5_0 (N : Nat) (r1 : Nat) (v2 : Int32) (h : mH) (v3 : Int32) (v4 : Int32) : x_X9_yesIn_5 N r1 v2 h 0 v3 v4 = none := rfl
theorem x_X9_yesIn_5_s (N : Nat) (r1 : Nat) (v2 : Int32) (h : mH) (f : Nat) (v3 : Int32) (v4 : Int32) : x_X9_yesIn_5 N r1 v2 h (f + 1) v3 v4 = (
    if (mgi h 82 17) ≤ v4 then
      some v3
    else
      mck v4 1000 <|
      (x_X9_isYes r1 (mgi h 94 (v4).toNatClampNeg) v2 h).bind fun q2 =>
      mlet (v3 + (if q2 = 0 then (0 : Int32) else (1 : Int32))) fun u4 =>
      (x_X9_yesIn_5 N r1 v2 h f) u4 (v4 + (1 : Int32))) := rfl
set_option maxRecDepth 20000 in
set_option maxHeartbeats 4000000 in
theorem b_X9_yesIn_5 {g : mG} {l : Launch} (hg : mnn g = 101) (N : Nat) (r1 : Nat) (v2 : Int32) (h : mH) (hr1 : mkn g r1 132) (f : Nat) : ∀ (v3 : Int32) (v4 : Int32), mw g l 2 mX9_yesIn (fun r : Int32 => (some (Value.int r), h)) 5 [(0, .ref (mad g 82)), (1, .ref (mad g r1)), (2, .int v2), (3, .int v3), (4, .int v4)] [] h (x_X9_yesIn_5 N r1 v2 h f v3 v4) := by
  induction f with
  | zero => intros; exact mw_none
  | succ f hself5 =>
    intro v3 v4
    refine mw_eq (x_X9_yesIn_5_s N r1 v2 h f v3 v4) ?_
    generalize x_X9_yesIn_5 N r1 v2 h f = self5 at hself5 ⊢
    refine mw_iload (n := 7) (q := 4) dX9_yesIn_5 rfl rfl ?_
    refine mw_aload_n (n := 8) (q := 0) dX9_yesIn_7 rfl rfl rfl ?_
    refine mw_geti (n := 11) (a := 82) (k := 17) cl9 (mkm hg (by decide) (by rfl)) (by decide) rfl rfl fl_X9_112 dX9_yesIn_8 rfl ?_
    refine mw_icmp_ge (n := 14) (t := 43) dX9_yesIn_11 rfl (by decide) Iff.rfl (fun c1 => ?_) (fun c1 => ?_)
    · refine mw_iload_n (n := 44) (q := 3) dX9_yesIn_43 rfl rfl rfl ?_
      exact mw_iret dX9_yesIn_44 rfl rfl
    · refine mw_iload_n (n := 15) (q := 3) dX9_yesIn_14 rfl rfl rfl ?_
      refine mw_aload_n (n := 16) (q := 1) dX9_yesIn_15 rfl rfl rfl ?_
      refine mw_aload_n (n := 17) (q := 0) dX9_yesIn_16 rfl rfl rfl ?_
      refine mw_getr (n := 20) (a := 82) (k := 16) cl9 (mkm hg (by decide) (by rfl)) (by decide) rfl rfl fl_X9_44 dX9_yesIn_17 rfl ?_
      refine mw_iload (n := 22) (q := 4) dX9_yesIn_20 rfl rfl ?_
      refine mw_iald (n := 23) (a := 94) (N := 1000) (mkm hg (by decide) (by rfl)) dX9_yesIn_22 rfl ?_
      refine mw_iload_n (n := 24) (q := 2) dX9_yesIn_23 rfl rfl rfl ?_
      refine mw_callS (n := 27) (As := [.ref (mad g r1), .int (mgi h 94 (v4).toNatClampNeg), .int v2]) (t_X9_isYes hg r1 (mgi h 94 (v4).toNatClampNeg) v2 hr1 h) (by decide) ok_X9_isYes rfl lk_X9_170 sm_X9_isYes dX9_yesIn_24 rfl rfl (Nat.le_of_ble_eq_true rfl) (fun q2 _ => ?_)
      show mw g l _ _ _ 27 _ [.int q2, .int v3] h _
      refine mw_cutJ (pc' := 35) (lv' := [(0, .ref (mad g 82)), (1, .ref (mad g r1)), (2, .int v2), (3, .int v3), (4, .int v4)]) (st' := [.int (if q2 = 0 then (0 : Int32) else (1 : Int32)), .int v3]) (fun J => ?_) ?_
      · refine mw_if_eq_m (n := 30) (t := 34) dX9_yesIn_27 rfl (by decide) (fun c3 => ?_) (fun c3 => ?_)
        · refine mw_iconst (n := 35) (v := 0) dX9_yesIn_34 rfl (by decide) ?_
          exact mw_topeq (if_pos c3).symm J
        · refine mw_iconst (n := 31) (v := 1) dX9_yesIn_30 rfl (by decide) ?_
          refine mw_goto (n := 35) dX9_yesIn_31 (by decide) ?_
          exact mw_topeq (if_neg c3).symm J
      refine mw_iadd (n := 36) dX9_yesIn_35 rfl ?_
      refine mw_letI (fun u4 => ?_)
      refine mw_istore_n (n := 37) dX9_yesIn_36 rfl rfl (by decide) rfl ?_
      refine mw_iinc (n := 40) (q := 4) (v := (v4 + (1 : Int32))) dX9_yesIn_37 rfl rfl rfl (by decide) rfl ?_
      refine mw_goto (n := 5) dX9_yesIn_40 (by decide) ?_
      refine mw_sub [2, 3, 4, 1, 0] rfl ?_
      exact hself5 u4 (v4 + (1 : Int32))
noncomputable def x_X9_yesIn (N : Nat) (p0 : Nat) (p1 : Int32) (h : mH) : Option (Int32) :=
  x_X9_yesIn_5 N p0 p1 h N (0 : Int32) (0 : Int32)
set_option maxRecDepth 20000 in
set_option maxHeartbeats 4000000 in
theorem t_X9_yesIn {g : mG} {l : Launch} (hg : mnn g = 101) (N : Nat) (p0 : Nat) (p1 : Int32) (hp0 : mkn g p0 132) (h : mH) : mf g l 2 mX9_yesIn (fun r : Int32 => (some (Value.int r), h)) [.ref (mad g 82), .ref (mad g p0), .int p1] h (x_X9_yesIn N p0 p1 h) := by
  refine mf_of (by decide) (Nat.le_of_ble_eq_true rfl) ?_
  show mw g l 2 mX9_yesIn (fun r : Int32 => (some (Value.int r), h)) 0 [(0, .ref (mad g 82)), (1, .ref (mad g p0)), (2, .int p1)] [] h _
  unfold x_X9_yesIn
  refine mw_iconst (n := 1) (v := 0) dX9_yesIn_0 rfl (by decide) ?_
  refine mw_istore_n (n := 2) dX9_yesIn_1 rfl rfl (by decide) rfl ?_
  refine mw_iconst (n := 3) (v := 0) dX9_yesIn_2 rfl (by decide) ?_
  refine mw_istore (n := 5) dX9_yesIn_3 rfl (by decide) rfl ?_
  refine mw_sub [2, 3, 4, 1, 0] rfl ?_
  exact b_X9_yesIn_5 hg N p0 p1 h hp0 N (0 : Int32) (0 : Int32)
noncomputable def x_X9_sure (N : Nat) (p0 : Nat) (p1 : Int32) (h : mH) : Option (Int32) :=
  (x_X9_yesIn N p0 p1 h).bind fun q1 =>
  some (if ¬ (mgi h 82 17) = 0 then (if ¬ q1 = 0 then (if ¬ q1 = (mgi h 82 17) then (2 : Int32) else (1 : Int32)) else (0 : Int32)) else (-9 : Int32))
set_option maxRecDepth 20000 in
set_option maxHeartbeats 4000000 in
theorem t_X9_sure {g : mG} {l : Launch} (hg : mnn g = 101) (N : Nat) (p0 : Nat) (p1 : Int32) (hp0 : mkn g p0 132) (h : mH) : mf g l 3 mX9_sure (fun r : Int32 => (some (Value.int r), h)) [.ref (mad g 82), .ref (mad g p0), .int p1] h (x_X9_sure N p0 p1 h) := by
  refine mf_of (by decide) (Nat.le_of_ble_eq_true rfl) ?_
  show mw g l 3 mX9_sure (fun r : Int32 => (some (Value.int r), h)) 0 [(0, .ref (mad g 82)), (1, .ref (mad g p0)), (2, .int p1)] [] h _
  unfold x_X9_sure
  refine mw_aload_n (n := 1) (q := 0) dX9_sure_0 rfl rfl rfl ?_
  refine mw_aload_n (n := 2) (q := 1) dX9_sure_1 rfl rfl rfl ?_
  refine mw_iload_n (n := 3) (q := 2) dX9_sure_2 rfl rfl rfl ?_
  refine mw_callV (n := 6) (a := 82) (As := [.ref (mad g p0), .int p1]) cl9 (mkm hg (by decide) (by rfl)) (t_X9_yesIn hg N p0 p1 hp0 h) (by decide) ok_X9_yesIn rfl rfl lk_X9_174 im_X9_yesIn se_X9_yesIn dX9_sure_3 rfl rfl (Nat.le_of_ble_eq_true rfl) (fun q1 _ => ?_)
  show mw g l _ _ _ 6 _ [.int q1] h _
  refine mw_istore_n (n := 7) dX9_sure_6 rfl rfl (by decide) rfl ?_
  refine mw_aload_n (n := 8) (q := 1) dX9_sure_7 rfl rfl rfl ?_
  refine mw_geti (n := 11) (a := 82) (k := 17) cl9 (mkm hg (by decide) (by rfl)) (by decide) rfl rfl fl_X9_112 dX9_sure_8 rfl ?_
  refine mw_cutJ (pc' := 40) (lv' := [(3, .int q1), (0, .ref (mad g 82)), (1, .ref (mad g p0)), (2, .int p1)]) (st' := [.int (if ¬ (mgi h 82 17) = 0 then (if ¬ q1 = 0 then (if ¬ q1 = (mgi h 82 17) then (2 : Int32) else (1 : Int32)) else (0 : Int32)) else (-9 : Int32))]) (fun J => ?_) ?_
  · refine mw_if_ne_m (n := 14) (t := 19) dX9_sure_11 rfl (by decide) (fun c2 => ?_) (fun c2 => ?_)
    · refine mw_iload_n (n := 20) (q := 0) dX9_sure_19 rfl rfl rfl ?_
      refine mw_if_ne_m (n := 23) (t := 27) dX9_sure_20 rfl (by decide) (fun c3 => ?_) (fun c3 => ?_)
      · refine mw_iload_n (n := 28) (q := 0) dX9_sure_27 rfl rfl rfl ?_
        refine mw_aload_n (n := 29) (q := 1) dX9_sure_28 rfl rfl rfl ?_
        refine mw_geti (n := 32) (a := 82) (k := 17) cl9 (mkm hg (by decide) (by rfl)) (by decide) rfl rfl fl_X9_112 dX9_sure_29 rfl ?_
        refine mw_icmp_ne_m (n := 35) (t := 39) dX9_sure_32 rfl (by decide) (fun c4 => ?_) (fun c4 => ?_)
        · refine mw_iconst (n := 40) (v := 2) dX9_sure_39 rfl (by decide) ?_
          exact mw_topeq (((if_pos c2).trans (if_pos c3)).trans (if_pos c4)).symm J
        · refine mw_iconst (n := 36) (v := 1) dX9_sure_35 rfl (by decide) ?_
          refine mw_goto (n := 40) dX9_sure_36 (by decide) ?_
          exact mw_topeq (((if_pos c2).trans (if_pos c3)).trans (if_neg c4)).symm J
      · refine mw_iconst (n := 24) (v := 0) dX9_sure_23 rfl (by decide) ?_
        refine mw_goto (n := 40) dX9_sure_24 (by decide) ?_
        exact mw_topeq ((if_pos c2).trans (if_neg c3)).symm J
    · refine mw_bipush (n := 16) (v := -9) dX9_sure_14 rfl (by decide) ?_
      refine mw_goto (n := 40) dX9_sure_16 (by decide) ?_
      exact mw_topeq (if_neg c2).symm J
  exact mw_iret dX9_sure_40 rfl rfl
noncomputable def x_X9_cell (N : Nat) (p0 : Int32) (p1 : Int32) (h : mH) : Option (Int32 × mH) :=
  mlet (msi h 82 0 (0 : Int32)) fun h1 =>
  (x_X9_noCell p0 h1).bind fun q2 =>
  if q2 = 0 then
    (x_X9_in ((p1).toInt64) (0 : Int64) (2 : Int64)).bind fun q4 =>
    if ¬ q4 = 0 then
      if ¬ p1 = 0 then
        (x_X9_list N 85 (1 : Int32) h1).bind fun q7 =>
        if ¬ p1 = (1 : Int32) then
          (x_X9_yesIn N 85 p0 q7).bind fun q9 =>
          some (q9, q7)
        else
          (x_X9_sure N 85 p0 q7).bind fun q10 =>
          some (q10, q7)
      else
        if ¬ (mgi h1 85 31) = (-9 : Int32) then
          (x_X9_isYes 85 (mgi h1 85 31) p0 h1).bind fun q12 =>
          some ((if q12 = 0 then (0 : Int32) else (1 : Int32)), h1)
        else
          some ((-9 : Int32), h1)
    else
      some ((-2 : Int32), h1)
  else
    some ((-1 : Int32), h1)
set_option maxRecDepth 20000 in
set_option maxHeartbeats 4000000 in
theorem t_X9_cell {g : mG} {l : Launch} (hg : mnn g = 101) (N : Nat) (p0 : Int32) (p1 : Int32) (h : mH) : mf g l 4 mX9_cell (fun r : Int32 × mH => (some (Value.int r.1), r.2)) [.ref (mad g 82), .int p0, .int p1] h (x_X9_cell N p0 p1 h) := by
  refine mf_of (by decide) (Nat.le_of_ble_eq_true rfl) ?_
  show mw g l 4 mX9_cell (fun r : Int32 × mH => (some (Value.int r.1), r.2)) 0 [(0, .ref (mad g 82)), (1, .int p0), (2, .int p1)] [] h _
  unfold x_X9_cell
  refine mw_aload_n (n := 1) (q := 0) dX9_cell_0 rfl rfl rfl ?_
  refine mw_iconst (n := 2) (v := 0) dX9_cell_1 rfl (by decide) ?_
  refine mw_puti (n := 5) (a := 82) (k := 0) cl9 ct9 (mkm hg (by decide) (by rfl)) (by decide) rfl rfl rfl rfl fl_X9_65 dX9_cell_2 rfl (mw_leth (fun h1 => ?_))
  refine mw_aload_n (n := 6) (q := 0) dX9_cell_5 rfl rfl rfl ?_
  refine mw_iload_n (n := 7) (q := 1) dX9_cell_6 rfl rfl rfl ?_
  refine mw_callV (n := 10) (a := 82) (As := [.int p0]) cl9 (mkm hg (by decide) (by rfl)) (t_X9_noCell hg p0 h1) (by decide) ok_X9_noCell rfl rfl lk_X9_146 im_X9_noCell se_X9_noCell dX9_cell_7 rfl rfl (Nat.le_of_ble_eq_true rfl) (fun q2 _ => ?_)
  show mw g l _ _ _ 10 _ [.int q2] h1 _
  refine mw_if_eq (n := 13) (t := 15) dX9_cell_10 rfl (by decide) Iff.rfl (fun c3 => ?_) (fun c3 => ?_)
  · refine mw_iload_n (n := 16) (q := 2) dX9_cell_15 rfl rfl rfl ?_
    refine mw_i2l (n := 17) dX9_cell_16 rfl ?_
    refine mw_lconst (n := 18) (v := 0) dX9_cell_17 rfl (by decide) ?_
    refine mw_ldc2 (n := 21) dX9_cell_18 rfl kl_X9_177 ?_
    refine mw_callS (n := 24) (As := [.long (p1).toInt64, .long (0 : Int64), .long (2 : Int64)]) (t_X9_in hg ((p1).toInt64) (0 : Int64) (2 : Int64) h1) (by decide) ok_X9_in rfl lk_X9_77 sm_X9_in dX9_cell_21 rfl rfl (Nat.le_of_ble_eq_true rfl) (fun q4 _ => ?_)
    show mw g l _ _ _ 24 _ [.int q4] h1 _
    refine mw_if_ne (n := 27) (t := 30) dX9_cell_24 rfl (by decide) Iff.rfl (fun c5 => ?_) (fun c5 => ?_)
    · refine mw_iload_n (n := 31) (q := 2) dX9_cell_30 rfl rfl rfl ?_
      refine mw_if_ne (n := 34) (t := 75) dX9_cell_31 rfl (by decide) Iff.rfl (fun c6 => ?_) (fun c6 => ?_)
      · refine mw_aload_n (n := 76) (q := 0) dX9_cell_75 rfl rfl rfl ?_
        refine mw_aload_n (n := 77) (q := 0) dX9_cell_76 rfl rfl rfl ?_
        refine mw_getr (n := 80) (a := 82) (k := 4) cl9 (mkm hg (by decide) (by rfl)) (by decide) rfl rfl fl_X9_16 dX9_cell_77 rfl ?_
        refine mw_iconst (n := 81) (v := 1) dX9_cell_80 rfl (by decide) ?_
        refine mw_callV (n := 84) (a := 82) (As := [.ref (mad g 85), .int (1 : Int32)]) cl9 (mkm hg (by decide) (by rfl)) (t_X9_list hg N 85 (1 : Int32) (mkm hg (by decide) (by rfl)) h1) (by decide) ok_X9_list rfl rfl lk_X9_122 im_X9_list se_X9_list dX9_cell_81 rfl rfl (Nat.le_of_ble_eq_true rfl) (fun q7 _ => ?_)
        show mw g l _ _ _ 84 _ [] q7 _
        refine mw_iload_n (n := 85) (q := 2) dX9_cell_84 rfl rfl rfl ?_
        refine mw_iconst (n := 86) (v := 1) dX9_cell_85 rfl (by decide) ?_
        refine mw_icmp_ne (n := 89) (t := 101) dX9_cell_86 rfl (by decide) Iff.rfl (fun c8 => ?_) (fun c8 => ?_)
        · refine mw_aload_n (n := 102) (q := 0) dX9_cell_101 rfl rfl rfl ?_
          refine mw_aload_n (n := 103) (q := 0) dX9_cell_102 rfl rfl rfl ?_
          refine mw_getr (n := 106) (a := 82) (k := 4) cl9 (mkm hg (by decide) (by rfl)) (by decide) rfl rfl fl_X9_16 dX9_cell_103 rfl ?_
          refine mw_iload_n (n := 107) (q := 1) dX9_cell_106 rfl rfl rfl ?_
          refine mw_callV (n := 110) (a := 82) (As := [.ref (mad g 85), .int p0]) cl9 (mkm hg (by decide) (by rfl)) (t_X9_yesIn hg N 85 p0 (mkm hg (by decide) (by rfl)) q7) (by decide) ok_X9_yesIn rfl rfl lk_X9_174 im_X9_yesIn se_X9_yesIn dX9_cell_107 rfl rfl (Nat.le_of_ble_eq_true rfl) (fun q9 _ => ?_)
          show mw g l _ _ _ 110 _ [.int q9] q7 _
          exact mw_iret dX9_cell_110 rfl rfl
        · refine mw_aload_n (n := 90) (q := 0) dX9_cell_89 rfl rfl rfl ?_
          refine mw_aload_n (n := 91) (q := 0) dX9_cell_90 rfl rfl rfl ?_
          refine mw_getr (n := 94) (a := 82) (k := 4) cl9 (mkm hg (by decide) (by rfl)) (by decide) rfl rfl fl_X9_16 dX9_cell_91 rfl ?_
          refine mw_iload_n (n := 95) (q := 1) dX9_cell_94 rfl rfl rfl ?_
          refine mw_callV (n := 98) (a := 82) (As := [.ref (mad g 85), .int p0]) cl9 (mkm hg (by decide) (by rfl)) (t_X9_sure hg N 85 p0 (mkm hg (by decide) (by rfl)) q7) (by decide) ok_X9_sure rfl rfl lk_X9_179 im_X9_sure se_X9_sure dX9_cell_95 rfl rfl (Nat.le_of_ble_eq_true rfl) (fun q10 _ => ?_)
          show mw g l _ _ _ 98 _ [.int q10] q7 _
          refine mw_goto (n := 110) dX9_cell_98 (by decide) ?_
          exact mw_iret dX9_cell_110 rfl rfl
      · refine mw_aload_n (n := 35) (q := 0) dX9_cell_34 rfl rfl rfl ?_
        refine mw_getr (n := 38) (a := 82) (k := 4) cl9 (mkm hg (by decide) (by rfl)) (by decide) rfl rfl fl_X9_16 dX9_cell_35 rfl ?_
        refine mw_bipush (n := 40) (v := 31) dX9_cell_38 rfl (by decide) ?_
        refine mw_iaLd (n := 41) (a := 85) (j := 31) (N := 32) (mkm hg (by decide) (by rfl)) (by decide) (by decide) dX9_cell_40 rfl ?_
        refine mw_bipush (n := 43) (v := -9) dX9_cell_41 rfl (by decide) ?_
        refine mw_icmp_ne (n := 46) (t := 51) dX9_cell_43 rfl (by decide) Iff.rfl (fun c11 => ?_) (fun c11 => ?_)
        · refine mw_aload_n (n := 52) (q := 0) dX9_cell_51 rfl rfl rfl ?_
          refine mw_getr (n := 55) (a := 82) (k := 4) cl9 (mkm hg (by decide) (by rfl)) (by decide) rfl rfl fl_X9_16 dX9_cell_52 rfl ?_
          refine mw_aload_n (n := 56) (q := 0) dX9_cell_55 rfl rfl rfl ?_
          refine mw_getr (n := 59) (a := 82) (k := 4) cl9 (mkm hg (by decide) (by rfl)) (by decide) rfl rfl fl_X9_16 dX9_cell_56 rfl ?_
          refine mw_bipush (n := 61) (v := 31) dX9_cell_59 rfl (by decide) ?_
          refine mw_iaLd (n := 62) (a := 85) (j := 31) (N := 32) (mkm hg (by decide) (by rfl)) (by decide) (by decide) dX9_cell_61 rfl ?_
          refine mw_iload_n (n := 63) (q := 1) dX9_cell_62 rfl rfl rfl ?_
          refine mw_callS (n := 66) (As := [.ref (mad g 85), .int (mgi h1 85 31), .int p0]) (t_X9_isYes hg 85 (mgi h1 85 31) p0 (mkm hg (by decide) (by rfl)) h1) (by decide) ok_X9_isYes rfl lk_X9_170 sm_X9_isYes dX9_cell_63 rfl rfl (Nat.le_of_ble_eq_true rfl) (fun q12 _ => ?_)
          show mw g l _ _ _ 66 _ [.int q12] h1 _
          refine mw_cutJ (pc' := 74) (lv' := [(0, .ref (mad g 82)), (1, .int p0), (2, .int p1)]) (st' := [.int (if q12 = 0 then (0 : Int32) else (1 : Int32))]) (fun J => ?_) ?_
          · refine mw_if_eq_m (n := 69) (t := 73) dX9_cell_66 rfl (by decide) (fun c13 => ?_) (fun c13 => ?_)
            · refine mw_iconst (n := 74) (v := 0) dX9_cell_73 rfl (by decide) ?_
              exact mw_topeq (if_pos c13).symm J
            · refine mw_iconst (n := 70) (v := 1) dX9_cell_69 rfl (by decide) ?_
              refine mw_goto (n := 74) dX9_cell_70 (by decide) ?_
              exact mw_topeq (if_neg c13).symm J
          exact mw_iret dX9_cell_74 rfl rfl
        · refine mw_bipush (n := 48) (v := -9) dX9_cell_46 rfl (by decide) ?_
          refine mw_goto (n := 74) dX9_cell_48 (by decide) ?_
          exact mw_iret dX9_cell_74 rfl rfl
    · refine mw_bipush (n := 29) (v := -2) dX9_cell_27 rfl (by decide) ?_
      exact mw_iret dX9_cell_29 rfl rfl
  · refine mw_iconst (n := 14) (v := -1) dX9_cell_13 rfl (by decide) ?_
    exact mw_iret dX9_cell_14 rfl rfl
noncomputable def x_X9_divisor_4 (N : Nat) (f : Nat) : Int32 → Int32 → Option (Int32) :=
  Nat.rec (motive := fun _ => Int32 → Int32 → Option (Int32)) (fun _ _ => none) (fun _ self4 => fun v2 v3 => 
    if v3 = 0 then
      some v2
    else
      mzd v3 <|
      mlet (xrem v2 v3) fun u2 =>
      self4 v3 u2) f
theorem x_X9_divisor_4_0 (N : Nat) (v2 : Int32) (v3 : Int32) : x_X9_divisor_4 N 0 v2 v3 = none := rfl
theorem x_X9_divisor_4_s (N : Nat) (f : Nat) (v2 : Int32) (v3 : Int32) : x_X9_divisor_4 N (f + 1) v2 v3 = (
    if v3 = 0 then
      some v2
    else
      mzd v3 <|
      mlet (xrem v2 v3) fun u2 =>
      (x_X9_divisor_4 N f) v3 u2) := rfl
set_option maxRecDepth 20000 in
set_option maxHeartbeats 4000000 in
theorem b_X9_divisor_4 {g : mG} {l : Launch} (hg : mnn g = 101) (N : Nat) (h : mH) (f : Nat) : ∀ (v2 : Int32) (v3 : Int32), mw g l 0 mX9_divisor (fun r : Int32 => (some (Value.int r), h)) 4 [(2, .int v2), (3, .int v3)] [] h (x_X9_divisor_4 N f v2 v3) := by
  induction f with
  | zero => intros; exact mw_none
  | succ f hself4 =>
    intro v2 v3
    refine mw_eq (x_X9_divisor_4_s N f v2 v3) ?_
    generalize x_X9_divisor_4 N f = self4 at hself4 ⊢
    refine mw_iload_n (n := 5) (q := 1) dX9_divisor_4 rfl rfl rfl ?_
    refine mw_if_eq (n := 8) (t := 21) dX9_divisor_5 rfl (by decide) Iff.rfl (fun c1 => ?_) (fun c1 => ?_)
    · refine mw_iload_n (n := 22) (q := 0) dX9_divisor_21 rfl rfl rfl ?_
      exact mw_iret dX9_divisor_22 rfl rfl
    · refine mw_iload_n (n := 9) (q := 0) dX9_divisor_8 rfl rfl rfl ?_
      refine mw_iload_n (n := 10) (q := 1) dX9_divisor_9 rfl rfl rfl ?_
      refine mw_iremC (n := 11) dX9_divisor_10 rfl ?_
      refine mw_letI (fun u2 => ?_)
      refine mw_istore (n := 13) dX9_divisor_11 rfl (by decide) rfl ?_
      refine mw_iload_n (n := 14) (q := 2) dX9_divisor_13 rfl rfl rfl ?_
      refine mw_istore_n (n := 15) dX9_divisor_14 rfl rfl (by decide) rfl ?_
      refine mw_iload (n := 17) (q := 1) dX9_divisor_15 rfl rfl ?_
      refine mw_istore_n (n := 18) dX9_divisor_17 rfl rfl (by decide) rfl ?_
      refine mw_goto (n := 4) dX9_divisor_18 (by decide) ?_
      refine mw_sub [1, 0] rfl ?_
      exact hself4 v3 u2
noncomputable def x_X9_divisor (N : Nat) (p0 : Int32) (p1 : Int32) : Option (Int32) :=
  x_X9_divisor_4 N N p0 p1
set_option maxRecDepth 20000 in
set_option maxHeartbeats 4000000 in
theorem t_X9_divisor {g : mG} {l : Launch} (hg : mnn g = 101) (N : Nat) (p0 : Int32) (p1 : Int32) (h : mH) : mf g l 0 mX9_divisor (fun r : Int32 => (some (Value.int r), h)) [.int p0, .int p1] h (x_X9_divisor N p0 p1) := by
  refine mf_of (by decide) (Nat.le_of_ble_eq_true rfl) ?_
  show mw g l 0 mX9_divisor (fun r : Int32 => (some (Value.int r), h)) 0 [(0, .int p0), (1, .int p1)] [] h _
  unfold x_X9_divisor
  refine mw_iload_n (n := 1) (q := 0) dX9_divisor_0 rfl rfl rfl ?_
  refine mw_istore_n (n := 2) dX9_divisor_1 rfl rfl (by decide) rfl ?_
  refine mw_iload_n (n := 3) (q := 2) dX9_divisor_2 rfl rfl rfl ?_
  refine mw_istore_n (n := 4) dX9_divisor_3 rfl rfl (by decide) rfl ?_
  refine mw_sub [1, 0] rfl ?_
  exact b_X9_divisor_4 hg N h N p0 p1
noncomputable def x_X9_fraction (N : Nat) (p0 : Int32) (p1 : Int32) (p2 : Int32) : Option (Int32) :=
  (x_X9_divisor N p0 p1).bind fun q1 =>
  if p2 = 0 then
    mzd q1 <|
    some (p1 / q1)
  else
    mzd q1 <|
    some (p0 / q1)
set_option maxRecDepth 20000 in
set_option maxHeartbeats 4000000 in
theorem t_X9_fraction {g : mG} {l : Launch} (hg : mnn g = 101) (N : Nat) (p0 : Int32) (p1 : Int32) (p2 : Int32) (h : mH) : mf g l 1 mX9_fraction (fun r : Int32 => (some (Value.int r), h)) [.int p0, .int p1, .int p2] h (x_X9_fraction N p0 p1 p2) := by
  refine mf_of (by decide) (Nat.le_of_ble_eq_true rfl) ?_
  show mw g l 1 mX9_fraction (fun r : Int32 => (some (Value.int r), h)) 0 [(0, .int p0), (1, .int p1), (2, .int p2)] [] h _
  unfold x_X9_fraction
  refine mw_iload_n (n := 1) (q := 0) dX9_fraction_0 rfl rfl rfl ?_
  refine mw_iload_n (n := 2) (q := 1) dX9_fraction_1 rfl rfl rfl ?_
  refine mw_callS (n := 5) (As := [.int p0, .int p1]) (t_X9_divisor hg N p0 p1 h) (by decide) ok_X9_divisor rfl lk_X9_182 sm_X9_divisor dX9_fraction_2 rfl rfl (Nat.le_of_ble_eq_true rfl) (fun q1 _ => ?_)
  show mw g l _ _ _ 5 _ [.int q1] h _
  refine mw_istore_n (n := 6) dX9_fraction_5 rfl rfl (by decide) rfl ?_
  refine mw_iload_n (n := 7) (q := 3) dX9_fraction_6 rfl rfl rfl ?_
  refine mw_if_eq (n := 10) (t := 16) dX9_fraction_7 rfl (by decide) Iff.rfl (fun c2 => ?_) (fun c2 => ?_)
  · refine mw_iload_n (n := 17) (q := 2) dX9_fraction_16 rfl rfl rfl ?_
    refine mw_iload_n (n := 18) (q := 0) dX9_fraction_17 rfl rfl rfl ?_
    refine mw_idivC (n := 19) dX9_fraction_18 rfl ?_
    exact mw_iret dX9_fraction_19 rfl rfl
  · refine mw_iload_n (n := 11) (q := 1) dX9_fraction_10 rfl rfl rfl ?_
    refine mw_iload_n (n := 12) (q := 0) dX9_fraction_11 rfl rfl rfl ?_
    refine mw_idivC (n := 13) dX9_fraction_12 rfl ?_
    refine mw_goto (n := 19) dX9_fraction_13 (by decide) ?_
    exact mw_iret dX9_fraction_19 rfl rfl
noncomputable def x_X9_odds (N : Nat) (p0 : Int32) (p1 : Int32) (h : mH) : Option (Int32 × mH) :=
  mlet (msi h 82 0 (0 : Int32)) fun h1 =>
  (x_X9_noCell p0 h1).bind fun q2 =>
  if q2 = 0 then
    (x_X9_list N 85 (1 : Int32) h1).bind fun q4 =>
    if ¬ (mgi q4 82 17) = 0 then
      (x_X9_yesIn N 85 p0 q4).bind fun q6 =>
      (x_X9_fraction N q6 (mgi q4 82 17) p1).bind fun q7 =>
      some (q7, q4)
    else
      some ((-3 : Int32), q4)
  else
    some ((-1 : Int32), h1)
set_option maxRecDepth 20000 in
set_option maxHeartbeats 4000000 in
theorem t_X9_odds {g : mG} {l : Launch} (hg : mnn g = 101) (N : Nat) (p0 : Int32) (p1 : Int32) (h : mH) : mf g l 3 mX9_odds (fun r : Int32 × mH => (some (Value.int r.1), r.2)) [.ref (mad g 82), .int p0, .int p1] h (x_X9_odds N p0 p1 h) := by
  refine mf_of (by decide) (Nat.le_of_ble_eq_true rfl) ?_
  show mw g l 3 mX9_odds (fun r : Int32 × mH => (some (Value.int r.1), r.2)) 0 [(0, .ref (mad g 82)), (1, .int p0), (2, .int p1)] [] h _
  unfold x_X9_odds
  refine mw_aload_n (n := 1) (q := 0) dX9_odds_0 rfl rfl rfl ?_
  refine mw_iconst (n := 2) (v := 0) dX9_odds_1 rfl (by decide) ?_
  refine mw_puti (n := 5) (a := 82) (k := 0) cl9 ct9 (mkm hg (by decide) (by rfl)) (by decide) rfl rfl rfl rfl fl_X9_65 dX9_odds_2 rfl (mw_leth (fun h1 => ?_))
  refine mw_aload_n (n := 6) (q := 0) dX9_odds_5 rfl rfl rfl ?_
  refine mw_iload_n (n := 7) (q := 1) dX9_odds_6 rfl rfl rfl ?_
  refine mw_callV (n := 10) (a := 82) (As := [.int p0]) cl9 (mkm hg (by decide) (by rfl)) (t_X9_noCell hg p0 h1) (by decide) ok_X9_noCell rfl rfl lk_X9_146 im_X9_noCell se_X9_noCell dX9_odds_7 rfl rfl (Nat.le_of_ble_eq_true rfl) (fun q2 _ => ?_)
  show mw g l _ _ _ 10 _ [.int q2] h1 _
  refine mw_if_eq (n := 13) (t := 15) dX9_odds_10 rfl (by decide) Iff.rfl (fun c3 => ?_) (fun c3 => ?_)
  · refine mw_aload_n (n := 16) (q := 0) dX9_odds_15 rfl rfl rfl ?_
    refine mw_aload_n (n := 17) (q := 0) dX9_odds_16 rfl rfl rfl ?_
    refine mw_getr (n := 20) (a := 82) (k := 4) cl9 (mkm hg (by decide) (by rfl)) (by decide) rfl rfl fl_X9_16 dX9_odds_17 rfl ?_
    refine mw_iconst (n := 21) (v := 1) dX9_odds_20 rfl (by decide) ?_
    refine mw_callV (n := 24) (a := 82) (As := [.ref (mad g 85), .int (1 : Int32)]) cl9 (mkm hg (by decide) (by rfl)) (t_X9_list hg N 85 (1 : Int32) (mkm hg (by decide) (by rfl)) h1) (by decide) ok_X9_list rfl rfl lk_X9_122 im_X9_list se_X9_list dX9_odds_21 rfl rfl (Nat.le_of_ble_eq_true rfl) (fun q4 _ => ?_)
    show mw g l _ _ _ 24 _ [] q4 _
    refine mw_aload_n (n := 25) (q := 0) dX9_odds_24 rfl rfl rfl ?_
    refine mw_geti (n := 28) (a := 82) (k := 17) cl9 (mkm hg (by decide) (by rfl)) (by decide) rfl rfl fl_X9_112 dX9_odds_25 rfl ?_
    refine mw_if_ne (n := 31) (t := 36) dX9_odds_28 rfl (by decide) Iff.rfl (fun c5 => ?_) (fun c5 => ?_)
    · refine mw_aload_n (n := 37) (q := 0) dX9_odds_36 rfl rfl rfl ?_
      refine mw_aload_n (n := 38) (q := 0) dX9_odds_37 rfl rfl rfl ?_
      refine mw_getr (n := 41) (a := 82) (k := 4) cl9 (mkm hg (by decide) (by rfl)) (by decide) rfl rfl fl_X9_16 dX9_odds_38 rfl ?_
      refine mw_iload_n (n := 42) (q := 1) dX9_odds_41 rfl rfl rfl ?_
      refine mw_callV (n := 45) (a := 82) (As := [.ref (mad g 85), .int p0]) cl9 (mkm hg (by decide) (by rfl)) (t_X9_yesIn hg N 85 p0 (mkm hg (by decide) (by rfl)) q4) (by decide) ok_X9_yesIn rfl rfl lk_X9_174 im_X9_yesIn se_X9_yesIn dX9_odds_42 rfl rfl (Nat.le_of_ble_eq_true rfl) (fun q6 _ => ?_)
      show mw g l _ _ _ 45 _ [.int q6] q4 _
      refine mw_aload_n (n := 46) (q := 0) dX9_odds_45 rfl rfl rfl ?_
      refine mw_geti (n := 49) (a := 82) (k := 17) cl9 (mkm hg (by decide) (by rfl)) (by decide) rfl rfl fl_X9_112 dX9_odds_46 rfl ?_
      refine mw_iload_n (n := 50) (q := 2) dX9_odds_49 rfl rfl rfl ?_
      refine mw_callS (n := 53) (As := [.int q6, .int (mgi q4 82 17), .int p1]) (t_X9_fraction hg N q6 (mgi q4 82 17) p1 q4) (by decide) ok_X9_fraction rfl lk_X9_185 sm_X9_fraction dX9_odds_50 rfl rfl (Nat.le_of_ble_eq_true rfl) (fun q7 _ => ?_)
      show mw g l _ _ _ 53 _ [.int q7] q4 _
      exact mw_iret dX9_odds_53 rfl rfl
    · refine mw_bipush (n := 33) (v := -3) dX9_odds_31 rfl (by decide) ?_
      refine mw_goto (n := 53) dX9_odds_33 (by decide) ?_
      exact mw_iret dX9_odds_53 rfl rfl
  · refine mw_iconst (n := 14) (v := -1) dX9_odds_13 rfl (by decide) ?_
    exact mw_iret dX9_odds_14 rfl rfl
noncomputable def x_X9_ask_118 (N : Nat) (self36 : Int32 → Int32 → Int32 → mH → Option (Int32 × mH)) (v1 : Int32) (v2 : Int32) (v3 : Int32) (v4 : Int32) (h : mH) : Option (Int32 × mH) :=
  self36 v2 v3 (v4 + (1 : Int32)) h
set_option maxRecDepth 20000 in
set_option maxHeartbeats 4000000 in
theorem b_X9_ask_118 {g : mG} {l : Launch} (hg : mnn g = 101) (N : Nat) (v1 : Int32) (v2 : Int32) (v3 : Int32) (v4 : Int32) (self36 : Int32 → Int32 → Int32 → mH → Option (Int32 × mH)) (hself36 : ∀ (v2 : Int32) (v3 : Int32) (v4 : Int32) (h : mH), mw g l 4 mX9_ask (fun r : Int32 × mH => (some (Value.int r.1), r.2)) 36 [(0, .ref (mad g 82)), (1, .int v1), (2, .int v2), (3, .int v3), (4, .int v4)] [] h (self36 v2 v3 v4 h)) (h : mH) : mw g l 4 mX9_ask (fun r : Int32 × mH => (some (Value.int r.1), r.2)) 118 [(0, .ref (mad g 82)), (1, .int v1), (2, .int v2), (3, .int v3), (4, .int v4)] [] h (x_X9_ask_118 N self36 v1 v2 v3 v4 h) := by
  unfold x_X9_ask_118
  refine mw_iinc (n := 121) (q := 4) (v := (v4 + (1 : Int32))) dX9_ask_118 rfl rfl rfl (by decide) rfl ?_
  refine mw_goto (n := 36) dX9_ask_121 (by decide) ?_
  refine mw_sub [1, 2, 3, 4, 0] rfl ?_
  exact hself36 v2 v3 (v4 + (1 : Int32)) h
noncomputable def x_X9_ask_112 (N : Nat) (self36 : Int32 → Int32 → Int32 → mH → Option (Int32 × mH)) (v1 : Int32) (v4 : Int32) (v6 : Int32) (h : mH) : Option (Int32 × mH) :=
  x_X9_ask_118 N self36 v1 v4 v6 v4 h
set_option maxRecDepth 20000 in
set_option maxHeartbeats 4000000 in
theorem b_X9_ask_112 {g : mG} {l : Launch} (hg : mnn g = 101) (N : Nat) (v1 : Int32) (v4 : Int32) (v6 : Int32) (self36 : Int32 → Int32 → Int32 → mH → Option (Int32 × mH)) (hself36 : ∀ (v2 : Int32) (v3 : Int32) (v4 : Int32) (h : mH), mw g l 4 mX9_ask (fun r : Int32 × mH => (some (Value.int r.1), r.2)) 36 [(0, .ref (mad g 82)), (1, .int v1), (2, .int v2), (3, .int v3), (4, .int v4)] [] h (self36 v2 v3 v4 h)) (h : mH) : mw g l 4 mX9_ask (fun r : Int32 × mH => (some (Value.int r.1), r.2)) 112 [(0, .ref (mad g 82)), (1, .int v1), (4, .int v4), (6, .int v6)] [] h (x_X9_ask_112 N self36 v1 v4 v6 h) := by
  unfold x_X9_ask_112
  refine mw_iload (n := 114) (q := 2) dX9_ask_112 rfl rfl ?_
  refine mw_istore_n (n := 115) dX9_ask_114 rfl rfl (by decide) rfl ?_
  refine mw_iload (n := 117) (q := 4) dX9_ask_115 rfl rfl ?_
  refine mw_istore_n (n := 118) dX9_ask_117 rfl rfl (by decide) rfl ?_
  refine mw_sub [2, 3, 1, 0, 4] rfl ?_
  exact b_X9_ask_118 hg N v1 v4 v6 v4 self36 hself36 h
noncomputable def x_X9_ask_36 (N : Nat) (v1 : Int32) (f : Nat) : Int32 → Int32 → Int32 → mH → Option (Int32 × mH) :=
  Nat.rec (motive := fun _ => Int32 → Int32 → Int32 → mH → Option (Int32 × mH)) (fun _ _ _ _ => none) (fun _ self36 => fun v2 v3 v4 h => 
    (x_X9_cells 85 h).bind fun q1 =>
    if q1 ≤ v4 then
      some ((if ¬ v1 = 0 then v3 else v2), h)
    else
      (x_X9_yesIn N 85 v4 h).bind fun q4 =>
      mlet (if q4 ≤ ((mgi h 82 17) - q4) then ((mgi h 82 17) - q4) else q4) fun u6 =>
      (x_X9_sure N 85 v4 h).bind fun q7 =>
      if ¬ q7 = (2 : Int32) then
        x_X9_ask_118 N self36 v1 v2 v3 v4 h
      else
        if v2 = (-9 : Int32) then
          x_X9_ask_112 N self36 v1 v4 u6 h
        else
          if v3 ≤ u6 then
            x_X9_ask_118 N self36 v1 v2 v3 v4 h
          else
            x_X9_ask_112 N self36 v1 v4 u6 h) f
theorem x_X9_ask_36_0 (N : Nat) (v1 : Int32) (v2 : Int32) (v3 : Int32) (v4 : Int32) (h : mH) : x_X9_ask_36 N v1 0 v2 v3 v4 h = none := rfl
theorem x_X9_ask_36_s (N : Nat) (v1 : Int32) (f : Nat) (v2 : Int32) (v3 : Int32) (v4 : Int32) (h : mH) : x_X9_ask_36 N v1 (f + 1) v2 v3 v4 h = (
    (x_X9_cells 85 h).bind fun q1 =>
    if q1 ≤ v4 then
      some ((if ¬ v1 = 0 then v3 else v2), h)
    else
      (x_X9_yesIn N 85 v4 h).bind fun q4 =>
      mlet (if q4 ≤ ((mgi h 82 17) - q4) then ((mgi h 82 17) - q4) else q4) fun u6 =>
      (x_X9_sure N 85 v4 h).bind fun q7 =>
      if ¬ q7 = (2 : Int32) then
        x_X9_ask_118 N (x_X9_ask_36 N v1 f) v1 v2 v3 v4 h
      else
        if v2 = (-9 : Int32) then
          x_X9_ask_112 N (x_X9_ask_36 N v1 f) v1 v4 u6 h
        else
          if v3 ≤ u6 then
            x_X9_ask_118 N (x_X9_ask_36 N v1 f) v1 v2 v3 v4 h
          else
            x_X9_ask_112 N (x_X9_ask_36 N v1 f) v1 v4 u6 h) := rfl
set_option maxRecDepth 20000 in
set_option maxHeartbeats 4000000 in
theorem b_X9_ask_36 {g : mG} {l : Launch} (hg : mnn g = 101) (N : Nat) (v1 : Int32) (f : Nat) : ∀ (v2 : Int32) (v3 : Int32) (v4 : Int32) (h : mH), mw g l 4 mX9_ask (fun r : Int32 × mH => (some (Value.int r.1), r.2)) 36 [(0, .ref (mad g 82)), (1, .int v1), (2, .int v2), (3, .int v3), (4, .int v4)] [] h (x_X9_ask_36 N v1 f v2 v3 v4 h) := by
  induction f with
  | zero => intros; exact mw_none
  | succ f hself36 =>
    intro v2 v3 v4 h
    refine mw_eq (x_X9_ask_36_s N v1 f v2 v3 v4 h) ?_
    generalize x_X9_ask_36 N v1 f = self36 at hself36 ⊢
    refine mw_iload (n := 38) (q := 4) dX9_ask_36 rfl rfl ?_
    refine mw_aload_n (n := 39) (q := 0) dX9_ask_38 rfl rfl rfl ?_
    refine mw_getr (n := 42) (a := 82) (k := 4) cl9 (mkm hg (by decide) (by rfl)) (by decide) rfl rfl fl_X9_16 dX9_ask_39 rfl ?_
    refine mw_callS (n := 45) (As := [.ref (mad g 85)]) (t_X9_cells hg 85 (mkm hg (by decide) (by rfl)) h) (by decide) ok_X9_cells rfl lk_X9_69 sm_X9_cells dX9_ask_42 rfl rfl (Nat.le_of_ble_eq_true rfl) (fun q1 _ => ?_)
    show mw g l _ _ _ 45 _ [.int q1, .int v4] h _
    refine mw_icmp_ge (n := 48) (t := 124) dX9_ask_45 rfl (by decide) Iff.rfl (fun c2 => ?_) (fun c2 => ?_)
    · refine mw_iload_n (n := 125) (q := 1) dX9_ask_124 rfl rfl rfl ?_
      refine mw_cutJ (pc' := 133) (lv' := [(0, .ref (mad g 82)), (1, .int v1), (2, .int v2), (3, .int v3), (4, .int v4)]) (st' := [.int (if ¬ v1 = 0 then v3 else v2)]) (fun J => ?_) ?_
      · refine mw_if_ne_m (n := 128) (t := 132) dX9_ask_125 rfl (by decide) (fun c3 => ?_) (fun c3 => ?_)
        · refine mw_iload_n (n := 133) (q := 3) dX9_ask_132 rfl rfl rfl ?_
          exact mw_topeq (if_pos c3).symm J
        · refine mw_iload_n (n := 129) (q := 2) dX9_ask_128 rfl rfl rfl ?_
          refine mw_goto (n := 133) dX9_ask_129 (by decide) ?_
          exact mw_topeq (if_neg c3).symm J
      exact mw_iret dX9_ask_133 rfl rfl
    · refine mw_aload_n (n := 49) (q := 0) dX9_ask_48 rfl rfl rfl ?_
      refine mw_aload_n (n := 50) (q := 0) dX9_ask_49 rfl rfl rfl ?_
      refine mw_getr (n := 53) (a := 82) (k := 4) cl9 (mkm hg (by decide) (by rfl)) (by decide) rfl rfl fl_X9_16 dX9_ask_50 rfl ?_
      refine mw_iload (n := 55) (q := 4) dX9_ask_53 rfl rfl ?_
      refine mw_callV (n := 58) (a := 82) (As := [.ref (mad g 85), .int v4]) cl9 (mkm hg (by decide) (by rfl)) (t_X9_yesIn hg N 85 v4 (mkm hg (by decide) (by rfl)) h) (by decide) ok_X9_yesIn rfl rfl lk_X9_174 im_X9_yesIn se_X9_yesIn dX9_ask_55 rfl rfl (Nat.le_of_ble_eq_true rfl) (fun q4 _ => ?_)
      show mw g l _ _ _ 58 _ [.int q4] h _
      refine mw_istore (n := 60) dX9_ask_58 rfl (by decide) rfl ?_
      refine mw_iload (n := 62) (q := 0) dX9_ask_60 rfl rfl ?_
      refine mw_aload_n (n := 63) (q := 1) dX9_ask_62 rfl rfl rfl ?_
      refine mw_geti (n := 66) (a := 82) (k := 17) cl9 (mkm hg (by decide) (by rfl)) (by decide) rfl rfl fl_X9_112 dX9_ask_63 rfl ?_
      refine mw_iload (n := 68) (q := 0) dX9_ask_66 rfl rfl ?_
      refine mw_isub (n := 69) dX9_ask_68 rfl ?_
      refine mw_cutJ (pc' := 84) (lv' := [(5, .int q4), (0, .ref (mad g 82)), (1, .int v1), (2, .int v2), (3, .int v3), (4, .int v4)]) (st' := [.int (if q4 ≤ ((mgi h 82 17) - q4) then ((mgi h 82 17) - q4) else q4)]) (fun J => ?_) ?_
      · refine mw_icmp_le_m (n := 72) (t := 77) dX9_ask_69 rfl (by decide) (fun c5 => ?_) (fun c5 => ?_)
        · refine mw_aload_n (n := 78) (q := 1) dX9_ask_77 rfl rfl rfl ?_
          refine mw_geti (n := 81) (a := 82) (k := 17) cl9 (mkm hg (by decide) (by rfl)) (by decide) rfl rfl fl_X9_112 dX9_ask_78 rfl ?_
          refine mw_iload (n := 83) (q := 0) dX9_ask_81 rfl rfl ?_
          refine mw_isub (n := 84) dX9_ask_83 rfl ?_
          exact mw_topeq (if_pos c5).symm J
        · refine mw_iload (n := 74) (q := 0) dX9_ask_72 rfl rfl ?_
          refine mw_goto (n := 84) dX9_ask_74 (by decide) ?_
          exact mw_topeq (if_neg c5).symm J
      refine mw_letI (fun u6 => ?_)
      refine mw_istore (n := 86) dX9_ask_84 rfl (by decide) rfl ?_
      refine mw_aload_n (n := 87) (q := 2) dX9_ask_86 rfl rfl rfl ?_
      refine mw_aload_n (n := 88) (q := 2) dX9_ask_87 rfl rfl rfl ?_
      refine mw_getr (n := 91) (a := 82) (k := 4) cl9 (mkm hg (by decide) (by rfl)) (by decide) rfl rfl fl_X9_16 dX9_ask_88 rfl ?_
      refine mw_iload (n := 93) (q := 6) dX9_ask_91 rfl rfl ?_
      refine mw_callV (n := 96) (a := 82) (As := [.ref (mad g 85), .int v4]) cl9 (mkm hg (by decide) (by rfl)) (t_X9_sure hg N 85 v4 (mkm hg (by decide) (by rfl)) h) (by decide) ok_X9_sure rfl rfl lk_X9_179 im_X9_sure se_X9_sure dX9_ask_93 rfl rfl (Nat.le_of_ble_eq_true rfl) (fun q7 _ => ?_)
      show mw g l _ _ _ 96 _ [.int q7] h _
      refine mw_iconst (n := 97) (v := 2) dX9_ask_96 rfl (by decide) ?_
      refine mw_icmp_ne (n := 100) (t := 118) dX9_ask_97 rfl (by decide) Iff.rfl (fun c8 => ?_) (fun c8 => ?_)
      · refine mw_sub [2, 3, 4, 5, 6] rfl ?_
        exact b_X9_ask_118 hg N v1 v2 v3 v4 self36 hself36 h
      · refine mw_iload_n (n := 101) (q := 4) dX9_ask_100 rfl rfl rfl ?_
        refine mw_bipush (n := 103) (v := -9) dX9_ask_101 rfl (by decide) ?_
        refine mw_icmp_eq (n := 106) (t := 112) dX9_ask_103 rfl (by decide) Iff.rfl (fun c9 => ?_) (fun c9 => ?_)
        · refine mw_sub [2, 3, 6, 0] rfl ?_
          exact b_X9_ask_112 hg N v1 v4 u6 self36 hself36 h
        · refine mw_iload (n := 108) (q := 0) dX9_ask_106 rfl rfl ?_
          refine mw_iload_n (n := 109) (q := 5) dX9_ask_108 rfl rfl rfl ?_
          refine mw_icmp_ge (n := 112) (t := 118) dX9_ask_109 rfl (by decide) Iff.rfl (fun c10 => ?_) (fun c10 => ?_)
          · refine mw_sub [2, 3, 4, 5, 6] rfl ?_
            exact b_X9_ask_118 hg N v1 v2 v3 v4 self36 hself36 h
          · refine mw_sub [2, 3, 6, 0] rfl ?_
            exact b_X9_ask_112 hg N v1 v4 u6 self36 hself36 h
noncomputable def x_X9_ask (N : Nat) (p0 : Int32) (h : mH) : Option (Int32 × mH) :=
  mlet (msi h 82 0 (0 : Int32)) fun h1 =>
  (x_X9_in ((p0).toInt64) (0 : Int64) (1 : Int64)).bind fun q2 =>
  if ¬ q2 = 0 then
    (x_X9_list N 85 (1 : Int32) h1).bind fun q4 =>
    x_X9_ask_36 N p0 N (-9 : Int32) (-9 : Int32) (0 : Int32) q4
  else
    some ((-2 : Int32), h1)
set_option maxRecDepth 20000 in
set_option maxHeartbeats 4000000 in
theorem t_X9_ask {g : mG} {l : Launch} (hg : mnn g = 101) (N : Nat) (p0 : Int32) (h : mH) : mf g l 4 mX9_ask (fun r : Int32 × mH => (some (Value.int r.1), r.2)) [.ref (mad g 82), .int p0] h (x_X9_ask N p0 h) := by
  refine mf_of (by decide) (Nat.le_of_ble_eq_true rfl) ?_
  show mw g l 4 mX9_ask (fun r : Int32 × mH => (some (Value.int r.1), r.2)) 0 [(0, .ref (mad g 82)), (1, .int p0)] [] h _
  unfold x_X9_ask
  refine mw_aload_n (n := 1) (q := 0) dX9_ask_0 rfl rfl rfl ?_
  refine mw_iconst (n := 2) (v := 0) dX9_ask_1 rfl (by decide) ?_
  refine mw_puti (n := 5) (a := 82) (k := 0) cl9 ct9 (mkm hg (by decide) (by rfl)) (by decide) rfl rfl rfl rfl fl_X9_65 dX9_ask_2 rfl (mw_leth (fun h1 => ?_))
  refine mw_iload_n (n := 6) (q := 1) dX9_ask_5 rfl rfl rfl ?_
  refine mw_i2l (n := 7) dX9_ask_6 rfl ?_
  refine mw_lconst (n := 8) (v := 0) dX9_ask_7 rfl (by decide) ?_
  refine mw_lconst (n := 9) (v := 1) dX9_ask_8 rfl (by decide) ?_
  refine mw_callS (n := 12) (As := [.long (p0).toInt64, .long (0 : Int64), .long (1 : Int64)]) (t_X9_in hg ((p0).toInt64) (0 : Int64) (1 : Int64) h1) (by decide) ok_X9_in rfl lk_X9_77 sm_X9_in dX9_ask_9 rfl rfl (Nat.le_of_ble_eq_true rfl) (fun q2 _ => ?_)
  show mw g l _ _ _ 12 _ [.int q2] h1 _
  refine mw_if_ne (n := 15) (t := 18) dX9_ask_12 rfl (by decide) Iff.rfl (fun c3 => ?_) (fun c3 => ?_)
  · refine mw_aload_n (n := 19) (q := 0) dX9_ask_18 rfl rfl rfl ?_
    refine mw_aload_n (n := 20) (q := 0) dX9_ask_19 rfl rfl rfl ?_
    refine mw_getr (n := 23) (a := 82) (k := 4) cl9 (mkm hg (by decide) (by rfl)) (by decide) rfl rfl fl_X9_16 dX9_ask_20 rfl ?_
    refine mw_iconst (n := 24) (v := 1) dX9_ask_23 rfl (by decide) ?_
    refine mw_callV (n := 27) (a := 82) (As := [.ref (mad g 85), .int (1 : Int32)]) cl9 (mkm hg (by decide) (by rfl)) (t_X9_list hg N 85 (1 : Int32) (mkm hg (by decide) (by rfl)) h1) (by decide) ok_X9_list rfl rfl lk_X9_122 im_X9_list se_X9_list dX9_ask_24 rfl rfl (Nat.le_of_ble_eq_true rfl) (fun q4 _ => ?_)
    show mw g l _ _ _ 27 _ [] q4 _
    refine mw_bipush (n := 29) (v := -9) dX9_ask_27 rfl (by decide) ?_
    refine mw_istore_n (n := 30) dX9_ask_29 rfl rfl (by decide) rfl ?_
    refine mw_bipush (n := 32) (v := -9) dX9_ask_30 rfl (by decide) ?_
    refine mw_istore_n (n := 33) dX9_ask_32 rfl rfl (by decide) rfl ?_
    refine mw_iconst (n := 34) (v := 0) dX9_ask_33 rfl (by decide) ?_
    refine mw_istore (n := 36) dX9_ask_34 rfl (by decide) rfl ?_
    refine mw_sub [3, 4, 2, 1, 0] rfl ?_
    exact b_X9_ask_36 hg N p0 N (-9 : Int32) (-9 : Int32) (0 : Int32) q4
  · refine mw_bipush (n := 17) (v := -2) dX9_ask_15 rfl (by decide) ?_
    exact mw_iret dX9_ask_17 rfl rfl
noncomputable def x_X9_plane (N : Nat) (h : mH) : Option (Int32 × mH) :=
  mlet (msi h 82 0 (0 : Int32)) fun h1 =>
  (x_X9_list N 85 (1 : Int32) h1).bind fun q2 =>
  if ¬ (mgi q2 85 31) = (-9 : Int32) then
    (x_X9_place N (mgi q2 85 31) q2).bind fun q4 =>
    some (q4, q2)
  else
    some ((-9 : Int32), q2)
set_option maxRecDepth 20000 in
set_option maxHeartbeats 4000000 in
theorem t_X9_plane {g : mG} {l : Launch} (hg : mnn g = 101) (N : Nat) (h : mH) : mf g l 3 mX9_plane (fun r : Int32 × mH => (some (Value.int r.1), r.2)) [.ref (mad g 82)] h (x_X9_plane N h) := by
  refine mf_of (by decide) (Nat.le_of_ble_eq_true rfl) ?_
  show mw g l 3 mX9_plane (fun r : Int32 × mH => (some (Value.int r.1), r.2)) 0 [(0, .ref (mad g 82))] [] h _
  unfold x_X9_plane
  refine mw_aload_n (n := 1) (q := 0) dX9_plane_0 rfl rfl rfl ?_
  refine mw_iconst (n := 2) (v := 0) dX9_plane_1 rfl (by decide) ?_
  refine mw_puti (n := 5) (a := 82) (k := 0) cl9 ct9 (mkm hg (by decide) (by rfl)) (by decide) rfl rfl rfl rfl fl_X9_65 dX9_plane_2 rfl (mw_leth (fun h1 => ?_))
  refine mw_aload_n (n := 6) (q := 0) dX9_plane_5 rfl rfl rfl ?_
  refine mw_aload_n (n := 7) (q := 0) dX9_plane_6 rfl rfl rfl ?_
  refine mw_getr (n := 10) (a := 82) (k := 4) cl9 (mkm hg (by decide) (by rfl)) (by decide) rfl rfl fl_X9_16 dX9_plane_7 rfl ?_
  refine mw_iconst (n := 11) (v := 1) dX9_plane_10 rfl (by decide) ?_
  refine mw_callV (n := 14) (a := 82) (As := [.ref (mad g 85), .int (1 : Int32)]) cl9 (mkm hg (by decide) (by rfl)) (t_X9_list hg N 85 (1 : Int32) (mkm hg (by decide) (by rfl)) h1) (by decide) ok_X9_list rfl rfl lk_X9_122 im_X9_list se_X9_list dX9_plane_11 rfl rfl (Nat.le_of_ble_eq_true rfl) (fun q2 _ => ?_)
  show mw g l _ _ _ 14 _ [] q2 _
  refine mw_aload_n (n := 15) (q := 0) dX9_plane_14 rfl rfl rfl ?_
  refine mw_getr (n := 18) (a := 82) (k := 4) cl9 (mkm hg (by decide) (by rfl)) (by decide) rfl rfl fl_X9_16 dX9_plane_15 rfl ?_
  refine mw_bipush (n := 20) (v := 31) dX9_plane_18 rfl (by decide) ?_
  refine mw_iaLd (n := 21) (a := 85) (j := 31) (N := 32) (mkm hg (by decide) (by rfl)) (by decide) (by decide) dX9_plane_20 rfl ?_
  refine mw_bipush (n := 23) (v := -9) dX9_plane_21 rfl (by decide) ?_
  refine mw_icmp_ne (n := 26) (t := 31) dX9_plane_23 rfl (by decide) Iff.rfl (fun c3 => ?_) (fun c3 => ?_)
  · refine mw_aload_n (n := 32) (q := 0) dX9_plane_31 rfl rfl rfl ?_
    refine mw_aload_n (n := 33) (q := 0) dX9_plane_32 rfl rfl rfl ?_
    refine mw_getr (n := 36) (a := 82) (k := 4) cl9 (mkm hg (by decide) (by rfl)) (by decide) rfl rfl fl_X9_16 dX9_plane_33 rfl ?_
    refine mw_bipush (n := 38) (v := 31) dX9_plane_36 rfl (by decide) ?_
    refine mw_iaLd (n := 39) (a := 85) (j := 31) (N := 32) (mkm hg (by decide) (by rfl)) (by decide) (by decide) dX9_plane_38 rfl ?_
    refine mw_callV (n := 42) (a := 82) (As := [.int (mgi q2 85 31)]) cl9 (mkm hg (by decide) (by rfl)) (t_X9_place hg N (mgi q2 85 31) q2) (by decide) ok_X9_place rfl rfl lk_X9_126 im_X9_place se_X9_place dX9_plane_39 rfl rfl (Nat.le_of_ble_eq_true rfl) (fun q4 _ => ?_)
    show mw g l _ _ _ 42 _ [.int q4] q2 _
    exact mw_iret dX9_plane_42 rfl rfl
  · refine mw_bipush (n := 28) (v := -9) dX9_plane_26 rfl (by decide) ?_
    refine mw_goto (n := 42) dX9_plane_28 (by decide) ?_
    exact mw_iret dX9_plane_42 rfl rfl
noncomputable def x_X9_note_51 (N : Nat) (f : Nat) : Int32 → mH → Option (mH) :=
  Nat.rec (motive := fun _ => Int32 → mH → Option (mH)) (fun _ _ => none) (fun _ self51 => fun v1 h => 
    if (32 : Int32) ≤ v1 then
      mlet (msi h 82 7 ((mgi h 82 7) + (1 : Int32))) fun h2 =>
      some h2
    else
      mck v1 32 <|
      mck (((32 : Int32) * (mgi h 82 7)) + v1) 448 <|
      mlet (msi h 87 ((((32 : Int32) * (mgi h 82 7)) + v1)).toNatClampNeg (mgi h 85 (v1).toNatClampNeg)) fun h3 =>
      self51 (v1 + (1 : Int32)) h3) f
theorem x_X9_note_51_0 (N : Nat) (v1 : Int32) (h : mH) : x_X9_note_51 N 0 v1 h = none := rfl
theorem x_X9_note_51_s (N : Nat) (f : Nat) (v1 : Int32) (h : mH) : x_X9_note_51 N (f + 1) v1 h = (
    if (32 : Int32) ≤ v1 then
      mlet (msi h 82 7 ((mgi h 82 7) + (1 : Int32))) fun h2 =>
      some h2
    else
      mck v1 32 <|
      mck (((32 : Int32) * (mgi h 82 7)) + v1) 448 <|
      mlet (msi h 87 ((((32 : Int32) * (mgi h 82 7)) + v1)).toNatClampNeg (mgi h 85 (v1).toNatClampNeg)) fun h3 =>
      (x_X9_note_51 N f) (v1 + (1 : Int32)) h3) := rfl
set_option maxRecDepth 20000 in
set_option maxHeartbeats 4000000 in
theorem b_X9_note_51 {g : mG} {l : Launch} (hg : mnn g = 101) (N : Nat) (f : Nat) : ∀ (v1 : Int32) (h : mH), mw g l 0 mX9_note (fun r : mH => ((none : Option Value), r)) 51 [(0, .ref (mad g 82)), (1, .int v1)] [] h (x_X9_note_51 N f v1 h) := by
  induction f with
  | zero => intros; exact mw_none
  | succ f hself51 =>
    intro v1 h
    refine mw_eq (x_X9_note_51_s N f v1 h) ?_
    generalize x_X9_note_51 N f = self51 at hself51 ⊢
    refine mw_iload_n (n := 52) (q := 1) dX9_note_51 rfl rfl rfl ?_
    refine mw_bipush (n := 54) (v := 32) dX9_note_52 rfl (by decide) ?_
    refine mw_icmp_ge (n := 57) (t := 83) dX9_note_54 rfl (by decide) Iff.rfl (fun c1 => ?_) (fun c1 => ?_)
    · refine mw_aload_n (n := 84) (q := 0) dX9_note_83 rfl rfl rfl ?_
      refine mw_dup (n := 85) dX9_note_84 rfl rfl ?_
      refine mw_geti (n := 88) (a := 82) (k := 7) cl9 (mkm hg (by decide) (by rfl)) (by decide) rfl rfl fl_X9_137 dX9_note_85 rfl ?_
      refine mw_iconst (n := 89) (v := 1) dX9_note_88 rfl (by decide) ?_
      refine mw_iadd (n := 90) dX9_note_89 rfl ?_
      refine mw_puti (n := 93) (a := 82) (k := 7) cl9 ct9 (mkm hg (by decide) (by rfl)) (by decide) rfl rfl rfl rfl fl_X9_137 dX9_note_90 rfl (mw_leth (fun h2 => ?_))
      exact mw_vret dX9_note_93 rfl rfl
    · refine mw_aload_n (n := 58) (q := 0) dX9_note_57 rfl rfl rfl ?_
      refine mw_getr (n := 61) (a := 82) (k := 6) cl9 (mkm hg (by decide) (by rfl)) (by decide) rfl rfl fl_X9_22 dX9_note_58 rfl ?_
      refine mw_bipush (n := 63) (v := 32) dX9_note_61 rfl (by decide) ?_
      refine mw_aload_n (n := 64) (q := 0) dX9_note_63 rfl rfl rfl ?_
      refine mw_geti (n := 67) (a := 82) (k := 7) cl9 (mkm hg (by decide) (by rfl)) (by decide) rfl rfl fl_X9_137 dX9_note_64 rfl ?_
      refine mw_imul (n := 68) dX9_note_67 rfl ?_
      refine mw_iload_n (n := 69) (q := 1) dX9_note_68 rfl rfl rfl ?_
      refine mw_iadd (n := 70) dX9_note_69 rfl ?_
      refine mw_aload_n (n := 71) (q := 0) dX9_note_70 rfl rfl rfl ?_
      refine mw_getr (n := 74) (a := 82) (k := 4) cl9 (mkm hg (by decide) (by rfl)) (by decide) rfl rfl fl_X9_16 dX9_note_71 rfl ?_
      refine mw_iload_n (n := 75) (q := 1) dX9_note_74 rfl rfl rfl ?_
      refine mw_iald (n := 76) (a := 85) (N := 32) (mkm hg (by decide) (by rfl)) dX9_note_75 rfl ?_
      refine mw_iast (n := 77) (a := 87) (N := 448) (mkm hg (by decide) (by rfl)) dX9_note_76 rfl (mw_leth (fun h3 => ?_))
      refine mw_iinc (n := 80) (q := 1) (v := (v1 + (1 : Int32))) dX9_note_77 rfl rfl rfl (by decide) rfl ?_
      refine mw_goto (n := 51) dX9_note_80 (by decide) ?_
      refine mw_sub [1, 0] rfl ?_
      exact hself51 (v1 + (1 : Int32)) h3
noncomputable def x_X9_note_49 (N : Nat) (h : mH) : Option (mH) :=
  x_X9_note_51 N N (0 : Int32) h
set_option maxRecDepth 20000 in
set_option maxHeartbeats 4000000 in
theorem b_X9_note_49 {g : mG} {l : Launch} (hg : mnn g = 101) (N : Nat) (h : mH) : mw g l 0 mX9_note (fun r : mH => ((none : Option Value), r)) 49 [(0, .ref (mad g 82))] [] h (x_X9_note_49 N h) := by
  unfold x_X9_note_49
  refine mw_iconst (n := 50) (v := 0) dX9_note_49 rfl (by decide) ?_
  refine mw_istore_n (n := 51) dX9_note_50 rfl rfl (by decide) rfl ?_
  refine mw_sub [1, 0] rfl ?_
  exact b_X9_note_51 hg N N (0 : Int32) h
noncomputable def x_X9_note_11 (N : Nat) (f : Nat) : Int32 → mH → Option (mH) :=
  Nat.rec (motive := fun _ => Int32 → mH → Option (mH)) (fun _ _ => none) (fun _ self11 => fun v1 h => 
    if (416 : Int32) ≤ v1 then
      mlet (msi h 82 7 ((mgi h 82 7) - (1 : Int32))) fun h2 =>
      x_X9_note_49 N h2
    else
      mck (v1 + (32 : Int32)) 448 <|
      mck v1 448 <|
      mlet (msi h 87 (v1).toNatClampNeg (mgi h 87 ((v1 + (32 : Int32))).toNatClampNeg)) fun h3 =>
      self11 (v1 + (1 : Int32)) h3) f
theorem x_X9_note_11_0 (N : Nat) (v1 : Int32) (h : mH) : x_X9_note_11 N 0 v1 h = none := rfl
theorem x_X9_note_11_s (N : Nat) (f : Nat) (v1 : Int32) (h : mH) : x_X9_note_11 N (f + 1) v1 h = (
    if (416 : Int32) ≤ v1 then
      mlet (msi h 82 7 ((mgi h 82 7) - (1 : Int32))) fun h2 =>
      x_X9_note_49 N h2
    else
      mck (v1 + (32 : Int32)) 448 <|
      mck v1 448 <|
      mlet (msi h 87 (v1).toNatClampNeg (mgi h 87 ((v1 + (32 : Int32))).toNatClampNeg)) fun h3 =>
      (x_X9_note_11 N f) (v1 + (1 : Int32)) h3) := rfl
set_option maxRecDepth 20000 in
set_option maxHeartbeats 4000000 in
theorem b_X9_note_11 {g : mG} {l : Launch} (hg : mnn g = 101) (N : Nat) (f : Nat) : ∀ (v1 : Int32) (h : mH), mw g l 0 mX9_note (fun r : mH => ((none : Option Value), r)) 11 [(0, .ref (mad g 82)), (1, .int v1)] [] h (x_X9_note_11 N f v1 h) := by
  induction f with
  | zero => intros; exact mw_none
  | succ f hself11 =>
    intro v1 h
    refine mw_eq (x_X9_note_11_s N f v1 h) ?_
    generalize x_X9_note_11 N f = self11 at hself11 ⊢
    refine mw_iload_n (n := 12) (q := 1) dX9_note_11 rfl rfl rfl ?_
    refine mw_sipush (n := 15) (v := 416) dX9_note_12 rfl (by decide) ?_
    refine mw_icmp_ge (n := 18) (t := 39) dX9_note_15 rfl (by decide) Iff.rfl (fun c1 => ?_) (fun c1 => ?_)
    · refine mw_aload_n (n := 40) (q := 0) dX9_note_39 rfl rfl rfl ?_
      refine mw_dup (n := 41) dX9_note_40 rfl rfl ?_
      refine mw_geti (n := 44) (a := 82) (k := 7) cl9 (mkm hg (by decide) (by rfl)) (by decide) rfl rfl fl_X9_137 dX9_note_41 rfl ?_
      refine mw_iconst (n := 45) (v := 1) dX9_note_44 rfl (by decide) ?_
      refine mw_isub (n := 46) dX9_note_45 rfl ?_
      refine mw_puti (n := 49) (a := 82) (k := 7) cl9 ct9 (mkm hg (by decide) (by rfl)) (by decide) rfl rfl rfl rfl fl_X9_137 dX9_note_46 rfl (mw_leth (fun h2 => ?_))
      refine mw_sub [0] rfl ?_
      exact b_X9_note_49 hg N h2
    · refine mw_aload_n (n := 19) (q := 0) dX9_note_18 rfl rfl rfl ?_
      refine mw_getr (n := 22) (a := 82) (k := 6) cl9 (mkm hg (by decide) (by rfl)) (by decide) rfl rfl fl_X9_22 dX9_note_19 rfl ?_
      refine mw_iload_n (n := 23) (q := 1) dX9_note_22 rfl rfl rfl ?_
      refine mw_aload_n (n := 24) (q := 0) dX9_note_23 rfl rfl rfl ?_
      refine mw_getr (n := 27) (a := 82) (k := 6) cl9 (mkm hg (by decide) (by rfl)) (by decide) rfl rfl fl_X9_22 dX9_note_24 rfl ?_
      refine mw_iload_n (n := 28) (q := 1) dX9_note_27 rfl rfl rfl ?_
      refine mw_bipush (n := 30) (v := 32) dX9_note_28 rfl (by decide) ?_
      refine mw_iadd (n := 31) dX9_note_30 rfl ?_
      refine mw_iald (n := 32) (a := 87) (N := 448) (mkm hg (by decide) (by rfl)) dX9_note_31 rfl ?_
      refine mw_iast (n := 33) (a := 87) (N := 448) (mkm hg (by decide) (by rfl)) dX9_note_32 rfl (mw_leth (fun h3 => ?_))
      refine mw_iinc (n := 36) (q := 1) (v := (v1 + (1 : Int32))) dX9_note_33 rfl rfl rfl (by decide) rfl ?_
      refine mw_goto (n := 11) dX9_note_36 (by decide) ?_
      refine mw_sub [1, 0] rfl ?_
      exact hself11 (v1 + (1 : Int32)) h3
noncomputable def x_X9_note (N : Nat) (h : mH) : Option (mH) :=
  if ¬ (mgi h 82 7) = (14 : Int32) then
    x_X9_note_49 N h
  else
    x_X9_note_11 N N (0 : Int32) h
set_option maxRecDepth 20000 in
set_option maxHeartbeats 4000000 in
theorem t_X9_note {g : mG} {l : Launch} (hg : mnn g = 101) (N : Nat) (h : mH) : mf g l 0 mX9_note (fun r : mH => ((none : Option Value), r)) [.ref (mad g 82)] h (x_X9_note N h) := by
  refine mf_of (by decide) (Nat.le_of_ble_eq_true rfl) ?_
  show mw g l 0 mX9_note (fun r : mH => ((none : Option Value), r)) 0 [(0, .ref (mad g 82))] [] h _
  unfold x_X9_note
  refine mw_aload_n (n := 1) (q := 0) dX9_note_0 rfl rfl rfl ?_
  refine mw_geti (n := 4) (a := 82) (k := 7) cl9 (mkm hg (by decide) (by rfl)) (by decide) rfl rfl fl_X9_137 dX9_note_1 rfl ?_
  refine mw_bipush (n := 6) (v := 14) dX9_note_4 rfl (by decide) ?_
  refine mw_icmp_ne (n := 9) (t := 49) dX9_note_6 rfl (by decide) Iff.rfl (fun c1 => ?_) (fun c1 => ?_)
  · exact b_X9_note_49 hg N h
  · refine mw_iconst (n := 10) (v := 0) dX9_note_9 rfl (by decide) ?_
    refine mw_istore_n (n := 11) dX9_note_10 rfl rfl (by decide) rfl ?_
    refine mw_sub [1, 0] rfl ?_
    exact b_X9_note_11 hg N N (0 : Int32) h
noncomputable def x_X9_go (N : Nat) (p0 : Int32) (h : mH) : Option (Int32 × mH) :=
  mlet (msi h 82 0 (0 : Int32)) fun h1 =>
  (x_X9_list N 85 (1 : Int32) h1).bind fun q2 =>
  (x_X9_in ((p0).toInt64) (0 : Int64) ((((mgi q2 82 17) - (1 : Int32))).toInt64)).bind fun q3 =>
  if ¬ q3 = 0 then
    (x_X9_note N q2).bind fun q5 =>
    mck p0 1000 <|
    (x_X9_ones N ((mgi q5 85 31) ^^^ (mgi q5 94 (p0).toNatClampNeg))).bind fun q6 =>
    mck p0 1000 <|
    mlet (msi q5 85 31 (mgi q5 94 (p0).toNatClampNeg)) fun h7 =>
    some (q6, h7)
  else
    some ((-1 : Int32), q2)
set_option maxRecDepth 20000 in
set_option maxHeartbeats 4000000 in
theorem t_X9_go {g : mG} {l : Launch} (hg : mnn g = 101) (N : Nat) (p0 : Int32) (h : mH) : mf g l 3 mX9_go (fun r : Int32 × mH => (some (Value.int r.1), r.2)) [.ref (mad g 82), .int p0] h (x_X9_go N p0 h) := by
  refine mf_of (by decide) (Nat.le_of_ble_eq_true rfl) ?_
  show mw g l 3 mX9_go (fun r : Int32 × mH => (some (Value.int r.1), r.2)) 0 [(0, .ref (mad g 82)), (1, .int p0)] [] h _
  unfold x_X9_go
  refine mw_aload_n (n := 1) (q := 0) dX9_go_0 rfl rfl rfl ?_
  refine mw_iconst (n := 2) (v := 0) dX9_go_1 rfl (by decide) ?_
  refine mw_puti (n := 5) (a := 82) (k := 0) cl9 ct9 (mkm hg (by decide) (by rfl)) (by decide) rfl rfl rfl rfl fl_X9_65 dX9_go_2 rfl (mw_leth (fun h1 => ?_))
  refine mw_aload_n (n := 6) (q := 0) dX9_go_5 rfl rfl rfl ?_
  refine mw_aload_n (n := 7) (q := 0) dX9_go_6 rfl rfl rfl ?_
  refine mw_getr (n := 10) (a := 82) (k := 4) cl9 (mkm hg (by decide) (by rfl)) (by decide) rfl rfl fl_X9_16 dX9_go_7 rfl ?_
  refine mw_iconst (n := 11) (v := 1) dX9_go_10 rfl (by decide) ?_
  refine mw_callV (n := 14) (a := 82) (As := [.ref (mad g 85), .int (1 : Int32)]) cl9 (mkm hg (by decide) (by rfl)) (t_X9_list hg N 85 (1 : Int32) (mkm hg (by decide) (by rfl)) h1) (by decide) ok_X9_list rfl rfl lk_X9_122 im_X9_list se_X9_list dX9_go_11 rfl rfl (Nat.le_of_ble_eq_true rfl) (fun q2 _ => ?_)
  show mw g l _ _ _ 14 _ [] q2 _
  refine mw_iload_n (n := 15) (q := 1) dX9_go_14 rfl rfl rfl ?_
  refine mw_i2l (n := 16) dX9_go_15 rfl ?_
  refine mw_lconst (n := 17) (v := 0) dX9_go_16 rfl (by decide) ?_
  refine mw_aload_n (n := 18) (q := 0) dX9_go_17 rfl rfl rfl ?_
  refine mw_geti (n := 21) (a := 82) (k := 17) cl9 (mkm hg (by decide) (by rfl)) (by decide) rfl rfl fl_X9_112 dX9_go_18 rfl ?_
  refine mw_iconst (n := 22) (v := 1) dX9_go_21 rfl (by decide) ?_
  refine mw_isub (n := 23) dX9_go_22 rfl ?_
  refine mw_i2l (n := 24) dX9_go_23 rfl ?_
  refine mw_callS (n := 27) (As := [.long (p0).toInt64, .long (0 : Int64), .long (((mgi q2 82 17) - (1 : Int32))).toInt64]) (t_X9_in hg ((p0).toInt64) (0 : Int64) ((((mgi q2 82 17) - (1 : Int32))).toInt64) q2) (by decide) ok_X9_in rfl lk_X9_77 sm_X9_in dX9_go_24 rfl rfl (Nat.le_of_ble_eq_true rfl) (fun q3 _ => ?_)
  show mw g l _ _ _ 27 _ [.int q3] q2 _
  refine mw_if_ne (n := 30) (t := 32) dX9_go_27 rfl (by decide) Iff.rfl (fun c4 => ?_) (fun c4 => ?_)
  · refine mw_aload_n (n := 33) (q := 0) dX9_go_32 rfl rfl rfl ?_
    refine mw_callV (n := 36) (a := 82) (As := []) cl9 (mkm hg (by decide) (by rfl)) (t_X9_note hg N q2) (by decide) ok_X9_note rfl rfl lk_X9_189 im_X9_note se_X9_note dX9_go_33 rfl rfl (Nat.le_of_ble_eq_true rfl) (fun q5 _ => ?_)
    show mw g l _ _ _ 36 _ [] q5 _
    refine mw_aload_n (n := 37) (q := 0) dX9_go_36 rfl rfl rfl ?_
    refine mw_getr (n := 40) (a := 82) (k := 4) cl9 (mkm hg (by decide) (by rfl)) (by decide) rfl rfl fl_X9_16 dX9_go_37 rfl ?_
    refine mw_bipush (n := 42) (v := 31) dX9_go_40 rfl (by decide) ?_
    refine mw_iaLd (n := 43) (a := 85) (j := 31) (N := 32) (mkm hg (by decide) (by rfl)) (by decide) (by decide) dX9_go_42 rfl ?_
    refine mw_aload_n (n := 44) (q := 0) dX9_go_43 rfl rfl rfl ?_
    refine mw_getr (n := 47) (a := 82) (k := 16) cl9 (mkm hg (by decide) (by rfl)) (by decide) rfl rfl fl_X9_44 dX9_go_44 rfl ?_
    refine mw_iload_n (n := 48) (q := 1) dX9_go_47 rfl rfl rfl ?_
    refine mw_iald (n := 49) (a := 94) (N := 1000) (mkm hg (by decide) (by rfl)) dX9_go_48 rfl ?_
    refine mw_ixor (n := 50) dX9_go_49 rfl ?_
    refine mw_callS (n := 53) (As := [.int ((mgi q5 85 31) ^^^ (mgi q5 94 (p0).toNatClampNeg))]) (t_X9_ones hg N ((mgi q5 85 31) ^^^ (mgi q5 94 (p0).toNatClampNeg)) q5) (by decide) ok_X9_ones rfl lk_X9_105 sm_X9_ones dX9_go_50 rfl rfl (Nat.le_of_ble_eq_true rfl) (fun q6 _ => ?_)
    show mw g l _ _ _ 53 _ [.int q6] q5 _
    refine mw_istore_n (n := 54) dX9_go_53 rfl rfl (by decide) rfl ?_
    refine mw_aload_n (n := 55) (q := 1) dX9_go_54 rfl rfl rfl ?_
    refine mw_getr (n := 58) (a := 82) (k := 4) cl9 (mkm hg (by decide) (by rfl)) (by decide) rfl rfl fl_X9_16 dX9_go_55 rfl ?_
    refine mw_bipush (n := 60) (v := 31) dX9_go_58 rfl (by decide) ?_
    refine mw_aload_n (n := 61) (q := 1) dX9_go_60 rfl rfl rfl ?_
    refine mw_getr (n := 64) (a := 82) (k := 16) cl9 (mkm hg (by decide) (by rfl)) (by decide) rfl rfl fl_X9_44 dX9_go_61 rfl ?_
    refine mw_iload_n (n := 65) (q := 2) dX9_go_64 rfl rfl rfl ?_
    refine mw_iald (n := 66) (a := 94) (N := 1000) (mkm hg (by decide) (by rfl)) dX9_go_65 rfl ?_
    refine mw_iaSt (n := 67) (a := 85) (j := 31) (N := 32) (mkm hg (by decide) (by rfl)) (by decide) (by decide) dX9_go_66 rfl (mw_leth (fun h7 => ?_))
    refine mw_iload_n (n := 68) (q := 0) dX9_go_67 rfl rfl rfl ?_
    exact mw_iret dX9_go_68 rfl rfl
  · refine mw_iconst (n := 31) (v := -1) dX9_go_30 rfl (by decide) ?_
    exact mw_iret dX9_go_31 rfl rfl
noncomputable def x_X9_bit (p0 : Nat) (p1 : Int32) (p2 : Int32) (h : mH) : Option (Int32) :=
  (x_X9_cells p0 h).bind fun q1 =>
  some ((1 : Int32) <<< (((q1 - (1 : Int32)) - (((mgi h p0 1) * p1) + p2)) &&& 31))
set_option maxRecDepth 20000 in
set_option maxHeartbeats 4000000 in
theorem t_X9_bit {g : mG} {l : Launch} (hg : mnn g = 101) (p0 : Nat) (p1 : Int32) (p2 : Int32) (hp0 : mkn g p0 132) (h : mH) : mf g l 1 mX9_bit (fun r : Int32 => (some (Value.int r), h)) [.ref (mad g p0), .int p1, .int p2] h (x_X9_bit p0 p1 p2 h) := by
  refine mf_of (by decide) (Nat.le_of_ble_eq_true rfl) ?_
  show mw g l 1 mX9_bit (fun r : Int32 => (some (Value.int r), h)) 0 [(0, .ref (mad g p0)), (1, .int p1), (2, .int p2)] [] h _
  unfold x_X9_bit
  refine mw_iconst (n := 1) (v := 1) dX9_bit_0 rfl (by decide) ?_
  refine mw_aload_n (n := 2) (q := 0) dX9_bit_1 rfl rfl rfl ?_
  refine mw_callS (n := 5) (As := [.ref (mad g p0)]) (t_X9_cells hg p0 hp0 h) (by decide) ok_X9_cells rfl lk_X9_69 sm_X9_cells dX9_bit_2 rfl rfl (Nat.le_of_ble_eq_true rfl) (fun q1 _ => ?_)
  show mw g l _ _ _ 5 _ [.int q1, .int (1 : Int32)] h _
  refine mw_iconst (n := 6) (v := 1) dX9_bit_5 rfl (by decide) ?_
  refine mw_isub (n := 7) dX9_bit_6 rfl ?_
  refine mw_aload_n (n := 8) (q := 0) dX9_bit_7 rfl rfl rfl ?_
  refine mw_iconst (n := 9) (v := 1) dX9_bit_8 rfl (by decide) ?_
  refine mw_iaLd (n := 10) (a := p0) (j := 1) (N := 32) hp0 (by decide) (by decide) dX9_bit_9 rfl ?_
  refine mw_iload_n (n := 11) (q := 1) dX9_bit_10 rfl rfl rfl ?_
  refine mw_imul (n := 12) dX9_bit_11 rfl ?_
  refine mw_iload_n (n := 13) (q := 2) dX9_bit_12 rfl rfl rfl ?_
  refine mw_iadd (n := 14) dX9_bit_13 rfl ?_
  refine mw_isub (n := 15) dX9_bit_14 rfl ?_
  refine mw_ishl (n := 16) dX9_bit_15 rfl ?_
  exact mw_iret dX9_bit_16 rfl rfl
noncomputable def x_X9_four_68 (r0 : Nat) (v1 : Int32) (v2 : Int32) (v3 : Int32) (v4 : Int32) (s0 : Int32) (h : mH) : Option (Int32) :=
  (x_X9_bit r0 v1 v3 h).bind fun q1 =>
  (x_X9_bit r0 v2 v4 h).bind fun q2 =>
  mlet (q1 ||| q2) fun u3 =>
  (x_X9_bit r0 v1 v4 h).bind fun q4 =>
  (x_X9_bit r0 v2 v3 h).bind fun q5 =>
  mlet (q4 ||| q5) fun u6 =>
  mlet (if (mgi h r0 31) = (-9 : Int32) then (0 : Int32) else (if v1 = v2 then (0 : Int32) else (if v3 = v4 then (0 : Int32) else (if s0 = 0 then (0 : Int32) else (if ¬ ((mgi h r0 31) &&& u3) = u3 then (0 : Int32) else (if ¬ ((mgi h r0 31) &&& u6) = 0 then (0 : Int32) else (1 : Int32))))))) fun u13 =>
  some (if u13 = 0 then (0 : Int32) else (u3 ||| u6))
set_option maxRecDepth 20000 in
set_option maxHeartbeats 4000000 in
theorem b_X9_four_68 {g : mG} {l : Launch} (hg : mnn g = 101) (r0 : Nat) (v1 : Int32) (v2 : Int32) (v3 : Int32) (v4 : Int32) (s0 : Int32) (h : mH) (hr0 : mkn g r0 132) : mw g l 2 mX9_four (fun r : Int32 => (some (Value.int r), h)) 68 [(0, .ref (mad g r0)), (1, .int v1), (2, .int v2), (3, .int v3), (4, .int v4)] [.int s0] h (x_X9_four_68 r0 v1 v2 v3 v4 s0 h) := by
  unfold x_X9_four_68
  refine mw_istore (n := 70) dX9_four_68 rfl (by decide) rfl ?_
  refine mw_aload_n (n := 71) (q := 1) dX9_four_70 rfl rfl rfl ?_
  refine mw_iload_n (n := 72) (q := 2) dX9_four_71 rfl rfl rfl ?_
  refine mw_iload_n (n := 73) (q := 4) dX9_four_72 rfl rfl rfl ?_
  refine mw_callS (n := 76) (As := [.ref (mad g r0), .int v1, .int v3]) (t_X9_bit hg r0 v1 v3 hr0 h) (by decide) ok_X9_bit rfl lk_X9_192 sm_X9_bit dX9_four_73 rfl rfl (Nat.le_of_ble_eq_true rfl) (fun q1 _ => ?_)
  show mw g l _ _ _ 76 _ [.int q1] h _
  refine mw_aload_n (n := 77) (q := 1) dX9_four_76 rfl rfl rfl ?_
  refine mw_iload_n (n := 78) (q := 3) dX9_four_77 rfl rfl rfl ?_
  refine mw_iload (n := 80) (q := 5) dX9_four_78 rfl rfl ?_
  refine mw_callS (n := 83) (As := [.ref (mad g r0), .int v2, .int v4]) (t_X9_bit hg r0 v2 v4 hr0 h) (by decide) ok_X9_bit rfl lk_X9_192 sm_X9_bit dX9_four_80 rfl rfl (Nat.le_of_ble_eq_true rfl) (fun q2 _ => ?_)
  show mw g l _ _ _ 83 _ [.int q2, .int q1] h _
  refine mw_ior (n := 84) dX9_four_83 rfl ?_
  refine mw_letI (fun u3 => ?_)
  refine mw_istore (n := 86) dX9_four_84 rfl (by decide) rfl ?_
  refine mw_aload_n (n := 87) (q := 2) dX9_four_86 rfl rfl rfl ?_
  refine mw_iload_n (n := 88) (q := 3) dX9_four_87 rfl rfl rfl ?_
  refine mw_iload (n := 90) (q := 6) dX9_four_88 rfl rfl ?_
  refine mw_callS (n := 93) (As := [.ref (mad g r0), .int v1, .int v4]) (t_X9_bit hg r0 v1 v4 hr0 h) (by decide) ok_X9_bit rfl lk_X9_192 sm_X9_bit dX9_four_90 rfl rfl (Nat.le_of_ble_eq_true rfl) (fun q4 _ => ?_)
  show mw g l _ _ _ 93 _ [.int q4] h _
  refine mw_aload_n (n := 94) (q := 2) dX9_four_93 rfl rfl rfl ?_
  refine mw_iload_n (n := 95) (q := 4) dX9_four_94 rfl rfl rfl ?_
  refine mw_iload_n (n := 96) (q := 5) dX9_four_95 rfl rfl rfl ?_
  refine mw_callS (n := 99) (As := [.ref (mad g r0), .int v2, .int v3]) (t_X9_bit hg r0 v2 v3 hr0 h) (by decide) ok_X9_bit rfl lk_X9_192 sm_X9_bit dX9_four_96 rfl rfl (Nat.le_of_ble_eq_true rfl) (fun q5 _ => ?_)
  show mw g l _ _ _ 99 _ [.int q5, .int q4] h _
  refine mw_ior (n := 100) dX9_four_99 rfl ?_
  refine mw_letI (fun u6 => ?_)
  refine mw_istore (n := 102) dX9_four_100 rfl (by decide) rfl ?_
  refine mw_aload_n (n := 103) (q := 3) dX9_four_102 rfl rfl rfl ?_
  refine mw_bipush (n := 105) (v := 31) dX9_four_103 rfl (by decide) ?_
  refine mw_iaLd (n := 106) (a := r0) (j := 31) (N := 32) hr0 (by decide) (by decide) dX9_four_105 rfl ?_
  refine mw_bipush (n := 108) (v := -9) dX9_four_106 rfl (by decide) ?_
  refine mw_cutJ (pc' := 154) (lv' := [(8, .int u6), (7, .int u3), (6, .int s0), (0, .ref (mad g r0)), (1, .int v1), (2, .int v2), (3, .int v3), (4, .int v4)]) (st' := [.int (if (mgi h r0 31) = (-9 : Int32) then (0 : Int32) else (if v1 = v2 then (0 : Int32) else (if v3 = v4 then (0 : Int32) else (if s0 = 0 then (0 : Int32) else (if ¬ ((mgi h r0 31) &&& u3) = u3 then (0 : Int32) else (if ¬ ((mgi h r0 31) &&& u6) = 0 then (0 : Int32) else (1 : Int32)))))))]) (fun J => ?_) ?_
  · refine mw_icmp_eq_m (n := 111) (t := 153) dX9_four_108 rfl (by decide) (fun c7 => ?_) (fun c7 => ?_)
    · refine mw_iconst (n := 154) (v := 0) dX9_four_153 rfl (by decide) ?_
      exact mw_topeq (if_pos c7).symm J
    · refine mw_iload_n (n := 112) (q := 4) dX9_four_111 rfl rfl rfl ?_
      refine mw_iload_n (n := 113) (q := 5) dX9_four_112 rfl rfl rfl ?_
      refine mw_icmp_eq_m (n := 116) (t := 153) dX9_four_113 rfl (by decide) (fun c8 => ?_) (fun c8 => ?_)
      · refine mw_iconst (n := 154) (v := 0) dX9_four_153 rfl (by decide) ?_
        exact mw_topeq ((if_neg c7).trans (if_pos c8)).symm J
      · refine mw_iload_n (n := 117) (q := 6) dX9_four_116 rfl rfl rfl ?_
        refine mw_iload (n := 119) (q := 7) dX9_four_117 rfl rfl ?_
        refine mw_icmp_eq_m (n := 122) (t := 153) dX9_four_119 rfl (by decide) (fun c9 => ?_) (fun c9 => ?_)
        · refine mw_iconst (n := 154) (v := 0) dX9_four_153 rfl (by decide) ?_
          exact mw_topeq (((if_neg c7).trans (if_neg c8)).trans (if_pos c9)).symm J
        · refine mw_iload (n := 124) (q := 2) dX9_four_122 rfl rfl ?_
          refine mw_if_eq_m (n := 127) (t := 153) dX9_four_124 rfl (by decide) (fun c10 => ?_) (fun c10 => ?_)
          · refine mw_iconst (n := 154) (v := 0) dX9_four_153 rfl (by decide) ?_
            exact mw_topeq ((((if_neg c7).trans (if_neg c8)).trans (if_neg c9)).trans (if_pos c10)).symm J
          · refine mw_aload_n (n := 128) (q := 3) dX9_four_127 rfl rfl rfl ?_
            refine mw_bipush (n := 130) (v := 31) dX9_four_128 rfl (by decide) ?_
            refine mw_iaLd (n := 131) (a := r0) (j := 31) (N := 32) hr0 (by decide) (by decide) dX9_four_130 rfl ?_
            refine mw_iload (n := 133) (q := 1) dX9_four_131 rfl rfl ?_
            refine mw_iand (n := 134) dX9_four_133 rfl ?_
            refine mw_iload (n := 136) (q := 1) dX9_four_134 rfl rfl ?_
            refine mw_icmp_ne_m (n := 139) (t := 153) dX9_four_136 rfl (by decide) (fun c11 => ?_) (fun c11 => ?_)
            · refine mw_iconst (n := 154) (v := 0) dX9_four_153 rfl (by decide) ?_
              exact mw_topeq (((((if_neg c7).trans (if_neg c8)).trans (if_neg c9)).trans (if_neg c10)).trans (if_pos c11)).symm J
            · refine mw_aload_n (n := 140) (q := 3) dX9_four_139 rfl rfl rfl ?_
              refine mw_bipush (n := 142) (v := 31) dX9_four_140 rfl (by decide) ?_
              refine mw_iaLd (n := 143) (a := r0) (j := 31) (N := 32) hr0 (by decide) (by decide) dX9_four_142 rfl ?_
              refine mw_iload (n := 145) (q := 0) dX9_four_143 rfl rfl ?_
              refine mw_iand (n := 146) dX9_four_145 rfl ?_
              refine mw_if_ne_m (n := 149) (t := 153) dX9_four_146 rfl (by decide) (fun c12 => ?_) (fun c12 => ?_)
              · refine mw_iconst (n := 154) (v := 0) dX9_four_153 rfl (by decide) ?_
                exact mw_topeq ((((((if_neg c7).trans (if_neg c8)).trans (if_neg c9)).trans (if_neg c10)).trans (if_neg c11)).trans (if_pos c12)).symm J
              · refine mw_iconst (n := 150) (v := 1) dX9_four_149 rfl (by decide) ?_
                refine mw_goto (n := 154) dX9_four_150 (by decide) ?_
                exact mw_topeq ((((((if_neg c7).trans (if_neg c8)).trans (if_neg c9)).trans (if_neg c10)).trans (if_neg c11)).trans (if_neg c12)).symm J
  refine mw_letI (fun u13 => ?_)
  refine mw_istore (n := 156) dX9_four_154 rfl (by decide) rfl ?_
  refine mw_iload (n := 158) (q := 0) dX9_four_156 rfl rfl ?_
  refine mw_cutJ (pc' := 170) (lv' := [(9, .int u13), (8, .int u6), (7, .int u3), (6, .int s0), (0, .ref (mad g r0)), (1, .int v1), (2, .int v2), (3, .int v3), (4, .int v4)]) (st' := [.int (if u13 = 0 then (0 : Int32) else (u3 ||| u6))]) (fun J => ?_) ?_
  · refine mw_if_eq_m (n := 161) (t := 169) dX9_four_158 rfl (by decide) (fun c14 => ?_) (fun c14 => ?_)
    · refine mw_iconst (n := 170) (v := 0) dX9_four_169 rfl (by decide) ?_
      exact mw_topeq (if_pos c14).symm J
    · refine mw_iload (n := 163) (q := 2) dX9_four_161 rfl rfl ?_
      refine mw_iload (n := 165) (q := 1) dX9_four_163 rfl rfl ?_
      refine mw_ior (n := 166) dX9_four_165 rfl ?_
      refine mw_goto (n := 170) dX9_four_166 (by decide) ?_
      exact mw_topeq (if_neg c14).symm J
  exact mw_iret dX9_four_170 rfl rfl
noncomputable def x_X9_four_67 (r0 : Nat) (v1 : Int32) (v2 : Int32) (v3 : Int32) (v4 : Int32) (h : mH) : Option (Int32) :=
  x_X9_four_68 r0 v1 v2 v3 v4 (0 : Int32) h
set_option maxRecDepth 20000 in
set_option maxHeartbeats 4000000 in
theorem b_X9_four_67 {g : mG} {l : Launch} (hg : mnn g = 101) (r0 : Nat) (v1 : Int32) (v2 : Int32) (v3 : Int32) (v4 : Int32) (h : mH) (hr0 : mkn g r0 132) : mw g l 2 mX9_four (fun r : Int32 => (some (Value.int r), h)) 67 [(0, .ref (mad g r0)), (1, .int v1), (2, .int v2), (3, .int v3), (4, .int v4)] [] h (x_X9_four_67 r0 v1 v2 v3 v4 h) := by
  unfold x_X9_four_67
  refine mw_iconst (n := 68) (v := 0) dX9_four_67 rfl (by decide) ?_
  exact b_X9_four_68 hg r0 v1 v2 v3 v4 (0 : Int32) h hr0
noncomputable def x_X9_four (p0 : Nat) (p1 : Int32) (p2 : Int32) (p3 : Int32) (p4 : Int32) (h : mH) : Option (Int32) :=
  mlet (mgi h p0 1) fun u1 =>
  mck (((11 : Int32) + (u1 * p1)) + p3) 32 <|
  if ¬ (mgi h p0 ((((11 : Int32) + (u1 * p1)) + p3)).toNatClampNeg) = 0 then
    x_X9_four_67 p0 p1 p2 p3 p4 h
  else
    mck (((11 : Int32) + (u1 * p2)) + p4) 32 <|
    if ¬ (mgi h p0 ((((11 : Int32) + (u1 * p2)) + p4)).toNatClampNeg) = 0 then
      x_X9_four_67 p0 p1 p2 p3 p4 h
    else
      mck (((11 : Int32) + (u1 * p1)) + p4) 32 <|
      if ¬ (mgi h p0 ((((11 : Int32) + (u1 * p1)) + p4)).toNatClampNeg) = 0 then
        x_X9_four_67 p0 p1 p2 p3 p4 h
      else
        mck (((11 : Int32) + (u1 * p2)) + p3) 32 <|
        mlet (if ¬ (mgi h p0 ((((11 : Int32) + (u1 * p2)) + p3)).toNatClampNeg) = 0 then (0 : Int32) else (1 : Int32)) fun u6 =>
        (x_X9_bit p0 p1 p3 h).bind fun q7 =>
        (x_X9_bit p0 p2 p4 h).bind fun q8 =>
        mlet (q7 ||| q8) fun u9 =>
        (x_X9_bit p0 p1 p4 h).bind fun q10 =>
        (x_X9_bit p0 p2 p3 h).bind fun q11 =>
        mlet (q10 ||| q11) fun u12 =>
        mlet (if (mgi h p0 31) = (-9 : Int32) then (0 : Int32) else (if p1 = p2 then (0 : Int32) else (if p3 = p4 then (0 : Int32) else (if u6 = 0 then (0 : Int32) else (if ¬ ((mgi h p0 31) &&& u9) = u9 then (0 : Int32) else (if ¬ ((mgi h p0 31) &&& u12) = 0 then (0 : Int32) else (1 : Int32))))))) fun u19 =>
        some (if u19 = 0 then (0 : Int32) else (u9 ||| u12))
set_option maxRecDepth 20000 in
set_option maxHeartbeats 4000000 in
theorem t_X9_four {g : mG} {l : Launch} (hg : mnn g = 101) (p0 : Nat) (p1 : Int32) (p2 : Int32) (p3 : Int32) (p4 : Int32) (hp0 : mkn g p0 132) (h : mH) : mf g l 2 mX9_four (fun r : Int32 => (some (Value.int r), h)) [.ref (mad g p0), .int p1, .int p2, .int p3, .int p4] h (x_X9_four p0 p1 p2 p3 p4 h) := by
  refine mf_of (by decide) (Nat.le_of_ble_eq_true rfl) ?_
  show mw g l 2 mX9_four (fun r : Int32 => (some (Value.int r), h)) 0 [(0, .ref (mad g p0)), (1, .int p1), (2, .int p2), (3, .int p3), (4, .int p4)] [] h _
  unfold x_X9_four
  refine mw_aload_n (n := 1) (q := 0) dX9_four_0 rfl rfl rfl ?_
  refine mw_iconst (n := 2) (v := 1) dX9_four_1 rfl (by decide) ?_
  refine mw_iaLd (n := 3) (a := p0) (j := 1) (N := 32) hp0 (by decide) (by decide) dX9_four_2 rfl ?_
  refine mw_letI (fun u1 => ?_)
  refine mw_istore (n := 5) dX9_four_3 rfl (by decide) rfl ?_
  refine mw_aload_n (n := 6) (q := 1) dX9_four_5 rfl rfl rfl ?_
  refine mw_bipush (n := 8) (v := 11) dX9_four_6 rfl (by decide) ?_
  refine mw_iload (n := 10) (q := 0) dX9_four_8 rfl rfl ?_
  refine mw_iload_n (n := 11) (q := 2) dX9_four_10 rfl rfl rfl ?_
  refine mw_imul (n := 12) dX9_four_11 rfl ?_
  refine mw_iadd (n := 13) dX9_four_12 rfl ?_
  refine mw_iload_n (n := 14) (q := 4) dX9_four_13 rfl rfl rfl ?_
  refine mw_iadd (n := 15) dX9_four_14 rfl ?_
  refine mw_iald (n := 16) (a := p0) (N := 32) hp0 dX9_four_15 rfl ?_
  refine mw_if_ne (n := 19) (t := 67) dX9_four_16 rfl (by decide) Iff.rfl (fun c2 => ?_) (fun c2 => ?_)
  · refine mw_sub [1, 2, 3, 4, 5] rfl ?_
    exact b_X9_four_67 hg p0 p1 p2 p3 p4 h hp0
  · refine mw_aload_n (n := 20) (q := 1) dX9_four_19 rfl rfl rfl ?_
    refine mw_bipush (n := 22) (v := 11) dX9_four_20 rfl (by decide) ?_
    refine mw_iload (n := 24) (q := 0) dX9_four_22 rfl rfl ?_
    refine mw_iload_n (n := 25) (q := 3) dX9_four_24 rfl rfl rfl ?_
    refine mw_imul (n := 26) dX9_four_25 rfl ?_
    refine mw_iadd (n := 27) dX9_four_26 rfl ?_
    refine mw_iload (n := 29) (q := 5) dX9_four_27 rfl rfl ?_
    refine mw_iadd (n := 30) dX9_four_29 rfl ?_
    refine mw_iald (n := 31) (a := p0) (N := 32) hp0 dX9_four_30 rfl ?_
    refine mw_if_ne (n := 34) (t := 67) dX9_four_31 rfl (by decide) Iff.rfl (fun c3 => ?_) (fun c3 => ?_)
    · refine mw_sub [1, 2, 3, 4, 5] rfl ?_
      exact b_X9_four_67 hg p0 p1 p2 p3 p4 h hp0
    · refine mw_aload_n (n := 35) (q := 1) dX9_four_34 rfl rfl rfl ?_
      refine mw_bipush (n := 37) (v := 11) dX9_four_35 rfl (by decide) ?_
      refine mw_iload (n := 39) (q := 0) dX9_four_37 rfl rfl ?_
      refine mw_iload_n (n := 40) (q := 2) dX9_four_39 rfl rfl rfl ?_
      refine mw_imul (n := 41) dX9_four_40 rfl ?_
      refine mw_iadd (n := 42) dX9_four_41 rfl ?_
      refine mw_iload (n := 44) (q := 5) dX9_four_42 rfl rfl ?_
      refine mw_iadd (n := 45) dX9_four_44 rfl ?_
      refine mw_iald (n := 46) (a := p0) (N := 32) hp0 dX9_four_45 rfl ?_
      refine mw_if_ne (n := 49) (t := 67) dX9_four_46 rfl (by decide) Iff.rfl (fun c4 => ?_) (fun c4 => ?_)
      · refine mw_sub [1, 2, 3, 4, 5] rfl ?_
        exact b_X9_four_67 hg p0 p1 p2 p3 p4 h hp0
      · refine mw_aload_n (n := 50) (q := 1) dX9_four_49 rfl rfl rfl ?_
        refine mw_bipush (n := 52) (v := 11) dX9_four_50 rfl (by decide) ?_
        refine mw_iload (n := 54) (q := 0) dX9_four_52 rfl rfl ?_
        refine mw_iload_n (n := 55) (q := 3) dX9_four_54 rfl rfl rfl ?_
        refine mw_imul (n := 56) dX9_four_55 rfl ?_
        refine mw_iadd (n := 57) dX9_four_56 rfl ?_
        refine mw_iload_n (n := 58) (q := 4) dX9_four_57 rfl rfl rfl ?_
        refine mw_iadd (n := 59) dX9_four_58 rfl ?_
        refine mw_iald (n := 60) (a := p0) (N := 32) hp0 dX9_four_59 rfl ?_
        refine mw_cutJ (pc' := 68) (lv' := [(5, .int u1), (0, .ref (mad g p0)), (1, .int p1), (2, .int p2), (3, .int p3), (4, .int p4)]) (st' := [.int (if ¬ (mgi h p0 ((((11 : Int32) + (u1 * p2)) + p3)).toNatClampNeg) = 0 then (0 : Int32) else (1 : Int32))]) (fun J => ?_) ?_
        · refine mw_if_ne_m (n := 63) (t := 67) dX9_four_60 rfl (by decide) (fun c5 => ?_) (fun c5 => ?_)
          · refine mw_iconst (n := 68) (v := 0) dX9_four_67 rfl (by decide) ?_
            exact mw_topeq (if_pos c5).symm J
          · refine mw_iconst (n := 64) (v := 1) dX9_four_63 rfl (by decide) ?_
            refine mw_goto (n := 68) dX9_four_64 (by decide) ?_
            exact mw_topeq (if_neg c5).symm J
        refine mw_letI (fun u6 => ?_)
        refine mw_istore (n := 70) dX9_four_68 rfl (by decide) rfl ?_
        refine mw_aload_n (n := 71) (q := 2) dX9_four_70 rfl rfl rfl ?_
        refine mw_iload_n (n := 72) (q := 3) dX9_four_71 rfl rfl rfl ?_
        refine mw_iload_n (n := 73) (q := 5) dX9_four_72 rfl rfl rfl ?_
        refine mw_callS (n := 76) (As := [.ref (mad g p0), .int p1, .int p3]) (t_X9_bit hg p0 p1 p3 hp0 h) (by decide) ok_X9_bit rfl lk_X9_192 sm_X9_bit dX9_four_73 rfl rfl (Nat.le_of_ble_eq_true rfl) (fun q7 _ => ?_)
        show mw g l _ _ _ 76 _ [.int q7] h _
        refine mw_aload_n (n := 77) (q := 2) dX9_four_76 rfl rfl rfl ?_
        refine mw_iload_n (n := 78) (q := 4) dX9_four_77 rfl rfl rfl ?_
        refine mw_iload (n := 80) (q := 6) dX9_four_78 rfl rfl ?_
        refine mw_callS (n := 83) (As := [.ref (mad g p0), .int p2, .int p4]) (t_X9_bit hg p0 p2 p4 hp0 h) (by decide) ok_X9_bit rfl lk_X9_192 sm_X9_bit dX9_four_80 rfl rfl (Nat.le_of_ble_eq_true rfl) (fun q8 _ => ?_)
        show mw g l _ _ _ 83 _ [.int q8, .int q7] h _
        refine mw_ior (n := 84) dX9_four_83 rfl ?_
        refine mw_letI (fun u9 => ?_)
        refine mw_istore (n := 86) dX9_four_84 rfl (by decide) rfl ?_
        refine mw_aload_n (n := 87) (q := 3) dX9_four_86 rfl rfl rfl ?_
        refine mw_iload_n (n := 88) (q := 4) dX9_four_87 rfl rfl rfl ?_
        refine mw_iload (n := 90) (q := 7) dX9_four_88 rfl rfl ?_
        refine mw_callS (n := 93) (As := [.ref (mad g p0), .int p1, .int p4]) (t_X9_bit hg p0 p1 p4 hp0 h) (by decide) ok_X9_bit rfl lk_X9_192 sm_X9_bit dX9_four_90 rfl rfl (Nat.le_of_ble_eq_true rfl) (fun q10 _ => ?_)
        show mw g l _ _ _ 93 _ [.int q10] h _
        refine mw_aload_n (n := 94) (q := 3) dX9_four_93 rfl rfl rfl ?_
        refine mw_iload_n (n := 95) (q := 5) dX9_four_94 rfl rfl rfl ?_
        refine mw_iload_n (n := 96) (q := 6) dX9_four_95 rfl rfl rfl ?_
        refine mw_callS (n := 99) (As := [.ref (mad g p0), .int p2, .int p3]) (t_X9_bit hg p0 p2 p3 hp0 h) (by decide) ok_X9_bit rfl lk_X9_192 sm_X9_bit dX9_four_96 rfl rfl (Nat.le_of_ble_eq_true rfl) (fun q11 _ => ?_)
        show mw g l _ _ _ 99 _ [.int q11, .int q10] h _
        refine mw_ior (n := 100) dX9_four_99 rfl ?_
        refine mw_letI (fun u12 => ?_)
        refine mw_istore (n := 102) dX9_four_100 rfl (by decide) rfl ?_
        refine mw_aload_n (n := 103) (q := 4) dX9_four_102 rfl rfl rfl ?_
        refine mw_bipush (n := 105) (v := 31) dX9_four_103 rfl (by decide) ?_
        refine mw_iaLd (n := 106) (a := p0) (j := 31) (N := 32) hp0 (by decide) (by decide) dX9_four_105 rfl ?_
        refine mw_bipush (n := 108) (v := -9) dX9_four_106 rfl (by decide) ?_
        refine mw_cutJ (pc' := 154) (lv' := [(8, .int u12), (7, .int u9), (6, .int u6), (5, .int u1), (0, .ref (mad g p0)), (1, .int p1), (2, .int p2), (3, .int p3), (4, .int p4)]) (st' := [.int (if (mgi h p0 31) = (-9 : Int32) then (0 : Int32) else (if p1 = p2 then (0 : Int32) else (if p3 = p4 then (0 : Int32) else (if u6 = 0 then (0 : Int32) else (if ¬ ((mgi h p0 31) &&& u9) = u9 then (0 : Int32) else (if ¬ ((mgi h p0 31) &&& u12) = 0 then (0 : Int32) else (1 : Int32)))))))]) (fun J => ?_) ?_
        · refine mw_icmp_eq_m (n := 111) (t := 153) dX9_four_108 rfl (by decide) (fun c13 => ?_) (fun c13 => ?_)
          · refine mw_iconst (n := 154) (v := 0) dX9_four_153 rfl (by decide) ?_
            exact mw_topeq (if_pos c13).symm J
          · refine mw_iload_n (n := 112) (q := 5) dX9_four_111 rfl rfl rfl ?_
            refine mw_iload_n (n := 113) (q := 6) dX9_four_112 rfl rfl rfl ?_
            refine mw_icmp_eq_m (n := 116) (t := 153) dX9_four_113 rfl (by decide) (fun c14 => ?_) (fun c14 => ?_)
            · refine mw_iconst (n := 154) (v := 0) dX9_four_153 rfl (by decide) ?_
              exact mw_topeq ((if_neg c13).trans (if_pos c14)).symm J
            · refine mw_iload_n (n := 117) (q := 7) dX9_four_116 rfl rfl rfl ?_
              refine mw_iload (n := 119) (q := 8) dX9_four_117 rfl rfl ?_
              refine mw_icmp_eq_m (n := 122) (t := 153) dX9_four_119 rfl (by decide) (fun c15 => ?_) (fun c15 => ?_)
              · refine mw_iconst (n := 154) (v := 0) dX9_four_153 rfl (by decide) ?_
                exact mw_topeq (((if_neg c13).trans (if_neg c14)).trans (if_pos c15)).symm J
              · refine mw_iload (n := 124) (q := 2) dX9_four_122 rfl rfl ?_
                refine mw_if_eq_m (n := 127) (t := 153) dX9_four_124 rfl (by decide) (fun c16 => ?_) (fun c16 => ?_)
                · refine mw_iconst (n := 154) (v := 0) dX9_four_153 rfl (by decide) ?_
                  exact mw_topeq ((((if_neg c13).trans (if_neg c14)).trans (if_neg c15)).trans (if_pos c16)).symm J
                · refine mw_aload_n (n := 128) (q := 4) dX9_four_127 rfl rfl rfl ?_
                  refine mw_bipush (n := 130) (v := 31) dX9_four_128 rfl (by decide) ?_
                  refine mw_iaLd (n := 131) (a := p0) (j := 31) (N := 32) hp0 (by decide) (by decide) dX9_four_130 rfl ?_
                  refine mw_iload (n := 133) (q := 1) dX9_four_131 rfl rfl ?_
                  refine mw_iand (n := 134) dX9_four_133 rfl ?_
                  refine mw_iload (n := 136) (q := 1) dX9_four_134 rfl rfl ?_
                  refine mw_icmp_ne_m (n := 139) (t := 153) dX9_four_136 rfl (by decide) (fun c17 => ?_) (fun c17 => ?_)
                  · refine mw_iconst (n := 154) (v := 0) dX9_four_153 rfl (by decide) ?_
                    exact mw_topeq (((((if_neg c13).trans (if_neg c14)).trans (if_neg c15)).trans (if_neg c16)).trans (if_pos c17)).symm J
                  · refine mw_aload_n (n := 140) (q := 4) dX9_four_139 rfl rfl rfl ?_
                    refine mw_bipush (n := 142) (v := 31) dX9_four_140 rfl (by decide) ?_
                    refine mw_iaLd (n := 143) (a := p0) (j := 31) (N := 32) hp0 (by decide) (by decide) dX9_four_142 rfl ?_
                    refine mw_iload (n := 145) (q := 0) dX9_four_143 rfl rfl ?_
                    refine mw_iand (n := 146) dX9_four_145 rfl ?_
                    refine mw_if_ne_m (n := 149) (t := 153) dX9_four_146 rfl (by decide) (fun c18 => ?_) (fun c18 => ?_)
                    · refine mw_iconst (n := 154) (v := 0) dX9_four_153 rfl (by decide) ?_
                      exact mw_topeq ((((((if_neg c13).trans (if_neg c14)).trans (if_neg c15)).trans (if_neg c16)).trans (if_neg c17)).trans (if_pos c18)).symm J
                    · refine mw_iconst (n := 150) (v := 1) dX9_four_149 rfl (by decide) ?_
                      refine mw_goto (n := 154) dX9_four_150 (by decide) ?_
                      exact mw_topeq ((((((if_neg c13).trans (if_neg c14)).trans (if_neg c15)).trans (if_neg c16)).trans (if_neg c17)).trans (if_neg c18)).symm J
        refine mw_letI (fun u19 => ?_)
        refine mw_istore (n := 156) dX9_four_154 rfl (by decide) rfl ?_
        refine mw_iload (n := 158) (q := 0) dX9_four_156 rfl rfl ?_
        refine mw_cutJ (pc' := 170) (lv' := [(9, .int u19), (8, .int u12), (7, .int u9), (6, .int u6), (5, .int u1), (0, .ref (mad g p0)), (1, .int p1), (2, .int p2), (3, .int p3), (4, .int p4)]) (st' := [.int (if u19 = 0 then (0 : Int32) else (u9 ||| u12))]) (fun J => ?_) ?_
        · refine mw_if_eq_m (n := 161) (t := 169) dX9_four_158 rfl (by decide) (fun c20 => ?_) (fun c20 => ?_)
          · refine mw_iconst (n := 170) (v := 0) dX9_four_169 rfl (by decide) ?_
            exact mw_topeq (if_pos c20).symm J
          · refine mw_iload (n := 163) (q := 2) dX9_four_161 rfl rfl ?_
            refine mw_iload (n := 165) (q := 1) dX9_four_163 rfl rfl ?_
            refine mw_ior (n := 166) dX9_four_165 rfl ?_
            refine mw_goto (n := 170) dX9_four_166 (by decide) ?_
            exact mw_topeq (if_neg c20).symm J
        exact mw_iret dX9_four_170 rfl rfl
noncomputable def x_X9_countSwitches_113 (N : Nat) (self24 : Int32 → Int32 → Int32 → Option (Int32)) (v1 : Int32) (v2 : Int32) (v3 : Int32) (v4 : Int32) (v5 : Int32) (v6 : Int32) (v7 : Int32) (v8 : Int32) (v9 : Int32) (v10 : Int32) (s0 : Int32) (h : mH) : Option (Int32) :=
  mlet (if s0 = 0 then v3 else (if ¬ v2 = 0 then v3 else (((((1000 : Int32) * v7) + ((100 : Int32) * v8)) + ((10 : Int32) * v9)) + v10))) fun u3 =>
  mlet (v2 + (if s0 = 0 then (0 : Int32) else (1 : Int32))) fun u5 =>
  self24 u5 u3 (v6 + (1 : Int32))
set_option maxRecDepth 20000 in
set_option maxHeartbeats 4000000 in
theorem b_X9_countSwitches_113 {g : mG} {l : Launch} (hg : mnn g = 101) (N : Nat) (v1 : Int32) (v2 : Int32) (v3 : Int32) (v4 : Int32) (v5 : Int32) (v6 : Int32) (v7 : Int32) (v8 : Int32) (v9 : Int32) (v10 : Int32) (s0 : Int32) (h : mH) (self24 : Int32 → Int32 → Int32 → Option (Int32)) (hself24 : ∀ (v2 : Int32) (v3 : Int32) (v6 : Int32), mw g l 3 mX9_countSwitches (fun r : Int32 => (some (Value.int r), h)) 24 [(0, .ref (mad g 82)), (1, .int v1), (2, .int v2), (3, .int v3), (4, .int v4), (5, .int v5), (6, .int v6)] [] h (self24 v2 v3 v6)) : mw g l 3 mX9_countSwitches (fun r : Int32 => (some (Value.int r), h)) 113 [(0, .ref (mad g 82)), (1, .int v1), (2, .int v2), (3, .int v3), (4, .int v4), (5, .int v5), (6, .int v6), (7, .int v7), (8, .int v8), (9, .int v9), (10, .int v10)] [.int s0] h (x_X9_countSwitches_113 N self24 v1 v2 v3 v4 v5 v6 v7 v8 v9 v10 s0 h) := by
  unfold x_X9_countSwitches_113
  refine mw_istore (n := 115) dX9_countSwitches_113 rfl (by decide) rfl ?_
  refine mw_iload (n := 117) (q := 0) dX9_countSwitches_115 rfl rfl ?_
  refine mw_cutJ (pc' := 149) (lv' := [(11, .int s0), (0, .ref (mad g 82)), (1, .int v1), (2, .int v2), (3, .int v3), (4, .int v4), (5, .int v5), (6, .int v6), (7, .int v7), (8, .int v8), (9, .int v9), (10, .int v10)]) (st' := [.int (if s0 = 0 then v3 else (if ¬ v2 = 0 then v3 else (((((1000 : Int32) * v7) + ((100 : Int32) * v8)) + ((10 : Int32) * v9)) + v10)))]) (fun J => ?_) ?_
  · refine mw_if_eq_m (n := 120) (t := 148) dX9_countSwitches_117 rfl (by decide) (fun c1 => ?_) (fun c1 => ?_)
    · refine mw_iload_n (n := 149) (q := 4) dX9_countSwitches_148 rfl rfl rfl ?_
      exact mw_topeq (if_pos c1).symm J
    · refine mw_iload_n (n := 121) (q := 3) dX9_countSwitches_120 rfl rfl rfl ?_
      refine mw_if_ne_m (n := 124) (t := 148) dX9_countSwitches_121 rfl (by decide) (fun c2 => ?_) (fun c2 => ?_)
      · refine mw_iload_n (n := 149) (q := 4) dX9_countSwitches_148 rfl rfl rfl ?_
        exact mw_topeq ((if_neg c1).trans (if_pos c2)).symm J
      · refine mw_sipush (n := 127) (v := 1000) dX9_countSwitches_124 rfl (by decide) ?_
        refine mw_iload (n := 129) (q := 8) dX9_countSwitches_127 rfl rfl ?_
        refine mw_imul (n := 130) dX9_countSwitches_129 rfl ?_
        refine mw_bipush (n := 132) (v := 100) dX9_countSwitches_130 rfl (by decide) ?_
        refine mw_iload (n := 134) (q := 9) dX9_countSwitches_132 rfl rfl ?_
        refine mw_imul (n := 135) dX9_countSwitches_134 rfl ?_
        refine mw_iadd (n := 136) dX9_countSwitches_135 rfl ?_
        refine mw_bipush (n := 138) (v := 10) dX9_countSwitches_136 rfl (by decide) ?_
        refine mw_iload (n := 140) (q := 10) dX9_countSwitches_138 rfl rfl ?_
        refine mw_imul (n := 141) dX9_countSwitches_140 rfl ?_
        refine mw_iadd (n := 142) dX9_countSwitches_141 rfl ?_
        refine mw_iload (n := 144) (q := 11) dX9_countSwitches_142 rfl rfl ?_
        refine mw_iadd (n := 145) dX9_countSwitches_144 rfl ?_
        refine mw_goto (n := 149) dX9_countSwitches_145 (by decide) ?_
        exact mw_topeq ((if_neg c1).trans (if_neg c2)).symm J
  refine mw_letI (fun u3 => ?_)
  refine mw_istore_n (n := 150) dX9_countSwitches_149 rfl rfl (by decide) rfl ?_
  refine mw_iload_n (n := 151) (q := 4) dX9_countSwitches_150 rfl rfl rfl ?_
  refine mw_iload (n := 153) (q := 1) dX9_countSwitches_151 rfl rfl ?_
  refine mw_cutJ (pc' := 161) (lv' := [(3, .int u3), (11, .int s0), (0, .ref (mad g 82)), (1, .int v1), (2, .int v2), (4, .int v4), (5, .int v5), (6, .int v6), (7, .int v7), (8, .int v8), (9, .int v9), (10, .int v10)]) (st' := [.int (if s0 = 0 then (0 : Int32) else (1 : Int32)), .int v2]) (fun J => ?_) ?_
  · refine mw_if_eq_m (n := 156) (t := 160) dX9_countSwitches_153 rfl (by decide) (fun c4 => ?_) (fun c4 => ?_)
    · refine mw_iconst (n := 161) (v := 0) dX9_countSwitches_160 rfl (by decide) ?_
      exact mw_topeq (if_pos c4).symm J
    · refine mw_iconst (n := 157) (v := 1) dX9_countSwitches_156 rfl (by decide) ?_
      refine mw_goto (n := 161) dX9_countSwitches_157 (by decide) ?_
      exact mw_topeq (if_neg c4).symm J
  refine mw_iadd (n := 162) dX9_countSwitches_161 rfl ?_
  refine mw_letI (fun u5 => ?_)
  refine mw_istore_n (n := 163) dX9_countSwitches_162 rfl rfl (by decide) rfl ?_
  refine mw_iinc (n := 166) (q := 7) (v := (v6 + (1 : Int32))) dX9_countSwitches_163 rfl rfl rfl (by decide) rfl ?_
  refine mw_goto (n := 24) dX9_countSwitches_166 (by decide) ?_
  refine mw_sub [4, 5, 1, 2, 6, 7, 0] rfl ?_
  exact hself24 u5 u3 (v6 + (1 : Int32))
noncomputable def x_X9_countSwitches_112 (N : Nat) (self24 : Int32 → Int32 → Int32 → Option (Int32)) (v1 : Int32) (v2 : Int32) (v3 : Int32) (v4 : Int32) (v5 : Int32) (v6 : Int32) (v7 : Int32) (v8 : Int32) (v9 : Int32) (v10 : Int32) (h : mH) : Option (Int32) :=
  x_X9_countSwitches_113 N self24 v1 v2 v3 v4 v5 v6 v7 v8 v9 v10 (0 : Int32) h
set_option maxRecDepth 20000 in
set_option maxHeartbeats 4000000 in
theorem b_X9_countSwitches_112 {g : mG} {l : Launch} (hg : mnn g = 101) (N : Nat) (v1 : Int32) (v2 : Int32) (v3 : Int32) (v4 : Int32) (v5 : Int32) (v6 : Int32) (v7 : Int32) (v8 : Int32) (v9 : Int32) (v10 : Int32) (h : mH) (self24 : Int32 → Int32 → Int32 → Option (Int32)) (hself24 : ∀ (v2 : Int32) (v3 : Int32) (v6 : Int32), mw g l 3 mX9_countSwitches (fun r : Int32 => (some (Value.int r), h)) 24 [(0, .ref (mad g 82)), (1, .int v1), (2, .int v2), (3, .int v3), (4, .int v4), (5, .int v5), (6, .int v6)] [] h (self24 v2 v3 v6)) : mw g l 3 mX9_countSwitches (fun r : Int32 => (some (Value.int r), h)) 112 [(0, .ref (mad g 82)), (1, .int v1), (2, .int v2), (3, .int v3), (4, .int v4), (5, .int v5), (6, .int v6), (7, .int v7), (8, .int v8), (9, .int v9), (10, .int v10)] [] h (x_X9_countSwitches_112 N self24 v1 v2 v3 v4 v5 v6 v7 v8 v9 v10 h) := by
  unfold x_X9_countSwitches_112
  refine mw_iconst (n := 113) (v := 0) dX9_countSwitches_112 rfl (by decide) ?_
  exact b_X9_countSwitches_113 hg N v1 v2 v3 v4 v5 v6 v7 v8 v9 v10 (0 : Int32) h self24 hself24
noncomputable def x_X9_countSwitches_24 (N : Nat) (v1 : Int32) (v4 : Int32) (v5 : Int32) (h : mH) (f : Nat) : Int32 → Int32 → Int32 → Option (Int32) :=
  Nat.rec (motive := fun _ => Int32 → Int32 → Int32 → Option (Int32)) (fun _ _ _ => none) (fun _ self24 => fun v2 v3 v6 => 
    if (((v4 * v4) * v5) * v5) ≤ v6 then
      some (if ¬ v1 = 0 then v3 else v2)
    else
      mzd ((v4 * v5) * v5) <|
      mlet (v6 / ((v4 * v5) * v5)) fun u3 =>
      mzd (v5 * v5) <|
      mzd v4 <|
      mlet (xrem (v6 / (v5 * v5)) v4) fun u4 =>
      mzd v5 <|
      mzd v5 <|
      mlet (xrem (v6 / v5) v5) fun u5 =>
      mzd v5 <|
      mlet (xrem v6 v5) fun u6 =>
      if u4 ≤ u3 then
        x_X9_countSwitches_112 N self24 v1 v2 v3 v4 v5 v6 u3 u4 u5 u6 h
      else
        (x_X9_four 85 u3 u4 u5 u6 h).bind fun q8 =>
        mlet (if q8 = 0 then (0 : Int32) else (1 : Int32)) fun u10 =>
        mlet (if u10 = 0 then v3 else (if ¬ v2 = 0 then v3 else (((((1000 : Int32) * u3) + ((100 : Int32) * u4)) + ((10 : Int32) * u5)) + u6))) fun u13 =>
        mlet (v2 + (if u10 = 0 then (0 : Int32) else (1 : Int32))) fun u15 =>
        self24 u15 u13 (v6 + (1 : Int32))) f
theorem x_X9_countSwitches_24_0 (N : Nat) (v1 : Int32) (v4 : Int32) (v5 : Int32) (h : mH) (v2 : Int32) (v3 : Int32) (v6 : Int32) : x_X9_countSwitches_24 N v1 v4 v5 h 0 v2 v3 v6 = none := rfl
theorem x_X9_countSwitches_24_s (N : Nat) (v1 : Int32) (v4 : Int32) (v5 : Int32) (h : mH) (f : Nat) (v2 : Int32) (v3 : Int32) (v6 : Int32) : x_X9_countSwitches_24 N v1 v4 v5 h (f + 1) v2 v3 v6 = (
    if (((v4 * v4) * v5) * v5) ≤ v6 then
      some (if ¬ v1 = 0 then v3 else v2)
    else
      mzd ((v4 * v5) * v5) <|
      mlet (v6 / ((v4 * v5) * v5)) fun u3 =>
      mzd (v5 * v5) <|
      mzd v4 <|
      mlet (xrem (v6 / (v5 * v5)) v4) fun u4 =>
      mzd v5 <|
      mzd v5 <|
      mlet (xrem (v6 / v5) v5) fun u5 =>
      mzd v5 <|
      mlet (xrem v6 v5) fun u6 =>
      if u4 ≤ u3 then
        x_X9_countSwitches_112 N (x_X9_countSwitches_24 N v1 v4 v5 h f) v1 v2 v3 v4 v5 v6 u3 u4 u5 u6 h
      else
        (x_X9_four 85 u3 u4 u5 u6 h).bind fun q8 =>
        mlet (if q8 = 0 then (0 : Int32) else (1 : Int32)) fun u10 =>
        mlet (if u10 = 0 then v3 else (if ¬ v2 = 0 then v3 else (((((1000 : Int32) * u3) + ((100 : Int32) * u4)) + ((10 : Int32) * u5)) + u6))) fun u13 =>
        mlet (v2 + (if u10 = 0 then (0 : Int32) else (1 : Int32))) fun u15 =>
        (x_X9_countSwitches_24 N v1 v4 v5 h f) u15 u13 (v6 + (1 : Int32))) := rfl
set_option maxRecDepth 20000 in
set_option maxHeartbeats 4000000 in
theorem b_X9_countSwitches_24 {g : mG} {l : Launch} (hg : mnn g = 101) (N : Nat) (v1 : Int32) (v4 : Int32) (v5 : Int32) (h : mH) (f : Nat) : ∀ (v2 : Int32) (v3 : Int32) (v6 : Int32), mw g l 3 mX9_countSwitches (fun r : Int32 => (some (Value.int r), h)) 24 [(0, .ref (mad g 82)), (1, .int v1), (2, .int v2), (3, .int v3), (4, .int v4), (5, .int v5), (6, .int v6)] [] h (x_X9_countSwitches_24 N v1 v4 v5 h f v2 v3 v6) := by
  induction f with
  | zero => intros; exact mw_none
  | succ f hself24 =>
    intro v2 v3 v6
    refine mw_eq (x_X9_countSwitches_24_s N v1 v4 v5 h f v2 v3 v6) ?_
    generalize x_X9_countSwitches_24 N v1 v4 v5 h f = self24 at hself24 ⊢
    refine mw_iload (n := 26) (q := 6) dX9_countSwitches_24 rfl rfl ?_
    refine mw_iload (n := 28) (q := 4) dX9_countSwitches_26 rfl rfl ?_
    refine mw_iload (n := 30) (q := 4) dX9_countSwitches_28 rfl rfl ?_
    refine mw_imul (n := 31) dX9_countSwitches_30 rfl ?_
    refine mw_iload (n := 33) (q := 5) dX9_countSwitches_31 rfl rfl ?_
    refine mw_imul (n := 34) dX9_countSwitches_33 rfl ?_
    refine mw_iload (n := 36) (q := 5) dX9_countSwitches_34 rfl rfl ?_
    refine mw_imul (n := 37) dX9_countSwitches_36 rfl ?_
    refine mw_icmp_ge (n := 40) (t := 169) dX9_countSwitches_37 rfl (by decide) Iff.rfl (fun c1 => ?_) (fun c1 => ?_)
    · refine mw_iload_n (n := 170) (q := 1) dX9_countSwitches_169 rfl rfl rfl ?_
      refine mw_cutJ (pc' := 178) (lv' := [(0, .ref (mad g 82)), (1, .int v1), (2, .int v2), (3, .int v3), (4, .int v4), (5, .int v5), (6, .int v6)]) (st' := [.int (if ¬ v1 = 0 then v3 else v2)]) (fun J => ?_) ?_
      · refine mw_if_ne_m (n := 173) (t := 177) dX9_countSwitches_170 rfl (by decide) (fun c2 => ?_) (fun c2 => ?_)
        · refine mw_iload_n (n := 178) (q := 3) dX9_countSwitches_177 rfl rfl rfl ?_
          exact mw_topeq (if_pos c2).symm J
        · refine mw_iload_n (n := 174) (q := 2) dX9_countSwitches_173 rfl rfl rfl ?_
          refine mw_goto (n := 178) dX9_countSwitches_174 (by decide) ?_
          exact mw_topeq (if_neg c2).symm J
      exact mw_iret dX9_countSwitches_178 rfl rfl
    · refine mw_iload (n := 42) (q := 6) dX9_countSwitches_40 rfl rfl ?_
      refine mw_iload (n := 44) (q := 4) dX9_countSwitches_42 rfl rfl ?_
      refine mw_iload (n := 46) (q := 5) dX9_countSwitches_44 rfl rfl ?_
      refine mw_imul (n := 47) dX9_countSwitches_46 rfl ?_
      refine mw_iload (n := 49) (q := 5) dX9_countSwitches_47 rfl rfl ?_
      refine mw_imul (n := 50) dX9_countSwitches_49 rfl ?_
      refine mw_idivC (n := 51) dX9_countSwitches_50 rfl ?_
      refine mw_letI (fun u3 => ?_)
      refine mw_istore (n := 53) dX9_countSwitches_51 rfl (by decide) rfl ?_
      refine mw_iload (n := 55) (q := 7) dX9_countSwitches_53 rfl rfl ?_
      refine mw_iload (n := 57) (q := 6) dX9_countSwitches_55 rfl rfl ?_
      refine mw_iload (n := 59) (q := 6) dX9_countSwitches_57 rfl rfl ?_
      refine mw_imul (n := 60) dX9_countSwitches_59 rfl ?_
      refine mw_idivC (n := 61) dX9_countSwitches_60 rfl ?_
      refine mw_iload (n := 63) (q := 5) dX9_countSwitches_61 rfl rfl ?_
      refine mw_iremC (n := 64) dX9_countSwitches_63 rfl ?_
      refine mw_letI (fun u4 => ?_)
      refine mw_istore (n := 66) dX9_countSwitches_64 rfl (by decide) rfl ?_
      refine mw_iload (n := 68) (q := 8) dX9_countSwitches_66 rfl rfl ?_
      refine mw_iload (n := 70) (q := 7) dX9_countSwitches_68 rfl rfl ?_
      refine mw_idivC (n := 71) dX9_countSwitches_70 rfl ?_
      refine mw_iload (n := 73) (q := 7) dX9_countSwitches_71 rfl rfl ?_
      refine mw_iremC (n := 74) dX9_countSwitches_73 rfl ?_
      refine mw_letI (fun u5 => ?_)
      refine mw_istore (n := 76) dX9_countSwitches_74 rfl (by decide) rfl ?_
      refine mw_iload (n := 78) (q := 9) dX9_countSwitches_76 rfl rfl ?_
      refine mw_iload (n := 80) (q := 8) dX9_countSwitches_78 rfl rfl ?_
      refine mw_iremC (n := 81) dX9_countSwitches_80 rfl ?_
      refine mw_letI (fun u6 => ?_)
      refine mw_istore (n := 83) dX9_countSwitches_81 rfl (by decide) rfl ?_
      refine mw_iload (n := 85) (q := 3) dX9_countSwitches_83 rfl rfl ?_
      refine mw_iload (n := 87) (q := 2) dX9_countSwitches_85 rfl rfl ?_
      refine mw_icmp_ge (n := 90) (t := 112) dX9_countSwitches_87 rfl (by decide) Iff.rfl (fun c7 => ?_) (fun c7 => ?_)
      · refine mw_sub [4, 5, 6, 7, 8, 9, 10, 3, 2, 1, 0] rfl ?_
        exact b_X9_countSwitches_112 hg N v1 v2 v3 v4 v5 v6 u3 u4 u5 u6 h self24 hself24
      · refine mw_aload_n (n := 91) (q := 4) dX9_countSwitches_90 rfl rfl rfl ?_
        refine mw_getr (n := 94) (a := 82) (k := 4) cl9 (mkm hg (by decide) (by rfl)) (by decide) rfl rfl fl_X9_16 dX9_countSwitches_91 rfl ?_
        refine mw_iload (n := 96) (q := 3) dX9_countSwitches_94 rfl rfl ?_
        refine mw_iload (n := 98) (q := 2) dX9_countSwitches_96 rfl rfl ?_
        refine mw_iload (n := 100) (q := 1) dX9_countSwitches_98 rfl rfl ?_
        refine mw_iload (n := 102) (q := 0) dX9_countSwitches_100 rfl rfl ?_
        refine mw_callS (n := 105) (As := [.ref (mad g 85), .int u3, .int u4, .int u5, .int u6]) (t_X9_four hg 85 u3 u4 u5 u6 (mkm hg (by decide) (by rfl)) h) (by decide) ok_X9_four rfl lk_X9_195 sm_X9_four dX9_countSwitches_102 rfl rfl (Nat.le_of_ble_eq_true rfl) (fun q8 _ => ?_)
        show mw g l _ _ _ 105 _ [.int q8] h _
        refine mw_cutJ (pc' := 113) (lv' := [(10, .int u6), (9, .int u5), (8, .int u4), (7, .int u3), (0, .ref (mad g 82)), (1, .int v1), (2, .int v2), (3, .int v3), (4, .int v4), (5, .int v5), (6, .int v6)]) (st' := [.int (if q8 = 0 then (0 : Int32) else (1 : Int32))]) (fun J => ?_) ?_
        · refine mw_if_eq_m (n := 108) (t := 112) dX9_countSwitches_105 rfl (by decide) (fun c9 => ?_) (fun c9 => ?_)
          · refine mw_iconst (n := 113) (v := 0) dX9_countSwitches_112 rfl (by decide) ?_
            exact mw_topeq (if_pos c9).symm J
          · refine mw_iconst (n := 109) (v := 1) dX9_countSwitches_108 rfl (by decide) ?_
            refine mw_goto (n := 113) dX9_countSwitches_109 (by decide) ?_
            exact mw_topeq (if_neg c9).symm J
        refine mw_letI (fun u10 => ?_)
        refine mw_istore (n := 115) dX9_countSwitches_113 rfl (by decide) rfl ?_
        refine mw_iload (n := 117) (q := 0) dX9_countSwitches_115 rfl rfl ?_
        refine mw_cutJ (pc' := 149) (lv' := [(11, .int u10), (10, .int u6), (9, .int u5), (8, .int u4), (7, .int u3), (0, .ref (mad g 82)), (1, .int v1), (2, .int v2), (3, .int v3), (4, .int v4), (5, .int v5), (6, .int v6)]) (st' := [.int (if u10 = 0 then v3 else (if ¬ v2 = 0 then v3 else (((((1000 : Int32) * u3) + ((100 : Int32) * u4)) + ((10 : Int32) * u5)) + u6)))]) (fun J => ?_) ?_
        · refine mw_if_eq_m (n := 120) (t := 148) dX9_countSwitches_117 rfl (by decide) (fun c11 => ?_) (fun c11 => ?_)
          · refine mw_iload_n (n := 149) (q := 8) dX9_countSwitches_148 rfl rfl rfl ?_
            exact mw_topeq (if_pos c11).symm J
          · refine mw_iload_n (n := 121) (q := 7) dX9_countSwitches_120 rfl rfl rfl ?_
            refine mw_if_ne_m (n := 124) (t := 148) dX9_countSwitches_121 rfl (by decide) (fun c12 => ?_) (fun c12 => ?_)
            · refine mw_iload_n (n := 149) (q := 8) dX9_countSwitches_148 rfl rfl rfl ?_
              exact mw_topeq ((if_neg c11).trans (if_pos c12)).symm J
            · refine mw_sipush (n := 127) (v := 1000) dX9_countSwitches_124 rfl (by decide) ?_
              refine mw_iload (n := 129) (q := 4) dX9_countSwitches_127 rfl rfl ?_
              refine mw_imul (n := 130) dX9_countSwitches_129 rfl ?_
              refine mw_bipush (n := 132) (v := 100) dX9_countSwitches_130 rfl (by decide) ?_
              refine mw_iload (n := 134) (q := 3) dX9_countSwitches_132 rfl rfl ?_
              refine mw_imul (n := 135) dX9_countSwitches_134 rfl ?_
              refine mw_iadd (n := 136) dX9_countSwitches_135 rfl ?_
              refine mw_bipush (n := 138) (v := 10) dX9_countSwitches_136 rfl (by decide) ?_
              refine mw_iload (n := 140) (q := 2) dX9_countSwitches_138 rfl rfl ?_
              refine mw_imul (n := 141) dX9_countSwitches_140 rfl ?_
              refine mw_iadd (n := 142) dX9_countSwitches_141 rfl ?_
              refine mw_iload (n := 144) (q := 1) dX9_countSwitches_142 rfl rfl ?_
              refine mw_iadd (n := 145) dX9_countSwitches_144 rfl ?_
              refine mw_goto (n := 149) dX9_countSwitches_145 (by decide) ?_
              exact mw_topeq ((if_neg c11).trans (if_neg c12)).symm J
        refine mw_letI (fun u13 => ?_)
        refine mw_istore_n (n := 150) dX9_countSwitches_149 rfl rfl (by decide) rfl ?_
        refine mw_iload_n (n := 151) (q := 8) dX9_countSwitches_150 rfl rfl rfl ?_
        refine mw_iload (n := 153) (q := 1) dX9_countSwitches_151 rfl rfl ?_
        refine mw_cutJ (pc' := 161) (lv' := [(3, .int u13), (11, .int u10), (10, .int u6), (9, .int u5), (8, .int u4), (7, .int u3), (0, .ref (mad g 82)), (1, .int v1), (2, .int v2), (4, .int v4), (5, .int v5), (6, .int v6)]) (st' := [.int (if u10 = 0 then (0 : Int32) else (1 : Int32)), .int v2]) (fun J => ?_) ?_
        · refine mw_if_eq_m (n := 156) (t := 160) dX9_countSwitches_153 rfl (by decide) (fun c14 => ?_) (fun c14 => ?_)
          · refine mw_iconst (n := 161) (v := 0) dX9_countSwitches_160 rfl (by decide) ?_
            exact mw_topeq (if_pos c14).symm J
          · refine mw_iconst (n := 157) (v := 1) dX9_countSwitches_156 rfl (by decide) ?_
            refine mw_goto (n := 161) dX9_countSwitches_157 (by decide) ?_
            exact mw_topeq (if_neg c14).symm J
        refine mw_iadd (n := 162) dX9_countSwitches_161 rfl ?_
        refine mw_letI (fun u15 => ?_)
        refine mw_istore_n (n := 163) dX9_countSwitches_162 rfl rfl (by decide) rfl ?_
        refine mw_iinc (n := 166) (q := 11) (v := (v6 + (1 : Int32))) dX9_countSwitches_163 rfl rfl rfl (by decide) rfl ?_
        refine mw_goto (n := 24) dX9_countSwitches_166 (by decide) ?_
        refine mw_sub [8, 9, 1, 2, 10, 11, 0] rfl ?_
        exact hself24 u15 u13 (v6 + (1 : Int32))
noncomputable def x_X9_countSwitches (N : Nat) (p0 : Int32) (h : mH) : Option (Int32) :=
  mlet (mgi h 85 0) fun u1 =>
  mlet (mgi h 85 1) fun u2 =>
  x_X9_countSwitches_24 N p0 u1 u2 h N (0 : Int32) (-9 : Int32) (0 : Int32)
set_option maxRecDepth 20000 in
set_option maxHeartbeats 4000000 in
theorem t_X9_countSwitches {g : mG} {l : Launch} (hg : mnn g = 101) (N : Nat) (p0 : Int32) (h : mH) : mf g l 3 mX9_countSwitches (fun r : Int32 => (some (Value.int r), h)) [.ref (mad g 82), .int p0] h (x_X9_countSwitches N p0 h) := by
  refine mf_of (by decide) (Nat.le_of_ble_eq_true rfl) ?_
  show mw g l 3 mX9_countSwitches (fun r : Int32 => (some (Value.int r), h)) 0 [(0, .ref (mad g 82)), (1, .int p0)] [] h _
  unfold x_X9_countSwitches
  refine mw_iconst (n := 1) (v := 0) dX9_countSwitches_0 rfl (by decide) ?_
  refine mw_istore_n (n := 2) dX9_countSwitches_1 rfl rfl (by decide) rfl ?_
  refine mw_bipush (n := 4) (v := -9) dX9_countSwitches_2 rfl (by decide) ?_
  refine mw_istore_n (n := 5) dX9_countSwitches_4 rfl rfl (by decide) rfl ?_
  refine mw_aload_n (n := 6) (q := 2) dX9_countSwitches_5 rfl rfl rfl ?_
  refine mw_getr (n := 9) (a := 82) (k := 4) cl9 (mkm hg (by decide) (by rfl)) (by decide) rfl rfl fl_X9_16 dX9_countSwitches_6 rfl ?_
  refine mw_iconst (n := 10) (v := 0) dX9_countSwitches_9 rfl (by decide) ?_
  refine mw_iaLd (n := 11) (a := 85) (j := 0) (N := 32) (mkm hg (by decide) (by rfl)) (by decide) (by decide) dX9_countSwitches_10 rfl ?_
  refine mw_letI (fun u1 => ?_)
  refine mw_istore (n := 13) dX9_countSwitches_11 rfl (by decide) rfl ?_
  refine mw_aload_n (n := 14) (q := 3) dX9_countSwitches_13 rfl rfl rfl ?_
  refine mw_getr (n := 17) (a := 82) (k := 4) cl9 (mkm hg (by decide) (by rfl)) (by decide) rfl rfl fl_X9_16 dX9_countSwitches_14 rfl ?_
  refine mw_iconst (n := 18) (v := 1) dX9_countSwitches_17 rfl (by decide) ?_
  refine mw_iaLd (n := 19) (a := 85) (j := 1) (N := 32) (mkm hg (by decide) (by rfl)) (by decide) (by decide) dX9_countSwitches_18 rfl ?_
  refine mw_letI (fun u2 => ?_)
  refine mw_istore (n := 21) dX9_countSwitches_19 rfl (by decide) rfl ?_
  refine mw_iconst (n := 22) (v := 0) dX9_countSwitches_21 rfl (by decide) ?_
  refine mw_istore (n := 24) dX9_countSwitches_22 rfl (by decide) rfl ?_
  refine mw_sub [5, 6, 4, 3, 2, 1, 0] rfl ?_
  exact b_X9_countSwitches_24 hg N p0 u1 u2 h N (0 : Int32) (-9 : Int32) (0 : Int32)
noncomputable def x_X9_swap (N : Nat) (p0 : Int32) (p1 : Int32) (p2 : Int32) (p3 : Int32) (h : mH) : Option (Int32 × mH) :=
  mlet (msi h 82 0 (0 : Int32)) fun h1 =>
  (x_X9_noLine (0 : Int32) p0 h1).bind fun q2 =>
  if ¬ q2 = 0 then
    some ((-1 : Int32), h1)
  else
    (x_X9_noLine (0 : Int32) p1 h1).bind fun q4 =>
    if ¬ q4 = 0 then
      some ((-1 : Int32), h1)
    else
      (x_X9_noLine (1 : Int32) p2 h1).bind fun q6 =>
      if ¬ q6 = 0 then
        some ((-1 : Int32), h1)
      else
        (x_X9_noLine (1 : Int32) p3 h1).bind fun q8 =>
        if q8 = 0 then
          (x_X9_four 85 p0 p1 p2 p3 h1).bind fun q10 =>
          if ¬ q10 = 0 then
            (x_X9_note N h1).bind fun q12 =>
            mlet (msi q12 85 31 ((mgi q12 85 31) ^^^ q10)) fun h13 =>
            (x_X9_countSwitches N (0 : Int32) h13).bind fun q14 =>
            some (q14, h13)
          else
            some ((-3 : Int32), h1)
        else
          some ((-1 : Int32), h1)
set_option maxRecDepth 20000 in
set_option maxHeartbeats 4000000 in
theorem t_X9_swap {g : mG} {l : Launch} (hg : mnn g = 101) (N : Nat) (p0 : Int32) (p1 : Int32) (p2 : Int32) (p3 : Int32) (h : mH) : mf g l 4 mX9_swap (fun r : Int32 × mH => (some (Value.int r.1), r.2)) [.ref (mad g 82), .int p0, .int p1, .int p2, .int p3] h (x_X9_swap N p0 p1 p2 p3 h) := by
  refine mf_of (by decide) (Nat.le_of_ble_eq_true rfl) ?_
  show mw g l 4 mX9_swap (fun r : Int32 × mH => (some (Value.int r.1), r.2)) 0 [(0, .ref (mad g 82)), (1, .int p0), (2, .int p1), (3, .int p2), (4, .int p3)] [] h _
  unfold x_X9_swap
  refine mw_aload_n (n := 1) (q := 0) dX9_swap_0 rfl rfl rfl ?_
  refine mw_iconst (n := 2) (v := 0) dX9_swap_1 rfl (by decide) ?_
  refine mw_puti (n := 5) (a := 82) (k := 0) cl9 ct9 (mkm hg (by decide) (by rfl)) (by decide) rfl rfl rfl rfl fl_X9_65 dX9_swap_2 rfl (mw_leth (fun h1 => ?_))
  refine mw_aload_n (n := 6) (q := 0) dX9_swap_5 rfl rfl rfl ?_
  refine mw_iconst (n := 7) (v := 0) dX9_swap_6 rfl (by decide) ?_
  refine mw_iload_n (n := 8) (q := 1) dX9_swap_7 rfl rfl rfl ?_
  refine mw_callV (n := 11) (a := 82) (As := [.int (0 : Int32), .int p0]) cl9 (mkm hg (by decide) (by rfl)) (t_X9_noLine hg (0 : Int32) p0 h1) (by decide) ok_X9_noLine rfl rfl lk_X9_140 im_X9_noLine se_X9_noLine dX9_swap_8 rfl rfl (Nat.le_of_ble_eq_true rfl) (fun q2 _ => ?_)
  show mw g l _ _ _ 11 _ [.int q2] h1 _
  refine mw_if_ne (n := 14) (t := 42) dX9_swap_11 rfl (by decide) Iff.rfl (fun c3 => ?_) (fun c3 => ?_)
  · refine mw_iconst (n := 43) (v := -1) dX9_swap_42 rfl (by decide) ?_
    exact mw_iret dX9_swap_43 rfl rfl
  · refine mw_aload_n (n := 15) (q := 0) dX9_swap_14 rfl rfl rfl ?_
    refine mw_iconst (n := 16) (v := 0) dX9_swap_15 rfl (by decide) ?_
    refine mw_iload_n (n := 17) (q := 2) dX9_swap_16 rfl rfl rfl ?_
    refine mw_callV (n := 20) (a := 82) (As := [.int (0 : Int32), .int p1]) cl9 (mkm hg (by decide) (by rfl)) (t_X9_noLine hg (0 : Int32) p1 h1) (by decide) ok_X9_noLine rfl rfl lk_X9_140 im_X9_noLine se_X9_noLine dX9_swap_17 rfl rfl (Nat.le_of_ble_eq_true rfl) (fun q4 _ => ?_)
    show mw g l _ _ _ 20 _ [.int q4] h1 _
    refine mw_if_ne (n := 23) (t := 42) dX9_swap_20 rfl (by decide) Iff.rfl (fun c5 => ?_) (fun c5 => ?_)
    · refine mw_iconst (n := 43) (v := -1) dX9_swap_42 rfl (by decide) ?_
      exact mw_iret dX9_swap_43 rfl rfl
    · refine mw_aload_n (n := 24) (q := 0) dX9_swap_23 rfl rfl rfl ?_
      refine mw_iconst (n := 25) (v := 1) dX9_swap_24 rfl (by decide) ?_
      refine mw_iload_n (n := 26) (q := 3) dX9_swap_25 rfl rfl rfl ?_
      refine mw_callV (n := 29) (a := 82) (As := [.int (1 : Int32), .int p2]) cl9 (mkm hg (by decide) (by rfl)) (t_X9_noLine hg (1 : Int32) p2 h1) (by decide) ok_X9_noLine rfl rfl lk_X9_140 im_X9_noLine se_X9_noLine dX9_swap_26 rfl rfl (Nat.le_of_ble_eq_true rfl) (fun q6 _ => ?_)
      show mw g l _ _ _ 29 _ [.int q6] h1 _
      refine mw_if_ne (n := 32) (t := 42) dX9_swap_29 rfl (by decide) Iff.rfl (fun c7 => ?_) (fun c7 => ?_)
      · refine mw_iconst (n := 43) (v := -1) dX9_swap_42 rfl (by decide) ?_
        exact mw_iret dX9_swap_43 rfl rfl
      · refine mw_aload_n (n := 33) (q := 0) dX9_swap_32 rfl rfl rfl ?_
        refine mw_iconst (n := 34) (v := 1) dX9_swap_33 rfl (by decide) ?_
        refine mw_iload (n := 36) (q := 4) dX9_swap_34 rfl rfl ?_
        refine mw_callV (n := 39) (a := 82) (As := [.int (1 : Int32), .int p3]) cl9 (mkm hg (by decide) (by rfl)) (t_X9_noLine hg (1 : Int32) p3 h1) (by decide) ok_X9_noLine rfl rfl lk_X9_140 im_X9_noLine se_X9_noLine dX9_swap_36 rfl rfl (Nat.le_of_ble_eq_true rfl) (fun q8 _ => ?_)
        show mw g l _ _ _ 39 _ [.int q8] h1 _
        refine mw_if_eq (n := 42) (t := 44) dX9_swap_39 rfl (by decide) Iff.rfl (fun c9 => ?_) (fun c9 => ?_)
        · refine mw_aload_n (n := 45) (q := 0) dX9_swap_44 rfl rfl rfl ?_
          refine mw_getr (n := 48) (a := 82) (k := 4) cl9 (mkm hg (by decide) (by rfl)) (by decide) rfl rfl fl_X9_16 dX9_swap_45 rfl ?_
          refine mw_iload_n (n := 49) (q := 1) dX9_swap_48 rfl rfl rfl ?_
          refine mw_iload_n (n := 50) (q := 2) dX9_swap_49 rfl rfl rfl ?_
          refine mw_iload_n (n := 51) (q := 3) dX9_swap_50 rfl rfl rfl ?_
          refine mw_iload (n := 53) (q := 4) dX9_swap_51 rfl rfl ?_
          refine mw_callS (n := 56) (As := [.ref (mad g 85), .int p0, .int p1, .int p2, .int p3]) (t_X9_four hg 85 p0 p1 p2 p3 (mkm hg (by decide) (by rfl)) h1) (by decide) ok_X9_four rfl lk_X9_195 sm_X9_four dX9_swap_53 rfl rfl (Nat.le_of_ble_eq_true rfl) (fun q10 _ => ?_)
          show mw g l _ _ _ 56 _ [.int q10] h1 _
          refine mw_istore (n := 58) dX9_swap_56 rfl (by decide) rfl ?_
          refine mw_iload (n := 60) (q := 0) dX9_swap_58 rfl rfl ?_
          refine mw_if_ne (n := 63) (t := 66) dX9_swap_60 rfl (by decide) Iff.rfl (fun c11 => ?_) (fun c11 => ?_)
          · refine mw_aload_n (n := 67) (q := 1) dX9_swap_66 rfl rfl rfl ?_
            refine mw_callV (n := 70) (a := 82) (As := []) cl9 (mkm hg (by decide) (by rfl)) (t_X9_note hg N h1) (by decide) ok_X9_note rfl rfl lk_X9_189 im_X9_note se_X9_note dX9_swap_67 rfl rfl (Nat.le_of_ble_eq_true rfl) (fun q12 _ => ?_)
            show mw g l _ _ _ 70 _ [] q12 _
            refine mw_aload_n (n := 71) (q := 1) dX9_swap_70 rfl rfl rfl ?_
            refine mw_getr (n := 74) (a := 82) (k := 4) cl9 (mkm hg (by decide) (by rfl)) (by decide) rfl rfl fl_X9_16 dX9_swap_71 rfl ?_
            refine mw_bipush (n := 76) (v := 31) dX9_swap_74 rfl (by decide) ?_
            refine mw_dup2 (n := 77) dX9_swap_76 rfl rfl rfl ?_
            refine mw_iaLd (n := 78) (a := 85) (j := 31) (N := 32) (mkm hg (by decide) (by rfl)) (by decide) (by decide) dX9_swap_77 rfl ?_
            refine mw_iload (n := 80) (q := 0) dX9_swap_78 rfl rfl ?_
            refine mw_ixor (n := 81) dX9_swap_80 rfl ?_
            refine mw_iaSt (n := 82) (a := 85) (j := 31) (N := 32) (mkm hg (by decide) (by rfl)) (by decide) (by decide) dX9_swap_81 rfl (mw_leth (fun h13 => ?_))
            refine mw_aload_n (n := 83) (q := 1) dX9_swap_82 rfl rfl rfl ?_
            refine mw_iconst (n := 84) (v := 0) dX9_swap_83 rfl (by decide) ?_
            refine mw_callV (n := 87) (a := 82) (As := [.int (0 : Int32)]) cl9 (mkm hg (by decide) (by rfl)) (t_X9_countSwitches hg N (0 : Int32) h13) (by decide) ok_X9_countSwitches rfl rfl lk_X9_199 im_X9_countSwitches se_X9_countSwitches dX9_swap_84 rfl rfl (Nat.le_of_ble_eq_true rfl) (fun q14 _ => ?_)
            show mw g l _ _ _ 87 _ [.int q14] h13 _
            exact mw_iret dX9_swap_87 rfl rfl
          · refine mw_bipush (n := 65) (v := -3) dX9_swap_63 rfl (by decide) ?_
            exact mw_iret dX9_swap_65 rfl rfl
        · refine mw_iconst (n := 43) (v := -1) dX9_swap_42 rfl (by decide) ?_
          exact mw_iret dX9_swap_43 rfl rfl
noncomputable def x_X9_setTotal (N : Nat) (p0 : Int32) (p1 : Int32) (p2 : Int32) (h : mH) : Option (Int32 × mH) :=
  mlet (msi h 82 0 (0 : Int32)) fun h1 =>
  (x_X9_in ((p0).toInt64) (0 : Int64) (1 : Int64)).bind fun q2 =>
  if ¬ q2 = 0 then
    (x_X9_noLine p0 p1 h1).bind fun q4 =>
    if q4 = 0 then
      mck ((1 : Int32) - p0) 32 <|
      (x_X9_in ((p2).toInt64) (0 : Int64) (((mgi h1 85 (((1 : Int32) - p0)).toNatClampNeg)).toInt64)).bind fun q6 =>
      if ¬ q6 = 0 then
        (x_X9_note N h1).bind fun q8 =>
        (x_X9_totalAt p0 p1).bind fun q9 =>
        mck q9 32 <|
        mlet (msi q8 85 (q9).toNatClampNeg p2) fun h10 =>
        (x_X9_settle N 85 h10).bind fun q11 =>
        some ((mgi q11 82 17), q11)
      else
        some ((-2 : Int32), h1)
    else
      some ((-1 : Int32), h1)
  else
    some ((-2 : Int32), h1)
set_option maxRecDepth 20000 in
set_option maxHeartbeats 4000000 in
theorem t_X9_setTotal {g : mG} {l : Launch} (hg : mnn g = 101) (N : Nat) (p0 : Int32) (p1 : Int32) (p2 : Int32) (h : mH) : mf g l 4 mX9_setTotal (fun r : Int32 × mH => (some (Value.int r.1), r.2)) [.ref (mad g 82), .int p0, .int p1, .int p2] h (x_X9_setTotal N p0 p1 p2 h) := by
  refine mf_of (by decide) (Nat.le_of_ble_eq_true rfl) ?_
  show mw g l 4 mX9_setTotal (fun r : Int32 × mH => (some (Value.int r.1), r.2)) 0 [(0, .ref (mad g 82)), (1, .int p0), (2, .int p1), (3, .int p2)] [] h _
  unfold x_X9_setTotal
  refine mw_aload_n (n := 1) (q := 0) dX9_setTotal_0 rfl rfl rfl ?_
  refine mw_iconst (n := 2) (v := 0) dX9_setTotal_1 rfl (by decide) ?_
  refine mw_puti (n := 5) (a := 82) (k := 0) cl9 ct9 (mkm hg (by decide) (by rfl)) (by decide) rfl rfl rfl rfl fl_X9_65 dX9_setTotal_2 rfl (mw_leth (fun h1 => ?_))
  refine mw_iload_n (n := 6) (q := 1) dX9_setTotal_5 rfl rfl rfl ?_
  refine mw_i2l (n := 7) dX9_setTotal_6 rfl ?_
  refine mw_lconst (n := 8) (v := 0) dX9_setTotal_7 rfl (by decide) ?_
  refine mw_lconst (n := 9) (v := 1) dX9_setTotal_8 rfl (by decide) ?_
  refine mw_callS (n := 12) (As := [.long (p0).toInt64, .long (0 : Int64), .long (1 : Int64)]) (t_X9_in hg ((p0).toInt64) (0 : Int64) (1 : Int64) h1) (by decide) ok_X9_in rfl lk_X9_77 sm_X9_in dX9_setTotal_9 rfl rfl (Nat.le_of_ble_eq_true rfl) (fun q2 _ => ?_)
  show mw g l _ _ _ 12 _ [.int q2] h1 _
  refine mw_if_ne (n := 15) (t := 18) dX9_setTotal_12 rfl (by decide) Iff.rfl (fun c3 => ?_) (fun c3 => ?_)
  · refine mw_aload_n (n := 19) (q := 0) dX9_setTotal_18 rfl rfl rfl ?_
    refine mw_iload_n (n := 20) (q := 1) dX9_setTotal_19 rfl rfl rfl ?_
    refine mw_iload_n (n := 21) (q := 2) dX9_setTotal_20 rfl rfl rfl ?_
    refine mw_callV (n := 24) (a := 82) (As := [.int p0, .int p1]) cl9 (mkm hg (by decide) (by rfl)) (t_X9_noLine hg p0 p1 h1) (by decide) ok_X9_noLine rfl rfl lk_X9_140 im_X9_noLine se_X9_noLine dX9_setTotal_21 rfl rfl (Nat.le_of_ble_eq_true rfl) (fun q4 _ => ?_)
    show mw g l _ _ _ 24 _ [.int q4] h1 _
    refine mw_if_eq (n := 27) (t := 29) dX9_setTotal_24 rfl (by decide) Iff.rfl (fun c5 => ?_) (fun c5 => ?_)
    · refine mw_iload_n (n := 30) (q := 3) dX9_setTotal_29 rfl rfl rfl ?_
      refine mw_i2l (n := 31) dX9_setTotal_30 rfl ?_
      refine mw_lconst (n := 32) (v := 0) dX9_setTotal_31 rfl (by decide) ?_
      refine mw_aload_n (n := 33) (q := 0) dX9_setTotal_32 rfl rfl rfl ?_
      refine mw_getr (n := 36) (a := 82) (k := 4) cl9 (mkm hg (by decide) (by rfl)) (by decide) rfl rfl fl_X9_16 dX9_setTotal_33 rfl ?_
      refine mw_iconst (n := 37) (v := 1) dX9_setTotal_36 rfl (by decide) ?_
      refine mw_iload_n (n := 38) (q := 1) dX9_setTotal_37 rfl rfl rfl ?_
      refine mw_isub (n := 39) dX9_setTotal_38 rfl ?_
      refine mw_iald (n := 40) (a := 85) (N := 32) (mkm hg (by decide) (by rfl)) dX9_setTotal_39 rfl ?_
      refine mw_i2l (n := 41) dX9_setTotal_40 rfl ?_
      refine mw_callS (n := 44) (As := [.long (p2).toInt64, .long (0 : Int64), .long ((mgi h1 85 (((1 : Int32) - p0)).toNatClampNeg)).toInt64]) (t_X9_in hg ((p2).toInt64) (0 : Int64) (((mgi h1 85 (((1 : Int32) - p0)).toNatClampNeg)).toInt64) h1) (by decide) ok_X9_in rfl lk_X9_77 sm_X9_in dX9_setTotal_41 rfl rfl (Nat.le_of_ble_eq_true rfl) (fun q6 _ => ?_)
      show mw g l _ _ _ 44 _ [.int q6] h1 _
      refine mw_if_ne (n := 47) (t := 50) dX9_setTotal_44 rfl (by decide) Iff.rfl (fun c7 => ?_) (fun c7 => ?_)
      · refine mw_aload_n (n := 51) (q := 0) dX9_setTotal_50 rfl rfl rfl ?_
        refine mw_callV (n := 54) (a := 82) (As := []) cl9 (mkm hg (by decide) (by rfl)) (t_X9_note hg N h1) (by decide) ok_X9_note rfl rfl lk_X9_189 im_X9_note se_X9_note dX9_setTotal_51 rfl rfl (Nat.le_of_ble_eq_true rfl) (fun q8 _ => ?_)
        show mw g l _ _ _ 54 _ [] q8 _
        refine mw_aload_n (n := 55) (q := 0) dX9_setTotal_54 rfl rfl rfl ?_
        refine mw_getr (n := 58) (a := 82) (k := 4) cl9 (mkm hg (by decide) (by rfl)) (by decide) rfl rfl fl_X9_16 dX9_setTotal_55 rfl ?_
        refine mw_iload_n (n := 59) (q := 1) dX9_setTotal_58 rfl rfl rfl ?_
        refine mw_iload_n (n := 60) (q := 2) dX9_setTotal_59 rfl rfl rfl ?_
        refine mw_callS (n := 63) (As := [.int p0, .int p1]) (t_X9_totalAt hg p0 p1 q8) (by decide) ok_X9_totalAt rfl lk_X9_143 sm_X9_totalAt dX9_setTotal_60 rfl rfl (Nat.le_of_ble_eq_true rfl) (fun q9 _ => ?_)
        show mw g l _ _ _ 63 _ [.int q9, .ref (mad g 85)] q8 _
        refine mw_iload_n (n := 64) (q := 3) dX9_setTotal_63 rfl rfl rfl ?_
        refine mw_iast (n := 65) (a := 85) (N := 32) (mkm hg (by decide) (by rfl)) dX9_setTotal_64 rfl (mw_leth (fun h10 => ?_))
        refine mw_aload_n (n := 66) (q := 0) dX9_setTotal_65 rfl rfl rfl ?_
        refine mw_aload_n (n := 67) (q := 0) dX9_setTotal_66 rfl rfl rfl ?_
        refine mw_getr (n := 70) (a := 82) (k := 4) cl9 (mkm hg (by decide) (by rfl)) (by decide) rfl rfl fl_X9_16 dX9_setTotal_67 rfl ?_
        refine mw_callV (n := 73) (a := 82) (As := [.ref (mad g 85)]) cl9 (mkm hg (by decide) (by rfl)) (t_X9_settle hg N 85 (mkm hg (by decide) (by rfl)) h10) (by decide) ok_X9_settle rfl rfl lk_X9_133 im_X9_settle se_X9_settle dX9_setTotal_70 rfl rfl (Nat.le_of_ble_eq_true rfl) (fun q11 _ => ?_)
        show mw g l _ _ _ 73 _ [] q11 _
        refine mw_aload_n (n := 74) (q := 0) dX9_setTotal_73 rfl rfl rfl ?_
        refine mw_geti (n := 77) (a := 82) (k := 17) cl9 (mkm hg (by decide) (by rfl)) (by decide) rfl rfl fl_X9_112 dX9_setTotal_74 rfl ?_
        exact mw_iret dX9_setTotal_77 rfl rfl
      · refine mw_bipush (n := 49) (v := -2) dX9_setTotal_47 rfl (by decide) ?_
        exact mw_iret dX9_setTotal_49 rfl rfl
    · refine mw_iconst (n := 28) (v := -1) dX9_setTotal_27 rfl (by decide) ?_
      exact mw_iret dX9_setTotal_28 rfl rfl
  · refine mw_bipush (n := 17) (v := -2) dX9_setTotal_15 rfl (by decide) ?_
    exact mw_iret dX9_setTotal_17 rfl rfl
noncomputable def x_X9_tooMany (N : Nat) (p0 : Nat) (p1 : Int32) (p2 : Int32) (h : mH) : Option (Int32) :=
  if p2 ≤ 0 then
    some (0 : Int32)
  else
    mck ((11 : Int32) + p1) 32 <|
    if ¬ (mgi h p0 (((11 : Int32) + p1)).toNatClampNeg) = 0 then
      some (0 : Int32)
    else
      (x_X9_pinned N p0 h).bind fun q3 =>
      some (if ¬ q3 = (6 : Int32) then (0 : Int32) else (1 : Int32))
set_option maxRecDepth 20000 in
set_option maxHeartbeats 4000000 in
theorem t_X9_tooMany {g : mG} {l : Launch} (hg : mnn g = 101) (N : Nat) (p0 : Nat) (p1 : Int32) (p2 : Int32) (hp0 : mkn g p0 132) (h : mH) : mf g l 2 mX9_tooMany (fun r : Int32 => (some (Value.int r), h)) [.ref (mad g p0), .int p1, .int p2] h (x_X9_tooMany N p0 p1 p2 h) := by
  refine mf_of (by decide) (Nat.le_of_ble_eq_true rfl) ?_
  show mw g l 2 mX9_tooMany (fun r : Int32 => (some (Value.int r), h)) 0 [(0, .ref (mad g p0)), (1, .int p1), (2, .int p2)] [] h _
  unfold x_X9_tooMany
  refine mw_iload_n (n := 1) (q := 2) dX9_tooMany_0 rfl rfl rfl ?_
  refine mw_if_le (n := 4) (t := 26) dX9_tooMany_1 rfl (by decide) Iff.rfl (fun c1 => ?_) (fun c1 => ?_)
  · refine mw_iconst (n := 27) (v := 0) dX9_tooMany_26 rfl (by decide) ?_
    exact mw_zret dX9_tooMany_27 rfl (Or.inl rfl) rfl
  · refine mw_aload_n (n := 5) (q := 0) dX9_tooMany_4 rfl rfl rfl ?_
    refine mw_bipush (n := 7) (v := 11) dX9_tooMany_5 rfl (by decide) ?_
    refine mw_iload_n (n := 8) (q := 1) dX9_tooMany_7 rfl rfl rfl ?_
    refine mw_iadd (n := 9) dX9_tooMany_8 rfl ?_
    refine mw_iald (n := 10) (a := p0) (N := 32) hp0 dX9_tooMany_9 rfl ?_
    refine mw_if_ne (n := 13) (t := 26) dX9_tooMany_10 rfl (by decide) Iff.rfl (fun c2 => ?_) (fun c2 => ?_)
    · refine mw_iconst (n := 27) (v := 0) dX9_tooMany_26 rfl (by decide) ?_
      exact mw_zret dX9_tooMany_27 rfl (Or.inl rfl) rfl
    · refine mw_aload_n (n := 14) (q := 0) dX9_tooMany_13 rfl rfl rfl ?_
      refine mw_callS (n := 17) (As := [.ref (mad g p0)]) (t_X9_pinned hg N p0 hp0 h) (by decide) ok_X9_pinned rfl lk_X9_86 sm_X9_pinned dX9_tooMany_14 rfl rfl (Nat.le_of_ble_eq_true rfl) (fun q3 _ => ?_)
      show mw g l _ _ _ 17 _ [.int q3] h _
      refine mw_bipush (n := 19) (v := 6) dX9_tooMany_17 rfl (by decide) ?_
      refine mw_cutJ (pc' := 27) (lv' := [(0, .ref (mad g p0)), (1, .int p1), (2, .int p2)]) (st' := [.int (if ¬ q3 = (6 : Int32) then (0 : Int32) else (1 : Int32))]) (fun J => ?_) ?_
      · refine mw_icmp_ne_m (n := 22) (t := 26) dX9_tooMany_19 rfl (by decide) (fun c4 => ?_) (fun c4 => ?_)
        · refine mw_iconst (n := 27) (v := 0) dX9_tooMany_26 rfl (by decide) ?_
          exact mw_topeq (if_pos c4).symm J
        · refine mw_iconst (n := 23) (v := 1) dX9_tooMany_22 rfl (by decide) ?_
          refine mw_goto (n := 27) dX9_tooMany_23 (by decide) ?_
          exact mw_topeq (if_neg c4).symm J
      exact mw_zret dX9_tooMany_27 rfl (mz01 (Or.inl rfl) (Or.inr rfl)) rfl
noncomputable def x_X9_setPin (N : Nat) (p0 : Int32) (p1 : Int32) (h : mH) : Option (Int32 × mH) :=
  mlet (msi h 82 0 (0 : Int32)) fun h1 =>
  (x_X9_noCell p0 h1).bind fun q2 =>
  if q2 = 0 then
    (x_X9_in ((p1).toInt64) (0 : Int64) (2 : Int64)).bind fun q4 =>
    if ¬ q4 = 0 then
      (x_X9_tooMany N 85 p0 p1 h1).bind fun q6 =>
      if q6 = 0 then
        (x_X9_note N h1).bind fun q8 =>
        mck ((11 : Int32) + p0) 32 <|
        mlet (msi q8 85 (((11 : Int32) + p0)).toNatClampNeg p1) fun h9 =>
        (x_X9_settle N 85 h9).bind fun q10 =>
        some ((mgi q10 82 17), q10)
      else
        some ((-4 : Int32), h1)
    else
      some ((-2 : Int32), h1)
  else
    some ((-1 : Int32), h1)
set_option maxRecDepth 20000 in
set_option maxHeartbeats 4000000 in
theorem t_X9_setPin {g : mG} {l : Launch} (hg : mnn g = 101) (N : Nat) (p0 : Int32) (p1 : Int32) (h : mH) : mf g l 4 mX9_setPin (fun r : Int32 × mH => (some (Value.int r.1), r.2)) [.ref (mad g 82), .int p0, .int p1] h (x_X9_setPin N p0 p1 h) := by
  refine mf_of (by decide) (Nat.le_of_ble_eq_true rfl) ?_
  show mw g l 4 mX9_setPin (fun r : Int32 × mH => (some (Value.int r.1), r.2)) 0 [(0, .ref (mad g 82)), (1, .int p0), (2, .int p1)] [] h _
  unfold x_X9_setPin
  refine mw_aload_n (n := 1) (q := 0) dX9_setPin_0 rfl rfl rfl ?_
  refine mw_iconst (n := 2) (v := 0) dX9_setPin_1 rfl (by decide) ?_
  refine mw_puti (n := 5) (a := 82) (k := 0) cl9 ct9 (mkm hg (by decide) (by rfl)) (by decide) rfl rfl rfl rfl fl_X9_65 dX9_setPin_2 rfl (mw_leth (fun h1 => ?_))
  refine mw_aload_n (n := 6) (q := 0) dX9_setPin_5 rfl rfl rfl ?_
  refine mw_iload_n (n := 7) (q := 1) dX9_setPin_6 rfl rfl rfl ?_
  refine mw_callV (n := 10) (a := 82) (As := [.int p0]) cl9 (mkm hg (by decide) (by rfl)) (t_X9_noCell hg p0 h1) (by decide) ok_X9_noCell rfl rfl lk_X9_146 im_X9_noCell se_X9_noCell dX9_setPin_7 rfl rfl (Nat.le_of_ble_eq_true rfl) (fun q2 _ => ?_)
  show mw g l _ _ _ 10 _ [.int q2] h1 _
  refine mw_if_eq (n := 13) (t := 15) dX9_setPin_10 rfl (by decide) Iff.rfl (fun c3 => ?_) (fun c3 => ?_)
  · refine mw_iload_n (n := 16) (q := 2) dX9_setPin_15 rfl rfl rfl ?_
    refine mw_i2l (n := 17) dX9_setPin_16 rfl ?_
    refine mw_lconst (n := 18) (v := 0) dX9_setPin_17 rfl (by decide) ?_
    refine mw_ldc2 (n := 21) dX9_setPin_18 rfl kl_X9_177 ?_
    refine mw_callS (n := 24) (As := [.long (p1).toInt64, .long (0 : Int64), .long (2 : Int64)]) (t_X9_in hg ((p1).toInt64) (0 : Int64) (2 : Int64) h1) (by decide) ok_X9_in rfl lk_X9_77 sm_X9_in dX9_setPin_21 rfl rfl (Nat.le_of_ble_eq_true rfl) (fun q4 _ => ?_)
    show mw g l _ _ _ 24 _ [.int q4] h1 _
    refine mw_if_ne (n := 27) (t := 30) dX9_setPin_24 rfl (by decide) Iff.rfl (fun c5 => ?_) (fun c5 => ?_)
    · refine mw_aload_n (n := 31) (q := 0) dX9_setPin_30 rfl rfl rfl ?_
      refine mw_getr (n := 34) (a := 82) (k := 4) cl9 (mkm hg (by decide) (by rfl)) (by decide) rfl rfl fl_X9_16 dX9_setPin_31 rfl ?_
      refine mw_iload_n (n := 35) (q := 1) dX9_setPin_34 rfl rfl rfl ?_
      refine mw_iload_n (n := 36) (q := 2) dX9_setPin_35 rfl rfl rfl ?_
      refine mw_callS (n := 39) (As := [.ref (mad g 85), .int p0, .int p1]) (t_X9_tooMany hg N 85 p0 p1 (mkm hg (by decide) (by rfl)) h1) (by decide) ok_X9_tooMany rfl lk_X9_202 sm_X9_tooMany dX9_setPin_36 rfl rfl (Nat.le_of_ble_eq_true rfl) (fun q6 _ => ?_)
      show mw g l _ _ _ 39 _ [.int q6] h1 _
      refine mw_if_eq (n := 42) (t := 45) dX9_setPin_39 rfl (by decide) Iff.rfl (fun c7 => ?_) (fun c7 => ?_)
      · refine mw_aload_n (n := 46) (q := 0) dX9_setPin_45 rfl rfl rfl ?_
        refine mw_callV (n := 49) (a := 82) (As := []) cl9 (mkm hg (by decide) (by rfl)) (t_X9_note hg N h1) (by decide) ok_X9_note rfl rfl lk_X9_189 im_X9_note se_X9_note dX9_setPin_46 rfl rfl (Nat.le_of_ble_eq_true rfl) (fun q8 _ => ?_)
        show mw g l _ _ _ 49 _ [] q8 _
        refine mw_aload_n (n := 50) (q := 0) dX9_setPin_49 rfl rfl rfl ?_
        refine mw_getr (n := 53) (a := 82) (k := 4) cl9 (mkm hg (by decide) (by rfl)) (by decide) rfl rfl fl_X9_16 dX9_setPin_50 rfl ?_
        refine mw_bipush (n := 55) (v := 11) dX9_setPin_53 rfl (by decide) ?_
        refine mw_iload_n (n := 56) (q := 1) dX9_setPin_55 rfl rfl rfl ?_
        refine mw_iadd (n := 57) dX9_setPin_56 rfl ?_
        refine mw_iload_n (n := 58) (q := 2) dX9_setPin_57 rfl rfl rfl ?_
        refine mw_iast (n := 59) (a := 85) (N := 32) (mkm hg (by decide) (by rfl)) dX9_setPin_58 rfl (mw_leth (fun h9 => ?_))
        refine mw_aload_n (n := 60) (q := 0) dX9_setPin_59 rfl rfl rfl ?_
        refine mw_aload_n (n := 61) (q := 0) dX9_setPin_60 rfl rfl rfl ?_
        refine mw_getr (n := 64) (a := 82) (k := 4) cl9 (mkm hg (by decide) (by rfl)) (by decide) rfl rfl fl_X9_16 dX9_setPin_61 rfl ?_
        refine mw_callV (n := 67) (a := 82) (As := [.ref (mad g 85)]) cl9 (mkm hg (by decide) (by rfl)) (t_X9_settle hg N 85 (mkm hg (by decide) (by rfl)) h9) (by decide) ok_X9_settle rfl rfl lk_X9_133 im_X9_settle se_X9_settle dX9_setPin_64 rfl rfl (Nat.le_of_ble_eq_true rfl) (fun q10 _ => ?_)
        show mw g l _ _ _ 67 _ [] q10 _
        refine mw_aload_n (n := 68) (q := 0) dX9_setPin_67 rfl rfl rfl ?_
        refine mw_geti (n := 71) (a := 82) (k := 17) cl9 (mkm hg (by decide) (by rfl)) (by decide) rfl rfl fl_X9_112 dX9_setPin_68 rfl ?_
        exact mw_iret dX9_setPin_71 rfl rfl
      · refine mw_bipush (n := 44) (v := -4) dX9_setPin_42 rfl (by decide) ?_
        exact mw_iret dX9_setPin_44 rfl rfl
    · refine mw_bipush (n := 29) (v := -2) dX9_setPin_27 rfl (by decide) ?_
      exact mw_iret dX9_setPin_29 rfl rfl
  · refine mw_iconst (n := 14) (v := -1) dX9_setPin_13 rfl (by decide) ?_
    exact mw_iret dX9_setPin_14 rfl rfl
noncomputable def x_X9_undo_27 (N : Nat) (f : Nat) : Int32 → mH → Option (Int32 × mH) :=
  Nat.rec (motive := fun _ => Int32 → mH → Option (Int32 × mH)) (fun _ _ => none) (fun _ self27 => fun v1 h => 
    if (32 : Int32) ≤ v1 then
      some ((mgi h 82 7), h)
    else
      mck (((32 : Int32) * (mgi h 82 7)) + v1) 448 <|
      mck v1 32 <|
      mlet (msi h 85 (v1).toNatClampNeg (mgi h 87 ((((32 : Int32) * (mgi h 82 7)) + v1)).toNatClampNeg)) fun h2 =>
      self27 (v1 + (1 : Int32)) h2) f
theorem x_X9_undo_27_0 (N : Nat) (v1 : Int32) (h : mH) : x_X9_undo_27 N 0 v1 h = none := rfl
theorem x_X9_undo_27_s (N : Nat) (f : Nat) (v1 : Int32) (h : mH) : x_X9_undo_27 N (f + 1) v1 h = (
    if (32 : Int32) ≤ v1 then
      some ((mgi h 82 7), h)
    else
      mck (((32 : Int32) * (mgi h 82 7)) + v1) 448 <|
      mck v1 32 <|
      mlet (msi h 85 (v1).toNatClampNeg (mgi h 87 ((((32 : Int32) * (mgi h 82 7)) + v1)).toNatClampNeg)) fun h2 =>
      (x_X9_undo_27 N f) (v1 + (1 : Int32)) h2) := rfl
set_option maxRecDepth 20000 in
set_option maxHeartbeats 4000000 in
theorem b_X9_undo_27 {g : mG} {l : Launch} (hg : mnn g = 101) (N : Nat) (f : Nat) : ∀ (v1 : Int32) (h : mH), mw g l 0 mX9_undo (fun r : Int32 × mH => (some (Value.int r.1), r.2)) 27 [(0, .ref (mad g 82)), (1, .int v1)] [] h (x_X9_undo_27 N f v1 h) := by
  induction f with
  | zero => intros; exact mw_none
  | succ f hself27 =>
    intro v1 h
    refine mw_eq (x_X9_undo_27_s N f v1 h) ?_
    generalize x_X9_undo_27 N f = self27 at hself27 ⊢
    refine mw_iload_n (n := 28) (q := 1) dX9_undo_27 rfl rfl rfl ?_
    refine mw_bipush (n := 30) (v := 32) dX9_undo_28 rfl (by decide) ?_
    refine mw_icmp_ge (n := 33) (t := 59) dX9_undo_30 rfl (by decide) Iff.rfl (fun c1 => ?_) (fun c1 => ?_)
    · refine mw_aload_n (n := 60) (q := 0) dX9_undo_59 rfl rfl rfl ?_
      refine mw_geti (n := 63) (a := 82) (k := 7) cl9 (mkm hg (by decide) (by rfl)) (by decide) rfl rfl fl_X9_137 dX9_undo_60 rfl ?_
      exact mw_iret dX9_undo_63 rfl rfl
    · refine mw_aload_n (n := 34) (q := 0) dX9_undo_33 rfl rfl rfl ?_
      refine mw_getr (n := 37) (a := 82) (k := 4) cl9 (mkm hg (by decide) (by rfl)) (by decide) rfl rfl fl_X9_16 dX9_undo_34 rfl ?_
      refine mw_iload_n (n := 38) (q := 1) dX9_undo_37 rfl rfl rfl ?_
      refine mw_aload_n (n := 39) (q := 0) dX9_undo_38 rfl rfl rfl ?_
      refine mw_getr (n := 42) (a := 82) (k := 6) cl9 (mkm hg (by decide) (by rfl)) (by decide) rfl rfl fl_X9_22 dX9_undo_39 rfl ?_
      refine mw_bipush (n := 44) (v := 32) dX9_undo_42 rfl (by decide) ?_
      refine mw_aload_n (n := 45) (q := 0) dX9_undo_44 rfl rfl rfl ?_
      refine mw_geti (n := 48) (a := 82) (k := 7) cl9 (mkm hg (by decide) (by rfl)) (by decide) rfl rfl fl_X9_137 dX9_undo_45 rfl ?_
      refine mw_imul (n := 49) dX9_undo_48 rfl ?_
      refine mw_iload_n (n := 50) (q := 1) dX9_undo_49 rfl rfl rfl ?_
      refine mw_iadd (n := 51) dX9_undo_50 rfl ?_
      refine mw_iald (n := 52) (a := 87) (N := 448) (mkm hg (by decide) (by rfl)) dX9_undo_51 rfl ?_
      refine mw_iast (n := 53) (a := 85) (N := 32) (mkm hg (by decide) (by rfl)) dX9_undo_52 rfl (mw_leth (fun h2 => ?_))
      refine mw_iinc (n := 56) (q := 1) (v := (v1 + (1 : Int32))) dX9_undo_53 rfl rfl rfl (by decide) rfl ?_
      refine mw_goto (n := 27) dX9_undo_56 (by decide) ?_
      refine mw_sub [1, 0] rfl ?_
      exact hself27 (v1 + (1 : Int32)) h2
noncomputable def x_X9_undo (N : Nat) (h : mH) : Option (Int32 × mH) :=
  mlet (msi h 82 0 (0 : Int32)) fun h1 =>
  if ¬ (mgi h1 82 7) = 0 then
    mlet (msi h1 82 7 ((mgi h1 82 7) - (1 : Int32))) fun h3 =>
    x_X9_undo_27 N N (0 : Int32) h3
  else
    some ((-3 : Int32), h1)
set_option maxRecDepth 20000 in
set_option maxHeartbeats 4000000 in
theorem t_X9_undo {g : mG} {l : Launch} (hg : mnn g = 101) (N : Nat) (h : mH) : mf g l 0 mX9_undo (fun r : Int32 × mH => (some (Value.int r.1), r.2)) [.ref (mad g 82)] h (x_X9_undo N h) := by
  refine mf_of (by decide) (Nat.le_of_ble_eq_true rfl) ?_
  show mw g l 0 mX9_undo (fun r : Int32 × mH => (some (Value.int r.1), r.2)) 0 [(0, .ref (mad g 82))] [] h _
  unfold x_X9_undo
  refine mw_aload_n (n := 1) (q := 0) dX9_undo_0 rfl rfl rfl ?_
  refine mw_iconst (n := 2) (v := 0) dX9_undo_1 rfl (by decide) ?_
  refine mw_puti (n := 5) (a := 82) (k := 0) cl9 ct9 (mkm hg (by decide) (by rfl)) (by decide) rfl rfl rfl rfl fl_X9_65 dX9_undo_2 rfl (mw_leth (fun h1 => ?_))
  refine mw_aload_n (n := 6) (q := 0) dX9_undo_5 rfl rfl rfl ?_
  refine mw_geti (n := 9) (a := 82) (k := 7) cl9 (mkm hg (by decide) (by rfl)) (by decide) rfl rfl fl_X9_137 dX9_undo_6 rfl ?_
  refine mw_if_ne (n := 12) (t := 15) dX9_undo_9 rfl (by decide) Iff.rfl (fun c2 => ?_) (fun c2 => ?_)
  · refine mw_aload_n (n := 16) (q := 0) dX9_undo_15 rfl rfl rfl ?_
    refine mw_dup (n := 17) dX9_undo_16 rfl rfl ?_
    refine mw_geti (n := 20) (a := 82) (k := 7) cl9 (mkm hg (by decide) (by rfl)) (by decide) rfl rfl fl_X9_137 dX9_undo_17 rfl ?_
    refine mw_iconst (n := 21) (v := 1) dX9_undo_20 rfl (by decide) ?_
    refine mw_isub (n := 22) dX9_undo_21 rfl ?_
    refine mw_puti (n := 25) (a := 82) (k := 7) cl9 ct9 (mkm hg (by decide) (by rfl)) (by decide) rfl rfl rfl rfl fl_X9_137 dX9_undo_22 rfl (mw_leth (fun h3 => ?_))
    refine mw_iconst (n := 26) (v := 0) dX9_undo_25 rfl (by decide) ?_
    refine mw_istore_n (n := 27) dX9_undo_26 rfl rfl (by decide) rfl ?_
    refine mw_sub [1, 0] rfl ?_
    exact b_X9_undo_27 hg N N (0 : Int32) h3
  · refine mw_bipush (n := 14) (v := -3) dX9_undo_12 rfl (by decide) ?_
    exact mw_iret dX9_undo_14 rfl rfl
noncomputable def x_X9_switches (N : Nat) (p0 : Int32) (h : mH) : Option (Int32 × mH) :=
  mlet (msi h 82 0 (0 : Int32)) fun h1 =>
  (x_X9_in ((p0).toInt64) (0 : Int64) (1 : Int64)).bind fun q2 =>
  if q2 = 0 then
    some ((-2 : Int32), h1)
  else
    (x_X9_countSwitches N p0 h1).bind fun q4 =>
    some (q4, h1)
set_option maxRecDepth 20000 in
set_option maxHeartbeats 4000000 in
theorem t_X9_switches {g : mG} {l : Launch} (hg : mnn g = 101) (N : Nat) (p0 : Int32) (h : mH) : mf g l 4 mX9_switches (fun r : Int32 × mH => (some (Value.int r.1), r.2)) [.ref (mad g 82), .int p0] h (x_X9_switches N p0 h) := by
  refine mf_of (by decide) (Nat.le_of_ble_eq_true rfl) ?_
  show mw g l 4 mX9_switches (fun r : Int32 × mH => (some (Value.int r.1), r.2)) 0 [(0, .ref (mad g 82)), (1, .int p0)] [] h _
  unfold x_X9_switches
  refine mw_aload_n (n := 1) (q := 0) dX9_switches_0 rfl rfl rfl ?_
  refine mw_iconst (n := 2) (v := 0) dX9_switches_1 rfl (by decide) ?_
  refine mw_puti (n := 5) (a := 82) (k := 0) cl9 ct9 (mkm hg (by decide) (by rfl)) (by decide) rfl rfl rfl rfl fl_X9_65 dX9_switches_2 rfl (mw_leth (fun h1 => ?_))
  refine mw_iload_n (n := 6) (q := 1) dX9_switches_5 rfl rfl rfl ?_
  refine mw_i2l (n := 7) dX9_switches_6 rfl ?_
  refine mw_lconst (n := 8) (v := 0) dX9_switches_7 rfl (by decide) ?_
  refine mw_lconst (n := 9) (v := 1) dX9_switches_8 rfl (by decide) ?_
  refine mw_callS (n := 12) (As := [.long (p0).toInt64, .long (0 : Int64), .long (1 : Int64)]) (t_X9_in hg ((p0).toInt64) (0 : Int64) (1 : Int64) h1) (by decide) ok_X9_in rfl lk_X9_77 sm_X9_in dX9_switches_9 rfl rfl (Nat.le_of_ble_eq_true rfl) (fun q2 _ => ?_)
  show mw g l _ _ _ 12 _ [.int q2] h1 _
  refine mw_if_eq (n := 15) (t := 23) dX9_switches_12 rfl (by decide) Iff.rfl (fun c3 => ?_) (fun c3 => ?_)
  · refine mw_bipush (n := 25) (v := -2) dX9_switches_23 rfl (by decide) ?_
    exact mw_iret dX9_switches_25 rfl rfl
  · refine mw_aload_n (n := 16) (q := 0) dX9_switches_15 rfl rfl rfl ?_
    refine mw_iload_n (n := 17) (q := 1) dX9_switches_16 rfl rfl rfl ?_
    refine mw_callV (n := 20) (a := 82) (As := [.int p0]) cl9 (mkm hg (by decide) (by rfl)) (t_X9_countSwitches hg N p0 h1) (by decide) ok_X9_countSwitches rfl rfl lk_X9_199 im_X9_countSwitches se_X9_countSwitches dX9_switches_17 rfl rfl (Nat.le_of_ble_eq_true rfl) (fun q4 _ => ?_)
    show mw g l _ _ _ 20 _ [.int q4] h1 _
    refine mw_goto (n := 25) dX9_switches_20 (by decide) ?_
    exact mw_iret dX9_switches_25 rfl rfl
noncomputable def x_X9_areFour (p0 : Int32) : Option (Int32) :=
  mlet (p0 &&& (p0 - (1 : Int32))) fun u1 =>
  mlet (u1 &&& (u1 - (1 : Int32))) fun u2 =>
  mlet (u2 &&& (u2 - (1 : Int32))) fun u3 =>
  some (if u3 = 0 then (0 : Int32) else (if ¬ (u3 &&& (u3 - (1 : Int32))) = 0 then (0 : Int32) else (1 : Int32)))
set_option maxRecDepth 20000 in
set_option maxHeartbeats 4000000 in
theorem t_X9_areFour {g : mG} {l : Launch} (hg : mnn g = 101) (p0 : Int32) (h : mH) : mf g l 0 mX9_areFour (fun r : Int32 => (some (Value.int r), h)) [.int p0] h (x_X9_areFour p0) := by
  refine mf_of (by decide) (Nat.le_of_ble_eq_true rfl) ?_
  show mw g l 0 mX9_areFour (fun r : Int32 => (some (Value.int r), h)) 0 [(0, .int p0)] [] h _
  unfold x_X9_areFour
  refine mw_iload_n (n := 1) (q := 0) dX9_areFour_0 rfl rfl rfl ?_
  refine mw_iload_n (n := 2) (q := 0) dX9_areFour_1 rfl rfl rfl ?_
  refine mw_iconst (n := 3) (v := 1) dX9_areFour_2 rfl (by decide) ?_
  refine mw_isub (n := 4) dX9_areFour_3 rfl ?_
  refine mw_iand (n := 5) dX9_areFour_4 rfl ?_
  refine mw_letI (fun u1 => ?_)
  refine mw_istore_n (n := 6) dX9_areFour_5 rfl rfl (by decide) rfl ?_
  refine mw_iload_n (n := 7) (q := 0) dX9_areFour_6 rfl rfl rfl ?_
  refine mw_iload_n (n := 8) (q := 0) dX9_areFour_7 rfl rfl rfl ?_
  refine mw_iconst (n := 9) (v := 1) dX9_areFour_8 rfl (by decide) ?_
  refine mw_isub (n := 10) dX9_areFour_9 rfl ?_
  refine mw_iand (n := 11) dX9_areFour_10 rfl ?_
  refine mw_letI (fun u2 => ?_)
  refine mw_istore_n (n := 12) dX9_areFour_11 rfl rfl (by decide) rfl ?_
  refine mw_iload_n (n := 13) (q := 0) dX9_areFour_12 rfl rfl rfl ?_
  refine mw_iload_n (n := 14) (q := 0) dX9_areFour_13 rfl rfl rfl ?_
  refine mw_iconst (n := 15) (v := 1) dX9_areFour_14 rfl (by decide) ?_
  refine mw_isub (n := 16) dX9_areFour_15 rfl ?_
  refine mw_iand (n := 17) dX9_areFour_16 rfl ?_
  refine mw_letI (fun u3 => ?_)
  refine mw_istore_n (n := 18) dX9_areFour_17 rfl rfl (by decide) rfl ?_
  refine mw_iload_n (n := 19) (q := 0) dX9_areFour_18 rfl rfl rfl ?_
  refine mw_cutJ (pc' := 35) (lv' := [(2, .int u3), (1, .int u2), (0, .int p0)]) (st' := [.int (if u3 = 0 then (0 : Int32) else (if ¬ (u3 &&& (u3 - (1 : Int32))) = 0 then (0 : Int32) else (1 : Int32)))]) (fun J => ?_) ?_
  · refine mw_if_eq_m (n := 22) (t := 34) dX9_areFour_19 rfl (by decide) (fun c4 => ?_) (fun c4 => ?_)
    · refine mw_iconst (n := 35) (v := 0) dX9_areFour_34 rfl (by decide) ?_
      exact mw_topeq (if_pos c4).symm J
    · refine mw_iload_n (n := 23) (q := 0) dX9_areFour_22 rfl rfl rfl ?_
      refine mw_iload_n (n := 24) (q := 0) dX9_areFour_23 rfl rfl rfl ?_
      refine mw_iconst (n := 25) (v := 1) dX9_areFour_24 rfl (by decide) ?_
      refine mw_isub (n := 26) dX9_areFour_25 rfl ?_
      refine mw_iand (n := 27) dX9_areFour_26 rfl ?_
      refine mw_if_ne_m (n := 30) (t := 34) dX9_areFour_27 rfl (by decide) (fun c5 => ?_) (fun c5 => ?_)
      · refine mw_iconst (n := 35) (v := 0) dX9_areFour_34 rfl (by decide) ?_
        exact mw_topeq ((if_neg c4).trans (if_pos c5)).symm J
      · refine mw_iconst (n := 31) (v := 1) dX9_areFour_30 rfl (by decide) ?_
        refine mw_goto (n := 35) dX9_areFour_31 (by decide) ?_
        exact mw_topeq ((if_neg c4).trans (if_neg c5)).symm J
  exact mw_zret dX9_areFour_35 rfl (mz01 (Or.inl rfl) (mz01 (Or.inl rfl) (Or.inr rfl))) rfl
noncomputable def x_X9_spread_159 (N : Nat) (self80 : Int32 → Int32 → mH → Option (Int32 × mH)) (self87 : Int32 → Int32 → mH → Option (Int32 × mH)) (v1 : Int32) (v2 : Int32) (v3 : Int32) (h : mH) : Option (Int32 × mH) :=
  self87 v1 (v3 + (1 : Int32)) h
set_option maxRecDepth 20000 in
set_option maxHeartbeats 4000000 in
theorem b_X9_spread_159 {g : mG} {l : Launch} (hg : mnn g = 101) (N : Nat) (v1 : Int32) (v2 : Int32) (v3 : Int32) (self80 : Int32 → Int32 → mH → Option (Int32 × mH)) (hself80 : ∀ (v1 : Int32) (v2 : Int32) (h : mH), mw g l 3 mX9_spread (fun r : Int32 × mH => (some (Value.int r.1), r.2)) 80 [(0, .ref (mad g 82)), (1, .int v1), (2, .int v2)] [] h (self80 v1 v2 h)) (self87 : Int32 → Int32 → mH → Option (Int32 × mH)) (hself87 : ∀ (v1 : Int32) (v3 : Int32) (h : mH), mw g l 3 mX9_spread (fun r : Int32 × mH => (some (Value.int r.1), r.2)) 87 [(0, .ref (mad g 82)), (1, .int v1), (2, .int v2), (3, .int v3)] [] h (self87 v1 v3 h)) (h : mH) : mw g l 3 mX9_spread (fun r : Int32 × mH => (some (Value.int r.1), r.2)) 159 [(0, .ref (mad g 82)), (1, .int v1), (2, .int v2), (3, .int v3)] [] h (x_X9_spread_159 N self80 self87 v1 v2 v3 h) := by
  unfold x_X9_spread_159
  refine mw_iinc (n := 162) (q := 3) (v := (v3 + (1 : Int32))) dX9_spread_159 rfl rfl rfl (by decide) rfl ?_
  refine mw_goto (n := 87) dX9_spread_162 (by decide) ?_
  refine mw_sub [1, 2, 3, 0] rfl ?_
  exact hself87 v1 (v3 + (1 : Int32)) h
noncomputable def x_X9_spread_87 (N : Nat) (self80 : Int32 → Int32 → mH → Option (Int32 × mH)) (v2 : Int32) (f : Nat) : Int32 → Int32 → mH → Option (Int32 × mH) :=
  Nat.rec (motive := fun _ => Int32 → Int32 → mH → Option (Int32 × mH)) (fun _ _ _ => none) (fun _ self87 => fun v1 v3 h => 
    if (mgi h 82 17) ≤ v3 then
      self80 v1 (v2 + (1 : Int32)) h
    else
      mck v3 1000 <|
      if ¬ (mgi h 95 (v3).toNatClampNeg) = (-9 : Int32) then
        x_X9_spread_159 N self80 self87 v1 v2 v3 h
      else
        mck v3 1000 <|
        mck v2 1000 <|
        mck (mgi h 96 (v2).toNatClampNeg) 1000 <|
        (x_X9_areFour ((mgi h 94 (v3).toNatClampNeg) ^^^ (mgi h 94 ((mgi h 96 (v2).toNatClampNeg)).toNatClampNeg))).bind fun q3 =>
        if q3 = 0 then
          x_X9_spread_159 N self80 self87 v1 v2 v3 h
        else
          mck v2 1000 <|
          mck (mgi h 96 (v2).toNatClampNeg) 1000 <|
          mck v3 1000 <|
          mlet (msi h 95 (v3).toNatClampNeg ((mgi h 95 ((mgi h 96 (v2).toNatClampNeg)).toNatClampNeg) + (1 : Int32))) fun h5 =>
          mck v1 1000 <|
          mlet (msi h5 96 (v1).toNatClampNeg v3) fun h6 =>
          x_X9_spread_159 N self80 self87 (v1 + (1 : Int32)) v2 v3 h6) f
theorem x_X9_spread_87_0 (N : Nat) (self80 : Int32 → Int32 → mH → Option (Int32 × mH)) (v2 : Int32) (v1 : Int32) (v3 : Int32) (h : mH) : x_X9_spread_87 N self80 v2 0 v1 v3 h = none := rfl
theorem x_X9_spread_87_s (N : Nat) (self80 : Int32 → Int32 → mH → Option (Int32 × mH)) (v2 : Int32) (f : Nat) (v1 : Int32) (v3 : Int32) (h : mH) : x_X9_spread_87 N self80 v2 (f + 1) v1 v3 h = (
    if (mgi h 82 17) ≤ v3 then
      self80 v1 (v2 + (1 : Int32)) h
    else
      mck v3 1000 <|
      if ¬ (mgi h 95 (v3).toNatClampNeg) = (-9 : Int32) then
        x_X9_spread_159 N self80 (x_X9_spread_87 N self80 v2 f) v1 v2 v3 h
      else
        mck v3 1000 <|
        mck v2 1000 <|
        mck (mgi h 96 (v2).toNatClampNeg) 1000 <|
        (x_X9_areFour ((mgi h 94 (v3).toNatClampNeg) ^^^ (mgi h 94 ((mgi h 96 (v2).toNatClampNeg)).toNatClampNeg))).bind fun q3 =>
        if q3 = 0 then
          x_X9_spread_159 N self80 (x_X9_spread_87 N self80 v2 f) v1 v2 v3 h
        else
          mck v2 1000 <|
          mck (mgi h 96 (v2).toNatClampNeg) 1000 <|
          mck v3 1000 <|
          mlet (msi h 95 (v3).toNatClampNeg ((mgi h 95 ((mgi h 96 (v2).toNatClampNeg)).toNatClampNeg) + (1 : Int32))) fun h5 =>
          mck v1 1000 <|
          mlet (msi h5 96 (v1).toNatClampNeg v3) fun h6 =>
          x_X9_spread_159 N self80 (x_X9_spread_87 N self80 v2 f) (v1 + (1 : Int32)) v2 v3 h6) := rfl
set_option maxRecDepth 20000 in
set_option maxHeartbeats 4000000 in
theorem b_X9_spread_87 {g : mG} {l : Launch} (hg : mnn g = 101) (N : Nat) (v2 : Int32) (self80 : Int32 → Int32 → mH → Option (Int32 × mH)) (hself80 : ∀ (v1 : Int32) (v2 : Int32) (h : mH), mw g l 3 mX9_spread (fun r : Int32 × mH => (some (Value.int r.1), r.2)) 80 [(0, .ref (mad g 82)), (1, .int v1), (2, .int v2)] [] h (self80 v1 v2 h)) (f : Nat) : ∀ (v1 : Int32) (v3 : Int32) (h : mH), mw g l 3 mX9_spread (fun r : Int32 × mH => (some (Value.int r.1), r.2)) 87 [(0, .ref (mad g 82)), (1, .int v1), (2, .int v2), (3, .int v3)] [] h (x_X9_spread_87 N self80 v2 f v1 v3 h) := by
  induction f with
  | zero => intros; exact mw_none
  | succ f hself87 =>
    intro v1 v3 h
    refine mw_eq (x_X9_spread_87_s N self80 v2 f v1 v3 h) ?_
    generalize x_X9_spread_87 N self80 v2 f = self87 at hself87 ⊢
    refine mw_iload_n (n := 88) (q := 3) dX9_spread_87 rfl rfl rfl ?_
    refine mw_aload_n (n := 89) (q := 0) dX9_spread_88 rfl rfl rfl ?_
    refine mw_geti (n := 92) (a := 82) (k := 17) cl9 (mkm hg (by decide) (by rfl)) (by decide) rfl rfl fl_X9_112 dX9_spread_89 rfl ?_
    refine mw_icmp_ge (n := 95) (t := 165) dX9_spread_92 rfl (by decide) Iff.rfl (fun c1 => ?_) (fun c1 => ?_)
    · refine mw_iinc (n := 168) (q := 2) (v := (v2 + (1 : Int32))) dX9_spread_165 rfl rfl rfl (by decide) rfl ?_
      refine mw_goto (n := 80) dX9_spread_168 (by decide) ?_
      refine mw_sub [1, 2, 0] rfl ?_
      exact hself80 v1 (v2 + (1 : Int32)) h
    · refine mw_aload_n (n := 96) (q := 0) dX9_spread_95 rfl rfl rfl ?_
      refine mw_getr (n := 99) (a := 82) (k := 18) cl9 (mkm hg (by decide) (by rfl)) (by decide) rfl rfl fl_X9_47 dX9_spread_96 rfl ?_
      refine mw_iload_n (n := 100) (q := 3) dX9_spread_99 rfl rfl rfl ?_
      refine mw_iald (n := 101) (a := 95) (N := 1000) (mkm hg (by decide) (by rfl)) dX9_spread_100 rfl ?_
      refine mw_bipush (n := 103) (v := -9) dX9_spread_101 rfl (by decide) ?_
      refine mw_icmp_ne (n := 106) (t := 159) dX9_spread_103 rfl (by decide) Iff.rfl (fun c2 => ?_) (fun c2 => ?_)
      · exact b_X9_spread_159 hg N v1 v2 v3 self80 hself80 self87 hself87 h
      · refine mw_aload_n (n := 107) (q := 0) dX9_spread_106 rfl rfl rfl ?_
        refine mw_getr (n := 110) (a := 82) (k := 16) cl9 (mkm hg (by decide) (by rfl)) (by decide) rfl rfl fl_X9_44 dX9_spread_107 rfl ?_
        refine mw_iload_n (n := 111) (q := 3) dX9_spread_110 rfl rfl rfl ?_
        refine mw_iald (n := 112) (a := 94) (N := 1000) (mkm hg (by decide) (by rfl)) dX9_spread_111 rfl ?_
        refine mw_aload_n (n := 113) (q := 0) dX9_spread_112 rfl rfl rfl ?_
        refine mw_getr (n := 116) (a := 82) (k := 16) cl9 (mkm hg (by decide) (by rfl)) (by decide) rfl rfl fl_X9_44 dX9_spread_113 rfl ?_
        refine mw_aload_n (n := 117) (q := 0) dX9_spread_116 rfl rfl rfl ?_
        refine mw_getr (n := 120) (a := 82) (k := 19) cl9 (mkm hg (by decide) (by rfl)) (by decide) rfl rfl fl_X9_50 dX9_spread_117 rfl ?_
        refine mw_iload_n (n := 121) (q := 2) dX9_spread_120 rfl rfl rfl ?_
        refine mw_iald (n := 122) (a := 96) (N := 1000) (mkm hg (by decide) (by rfl)) dX9_spread_121 rfl ?_
        refine mw_iald (n := 123) (a := 94) (N := 1000) (mkm hg (by decide) (by rfl)) dX9_spread_122 rfl ?_
        refine mw_ixor (n := 124) dX9_spread_123 rfl ?_
        refine mw_callS (n := 127) (As := [.int ((mgi h 94 (v3).toNatClampNeg) ^^^ (mgi h 94 ((mgi h 96 (v2).toNatClampNeg)).toNatClampNeg))]) (t_X9_areFour hg ((mgi h 94 (v3).toNatClampNeg) ^^^ (mgi h 94 ((mgi h 96 (v2).toNatClampNeg)).toNatClampNeg)) h) (by decide) ok_X9_areFour rfl lk_X9_205 sm_X9_areFour dX9_spread_124 rfl rfl (Nat.le_of_ble_eq_true rfl) (fun q3 _ => ?_)
        show mw g l _ _ _ 127 _ [.int q3] h _
        refine mw_if_eq (n := 130) (t := 159) dX9_spread_127 rfl (by decide) Iff.rfl (fun c4 => ?_) (fun c4 => ?_)
        · exact b_X9_spread_159 hg N v1 v2 v3 self80 hself80 self87 hself87 h
        · refine mw_aload_n (n := 131) (q := 0) dX9_spread_130 rfl rfl rfl ?_
          refine mw_getr (n := 134) (a := 82) (k := 18) cl9 (mkm hg (by decide) (by rfl)) (by decide) rfl rfl fl_X9_47 dX9_spread_131 rfl ?_
          refine mw_iload_n (n := 135) (q := 3) dX9_spread_134 rfl rfl rfl ?_
          refine mw_aload_n (n := 136) (q := 0) dX9_spread_135 rfl rfl rfl ?_
          refine mw_getr (n := 139) (a := 82) (k := 18) cl9 (mkm hg (by decide) (by rfl)) (by decide) rfl rfl fl_X9_47 dX9_spread_136 rfl ?_
          refine mw_aload_n (n := 140) (q := 0) dX9_spread_139 rfl rfl rfl ?_
          refine mw_getr (n := 143) (a := 82) (k := 19) cl9 (mkm hg (by decide) (by rfl)) (by decide) rfl rfl fl_X9_50 dX9_spread_140 rfl ?_
          refine mw_iload_n (n := 144) (q := 2) dX9_spread_143 rfl rfl rfl ?_
          refine mw_iald (n := 145) (a := 96) (N := 1000) (mkm hg (by decide) (by rfl)) dX9_spread_144 rfl ?_
          refine mw_iald (n := 146) (a := 95) (N := 1000) (mkm hg (by decide) (by rfl)) dX9_spread_145 rfl ?_
          refine mw_iconst (n := 147) (v := 1) dX9_spread_146 rfl (by decide) ?_
          refine mw_iadd (n := 148) dX9_spread_147 rfl ?_
          refine mw_iast (n := 149) (a := 95) (N := 1000) (mkm hg (by decide) (by rfl)) dX9_spread_148 rfl (mw_leth (fun h5 => ?_))
          refine mw_aload_n (n := 150) (q := 0) dX9_spread_149 rfl rfl rfl ?_
          refine mw_getr (n := 153) (a := 82) (k := 19) cl9 (mkm hg (by decide) (by rfl)) (by decide) rfl rfl fl_X9_50 dX9_spread_150 rfl ?_
          refine mw_iload_n (n := 154) (q := 1) dX9_spread_153 rfl rfl rfl ?_
          refine mw_iload_n (n := 155) (q := 3) dX9_spread_154 rfl rfl rfl ?_
          refine mw_iast (n := 156) (a := 96) (N := 1000) (mkm hg (by decide) (by rfl)) dX9_spread_155 rfl (mw_leth (fun h6 => ?_))
          refine mw_iinc (n := 159) (q := 1) (v := (v1 + (1 : Int32))) dX9_spread_156 rfl rfl rfl (by decide) rfl ?_
          refine mw_sub [1, 0, 2, 3] rfl ?_
          exact b_X9_spread_159 hg N (v1 + (1 : Int32)) v2 v3 self80 hself80 self87 hself87 h6
noncomputable def x_X9_spread_80 (N : Nat) (f : Nat) : Int32 → Int32 → mH → Option (Int32 × mH) :=
  Nat.rec (motive := fun _ => Int32 → Int32 → mH → Option (Int32 × mH)) (fun _ _ _ => none) (fun _ self80 => fun v1 v2 h => 
    if v1 ≤ v2 then
      some (v1, h)
    else
      x_X9_spread_87 N self80 v2 N v1 (0 : Int32) h) f
theorem x_X9_spread_80_0 (N : Nat) (v1 : Int32) (v2 : Int32) (h : mH) : x_X9_spread_80 N 0 v1 v2 h = none := rfl
theorem x_X9_spread_80_s (N : Nat) (f : Nat) (v1 : Int32) (v2 : Int32) (h : mH) : x_X9_spread_80 N (f + 1) v1 v2 h = (
    if v1 ≤ v2 then
      some (v1, h)
    else
      x_X9_spread_87 N (x_X9_spread_80 N f) v2 N v1 (0 : Int32) h) := rfl
set_option maxRecDepth 20000 in
set_option maxHeartbeats 4000000 in
theorem b_X9_spread_80 {g : mG} {l : Launch} (hg : mnn g = 101) (N : Nat) (f : Nat) : ∀ (v1 : Int32) (v2 : Int32) (h : mH), mw g l 3 mX9_spread (fun r : Int32 × mH => (some (Value.int r.1), r.2)) 80 [(0, .ref (mad g 82)), (1, .int v1), (2, .int v2)] [] h (x_X9_spread_80 N f v1 v2 h) := by
  induction f with
  | zero => intros; exact mw_none
  | succ f hself80 =>
    intro v1 v2 h
    refine mw_eq (x_X9_spread_80_s N f v1 v2 h) ?_
    generalize x_X9_spread_80 N f = self80 at hself80 ⊢
    refine mw_iload_n (n := 81) (q := 2) dX9_spread_80 rfl rfl rfl ?_
    refine mw_iload_n (n := 82) (q := 1) dX9_spread_81 rfl rfl rfl ?_
    refine mw_icmp_ge (n := 85) (t := 171) dX9_spread_82 rfl (by decide) Iff.rfl (fun c1 => ?_) (fun c1 => ?_)
    · refine mw_iload_n (n := 172) (q := 1) dX9_spread_171 rfl rfl rfl ?_
      exact mw_iret dX9_spread_172 rfl rfl
    · refine mw_iconst (n := 86) (v := 0) dX9_spread_85 rfl (by decide) ?_
      refine mw_istore_n (n := 87) dX9_spread_86 rfl rfl (by decide) rfl ?_
      refine mw_sub [1, 2, 3, 0] rfl ?_
      exact b_X9_spread_87 hg N v2 self80 hself80 N v1 (0 : Int32) h
noncomputable def x_X9_spread_11 (N : Nat) (f : Nat) : Int32 → mH → Option (Int32 × mH) :=
  Nat.rec (motive := fun _ => Int32 → mH → Option (Int32 × mH)) (fun _ _ => none) (fun _ self11 => fun v1 h => 
    if (mgi h 82 17) ≤ v1 then
      if ¬ (mgi h 85 31) = (-9 : Int32) then
        (x_X9_place N (mgi h 85 31) h).bind fun q3 =>
        mlet (msi h 96 0 q3) fun h4 =>
        mck (mgi h4 96 0) 1000 <|
        mlet (msi h4 95 ((mgi h4 96 0)).toNatClampNeg (0 : Int32)) fun h5 =>
        x_X9_spread_80 N N (1 : Int32) (0 : Int32) h5
      else
        some ((0 : Int32), h)
    else
      mck v1 1000 <|
      mlet (msi h 95 (v1).toNatClampNeg (-9 : Int32)) fun h6 =>
      self11 (v1 + (1 : Int32)) h6) f
theorem x_X9_spread_11_0 (N : Nat) (v1 : Int32) (h : mH) : x_X9_spread_11 N 0 v1 h = none := rfl
theorem x_X9_spread_11_s (N : Nat) (f : Nat) (v1 : Int32) (h : mH) : x_X9_spread_11 N (f + 1) v1 h = (
    if (mgi h 82 17) ≤ v1 then
      if ¬ (mgi h 85 31) = (-9 : Int32) then
        (x_X9_place N (mgi h 85 31) h).bind fun q3 =>
        mlet (msi h 96 0 q3) fun h4 =>
        mck (mgi h4 96 0) 1000 <|
        mlet (msi h4 95 ((mgi h4 96 0)).toNatClampNeg (0 : Int32)) fun h5 =>
        x_X9_spread_80 N N (1 : Int32) (0 : Int32) h5
      else
        some ((0 : Int32), h)
    else
      mck v1 1000 <|
      mlet (msi h 95 (v1).toNatClampNeg (-9 : Int32)) fun h6 =>
      (x_X9_spread_11 N f) (v1 + (1 : Int32)) h6) := rfl
set_option maxRecDepth 20000 in
set_option maxHeartbeats 4000000 in
theorem b_X9_spread_11 {g : mG} {l : Launch} (hg : mnn g = 101) (N : Nat) (f : Nat) : ∀ (v1 : Int32) (h : mH), mw g l 3 mX9_spread (fun r : Int32 × mH => (some (Value.int r.1), r.2)) 11 [(0, .ref (mad g 82)), (1, .int v1)] [] h (x_X9_spread_11 N f v1 h) := by
  induction f with
  | zero => intros; exact mw_none
  | succ f hself11 =>
    intro v1 h
    refine mw_eq (x_X9_spread_11_s N f v1 h) ?_
    generalize x_X9_spread_11 N f = self11 at hself11 ⊢
    refine mw_iload_n (n := 12) (q := 1) dX9_spread_11 rfl rfl rfl ?_
    refine mw_aload_n (n := 13) (q := 0) dX9_spread_12 rfl rfl rfl ?_
    refine mw_geti (n := 16) (a := 82) (k := 17) cl9 (mkm hg (by decide) (by rfl)) (by decide) rfl rfl fl_X9_112 dX9_spread_13 rfl ?_
    refine mw_icmp_ge (n := 19) (t := 33) dX9_spread_16 rfl (by decide) Iff.rfl (fun c1 => ?_) (fun c1 => ?_)
    · refine mw_aload_n (n := 34) (q := 0) dX9_spread_33 rfl rfl rfl ?_
      refine mw_getr (n := 37) (a := 82) (k := 4) cl9 (mkm hg (by decide) (by rfl)) (by decide) rfl rfl fl_X9_16 dX9_spread_34 rfl ?_
      refine mw_bipush (n := 39) (v := 31) dX9_spread_37 rfl (by decide) ?_
      refine mw_iaLd (n := 40) (a := 85) (j := 31) (N := 32) (mkm hg (by decide) (by rfl)) (by decide) (by decide) dX9_spread_39 rfl ?_
      refine mw_bipush (n := 42) (v := -9) dX9_spread_40 rfl (by decide) ?_
      refine mw_icmp_ne (n := 45) (t := 47) dX9_spread_42 rfl (by decide) Iff.rfl (fun c2 => ?_) (fun c2 => ?_)
      · refine mw_aload_n (n := 48) (q := 0) dX9_spread_47 rfl rfl rfl ?_
        refine mw_getr (n := 51) (a := 82) (k := 19) cl9 (mkm hg (by decide) (by rfl)) (by decide) rfl rfl fl_X9_50 dX9_spread_48 rfl ?_
        refine mw_iconst (n := 52) (v := 0) dX9_spread_51 rfl (by decide) ?_
        refine mw_aload_n (n := 53) (q := 0) dX9_spread_52 rfl rfl rfl ?_
        refine mw_aload_n (n := 54) (q := 0) dX9_spread_53 rfl rfl rfl ?_
        refine mw_getr (n := 57) (a := 82) (k := 4) cl9 (mkm hg (by decide) (by rfl)) (by decide) rfl rfl fl_X9_16 dX9_spread_54 rfl ?_
        refine mw_bipush (n := 59) (v := 31) dX9_spread_57 rfl (by decide) ?_
        refine mw_iaLd (n := 60) (a := 85) (j := 31) (N := 32) (mkm hg (by decide) (by rfl)) (by decide) (by decide) dX9_spread_59 rfl ?_
        refine mw_callV (n := 63) (a := 82) (As := [.int (mgi h 85 31)]) cl9 (mkm hg (by decide) (by rfl)) (t_X9_place hg N (mgi h 85 31) h) (by decide) ok_X9_place rfl rfl lk_X9_126 im_X9_place se_X9_place dX9_spread_60 rfl rfl (Nat.le_of_ble_eq_true rfl) (fun q3 _ => ?_)
        show mw g l _ _ _ 63 _ [.int q3, .int (0 : Int32), .ref (mad g 96)] h _
        refine mw_iaSt (n := 64) (a := 96) (j := 0) (N := 1000) (mkm hg (by decide) (by rfl)) (by decide) (by decide) dX9_spread_63 rfl (mw_leth (fun h4 => ?_))
        refine mw_aload_n (n := 65) (q := 0) dX9_spread_64 rfl rfl rfl ?_
        refine mw_getr (n := 68) (a := 82) (k := 18) cl9 (mkm hg (by decide) (by rfl)) (by decide) rfl rfl fl_X9_47 dX9_spread_65 rfl ?_
        refine mw_aload_n (n := 69) (q := 0) dX9_spread_68 rfl rfl rfl ?_
        refine mw_getr (n := 72) (a := 82) (k := 19) cl9 (mkm hg (by decide) (by rfl)) (by decide) rfl rfl fl_X9_50 dX9_spread_69 rfl ?_
        refine mw_iconst (n := 73) (v := 0) dX9_spread_72 rfl (by decide) ?_
        refine mw_iaLd (n := 74) (a := 96) (j := 0) (N := 1000) (mkm hg (by decide) (by rfl)) (by decide) (by decide) dX9_spread_73 rfl ?_
        refine mw_iconst (n := 75) (v := 0) dX9_spread_74 rfl (by decide) ?_
        refine mw_iast (n := 76) (a := 95) (N := 1000) (mkm hg (by decide) (by rfl)) dX9_spread_75 rfl (mw_leth (fun h5 => ?_))
        refine mw_iconst (n := 77) (v := 1) dX9_spread_76 rfl (by decide) ?_
        refine mw_istore_n (n := 78) dX9_spread_77 rfl rfl (by decide) rfl ?_
        refine mw_iconst (n := 79) (v := 0) dX9_spread_78 rfl (by decide) ?_
        refine mw_istore_n (n := 80) dX9_spread_79 rfl rfl (by decide) rfl ?_
        refine mw_sub [2, 1, 0] rfl ?_
        exact b_X9_spread_80 hg N N (1 : Int32) (0 : Int32) h5
      · refine mw_iconst (n := 46) (v := 0) dX9_spread_45 rfl (by decide) ?_
        exact mw_iret dX9_spread_46 rfl rfl
    · refine mw_aload_n (n := 20) (q := 0) dX9_spread_19 rfl rfl rfl ?_
      refine mw_getr (n := 23) (a := 82) (k := 18) cl9 (mkm hg (by decide) (by rfl)) (by decide) rfl rfl fl_X9_47 dX9_spread_20 rfl ?_
      refine mw_iload_n (n := 24) (q := 1) dX9_spread_23 rfl rfl rfl ?_
      refine mw_bipush (n := 26) (v := -9) dX9_spread_24 rfl (by decide) ?_
      refine mw_iast (n := 27) (a := 95) (N := 1000) (mkm hg (by decide) (by rfl)) dX9_spread_26 rfl (mw_leth (fun h6 => ?_))
      refine mw_iinc (n := 30) (q := 1) (v := (v1 + (1 : Int32))) dX9_spread_27 rfl rfl rfl (by decide) rfl ?_
      refine mw_goto (n := 11) dX9_spread_30 (by decide) ?_
      refine mw_sub [1, 0] rfl ?_
      exact hself11 (v1 + (1 : Int32)) h6
noncomputable def x_X9_spread (N : Nat) (h : mH) : Option (Int32 × mH) :=
  (x_X9_list N 85 (1 : Int32) h).bind fun q1 =>
  x_X9_spread_11 N N (0 : Int32) q1
set_option maxRecDepth 20000 in
set_option maxHeartbeats 4000000 in
theorem t_X9_spread {g : mG} {l : Launch} (hg : mnn g = 101) (N : Nat) (h : mH) : mf g l 3 mX9_spread (fun r : Int32 × mH => (some (Value.int r.1), r.2)) [.ref (mad g 82)] h (x_X9_spread N h) := by
  refine mf_of (by decide) (Nat.le_of_ble_eq_true rfl) ?_
  show mw g l 3 mX9_spread (fun r : Int32 × mH => (some (Value.int r.1), r.2)) 0 [(0, .ref (mad g 82))] [] h _
  unfold x_X9_spread
  refine mw_aload_n (n := 1) (q := 0) dX9_spread_0 rfl rfl rfl ?_
  refine mw_aload_n (n := 2) (q := 0) dX9_spread_1 rfl rfl rfl ?_
  refine mw_getr (n := 5) (a := 82) (k := 4) cl9 (mkm hg (by decide) (by rfl)) (by decide) rfl rfl fl_X9_16 dX9_spread_2 rfl ?_
  refine mw_iconst (n := 6) (v := 1) dX9_spread_5 rfl (by decide) ?_
  refine mw_callV (n := 9) (a := 82) (As := [.ref (mad g 85), .int (1 : Int32)]) cl9 (mkm hg (by decide) (by rfl)) (t_X9_list hg N 85 (1 : Int32) (mkm hg (by decide) (by rfl)) h) (by decide) ok_X9_list rfl rfl lk_X9_122 im_X9_list se_X9_list dX9_spread_6 rfl rfl (Nat.le_of_ble_eq_true rfl) (fun q1 _ => ?_)
  show mw g l _ _ _ 9 _ [] q1 _
  refine mw_iconst (n := 10) (v := 0) dX9_spread_9 rfl (by decide) ?_
  refine mw_istore_n (n := 11) dX9_spread_10 rfl rfl (by decide) rfl ?_
  refine mw_sub [1, 0] rfl ?_
  exact b_X9_spread_11 hg N N (0 : Int32) q1
noncomputable def x_X9_reached (N : Nat) (h : mH) : Option (Int32 × mH) :=
  mlet (msi h 82 0 (0 : Int32)) fun h1 =>
  (x_X9_spread N h1).bind fun q2 =>
  some (q2.1, q2.2)
set_option maxRecDepth 20000 in
set_option maxHeartbeats 4000000 in
theorem t_X9_reached {g : mG} {l : Launch} (hg : mnn g = 101) (N : Nat) (h : mH) : mf g l 4 mX9_reached (fun r : Int32 × mH => (some (Value.int r.1), r.2)) [.ref (mad g 82)] h (x_X9_reached N h) := by
  refine mf_of (by decide) (Nat.le_of_ble_eq_true rfl) ?_
  show mw g l 4 mX9_reached (fun r : Int32 × mH => (some (Value.int r.1), r.2)) 0 [(0, .ref (mad g 82))] [] h _
  unfold x_X9_reached
  refine mw_aload_n (n := 1) (q := 0) dX9_reached_0 rfl rfl rfl ?_
  refine mw_iconst (n := 2) (v := 0) dX9_reached_1 rfl (by decide) ?_
  refine mw_puti (n := 5) (a := 82) (k := 0) cl9 ct9 (mkm hg (by decide) (by rfl)) (by decide) rfl rfl rfl rfl fl_X9_65 dX9_reached_2 rfl (mw_leth (fun h1 => ?_))
  refine mw_aload_n (n := 6) (q := 0) dX9_reached_5 rfl rfl rfl ?_
  refine mw_callV (n := 9) (a := 82) (As := []) cl9 (mkm hg (by decide) (by rfl)) (t_X9_spread hg N h1) (by decide) ok_X9_spread rfl rfl lk_X9_208 im_X9_spread se_X9_spread dX9_reached_6 rfl rfl (Nat.le_of_ble_eq_true rfl) (fun q2 _ => ?_)
  show mw g l _ _ _ 9 _ [.int q2.1] q2.2 _
  exact mw_iret dX9_reached_9 rfl rfl
noncomputable def x_X9_apart (N : Nat) (p0 : Int32) (h : mH) : Option (Int32 × mH) :=
  mlet (msi h 82 0 (0 : Int32)) fun h1 =>
  (x_X9_in ((p0).toInt64) (0 : Int64) (1 : Int64)).bind fun q2 =>
  if ¬ q2 = 0 then
    mck p0 2 <|
    if ¬ (mgi h1 89 (p0).toNatClampNeg) = 0 then
      mlet ((32 : Int32) * p0) fun u5 =>
      mck (u5 + (31 : Int32)) 64 <|
      mlet (mgi h1 88 ((u5 + (31 : Int32))).toNatClampNeg) fun u6 =>
      mck u5 64 <|
      if ¬ (mgi h1 88 (u5).toNatClampNeg) = (mgi h1 85 0) then
        some ((-9 : Int32), h1)
      else
        mck (u5 + (1 : Int32)) 64 <|
        if ¬ (mgi h1 88 ((u5 + (1 : Int32))).toNatClampNeg) = (mgi h1 85 1) then
          some ((-9 : Int32), h1)
        else
          if u6 = (-9 : Int32) then
            some ((-9 : Int32), h1)
          else
            if ¬ (mgi h1 85 31) = (-9 : Int32) then
              (x_X9_spread N h1).bind fun q11 =>
              (x_X9_place N u6 q11.2).bind fun q12 =>
              if ¬ q12 = (-9 : Int32) then
                mck q12 1000 <|
                some ((mgi q11.2 95 (q12).toNatClampNeg), q11.2)
              else
                some ((-9 : Int32), q11.2)
            else
              some ((-9 : Int32), h1)
    else
      some ((-3 : Int32), h1)
  else
    some ((-1 : Int32), h1)
set_option maxRecDepth 20000 in
set_option maxHeartbeats 4000000 in
theorem t_X9_apart {g : mG} {l : Launch} (hg : mnn g = 101) (N : Nat) (p0 : Int32) (h : mH) : mf g l 4 mX9_apart (fun r : Int32 × mH => (some (Value.int r.1), r.2)) [.ref (mad g 82), .int p0] h (x_X9_apart N p0 h) := by
  refine mf_of (by decide) (Nat.le_of_ble_eq_true rfl) ?_
  show mw g l 4 mX9_apart (fun r : Int32 × mH => (some (Value.int r.1), r.2)) 0 [(0, .ref (mad g 82)), (1, .int p0)] [] h _
  unfold x_X9_apart
  refine mw_aload_n (n := 1) (q := 0) dX9_apart_0 rfl rfl rfl ?_
  refine mw_iconst (n := 2) (v := 0) dX9_apart_1 rfl (by decide) ?_
  refine mw_puti (n := 5) (a := 82) (k := 0) cl9 ct9 (mkm hg (by decide) (by rfl)) (by decide) rfl rfl rfl rfl fl_X9_65 dX9_apart_2 rfl (mw_leth (fun h1 => ?_))
  refine mw_iload_n (n := 6) (q := 1) dX9_apart_5 rfl rfl rfl ?_
  refine mw_i2l (n := 7) dX9_apart_6 rfl ?_
  refine mw_lconst (n := 8) (v := 0) dX9_apart_7 rfl (by decide) ?_
  refine mw_lconst (n := 9) (v := 1) dX9_apart_8 rfl (by decide) ?_
  refine mw_callS (n := 12) (As := [.long (p0).toInt64, .long (0 : Int64), .long (1 : Int64)]) (t_X9_in hg ((p0).toInt64) (0 : Int64) (1 : Int64) h1) (by decide) ok_X9_in rfl lk_X9_77 sm_X9_in dX9_apart_9 rfl rfl (Nat.le_of_ble_eq_true rfl) (fun q2 _ => ?_)
  show mw g l _ _ _ 12 _ [.int q2] h1 _
  refine mw_if_ne (n := 15) (t := 17) dX9_apart_12 rfl (by decide) Iff.rfl (fun c3 => ?_) (fun c3 => ?_)
  · refine mw_aload_n (n := 18) (q := 0) dX9_apart_17 rfl rfl rfl ?_
    refine mw_getr (n := 21) (a := 82) (k := 9) cl9 (mkm hg (by decide) (by rfl)) (by decide) rfl rfl fl_X9_28 dX9_apart_18 rfl ?_
    refine mw_iload_n (n := 22) (q := 1) dX9_apart_21 rfl rfl rfl ?_
    refine mw_zald (n := 23) (a := 89) (mkm hg (by decide) (by rfl)) dX9_apart_22 rfl ?_
    refine mw_if_ne (n := 26) (t := 29) dX9_apart_23 rfl (by decide) Iff.rfl (fun c4 => ?_) (fun c4 => ?_)
    · refine mw_bipush (n := 31) (v := 32) dX9_apart_29 rfl (by decide) ?_
      refine mw_iload_n (n := 32) (q := 1) dX9_apart_31 rfl rfl rfl ?_
      refine mw_imul (n := 33) dX9_apart_32 rfl ?_
      refine mw_letI (fun u5 => ?_)
      refine mw_istore_n (n := 34) dX9_apart_33 rfl rfl (by decide) rfl ?_
      refine mw_aload_n (n := 35) (q := 1) dX9_apart_34 rfl rfl rfl ?_
      refine mw_getr (n := 38) (a := 82) (k := 8) cl9 (mkm hg (by decide) (by rfl)) (by decide) rfl rfl fl_X9_25 dX9_apart_35 rfl ?_
      refine mw_iload_n (n := 39) (q := 0) dX9_apart_38 rfl rfl rfl ?_
      refine mw_bipush (n := 41) (v := 31) dX9_apart_39 rfl (by decide) ?_
      refine mw_iadd (n := 42) dX9_apart_41 rfl ?_
      refine mw_iald (n := 43) (a := 88) (N := 64) (mkm hg (by decide) (by rfl)) dX9_apart_42 rfl ?_
      refine mw_letI (fun u6 => ?_)
      refine mw_istore_n (n := 44) dX9_apart_43 rfl rfl (by decide) rfl ?_
      refine mw_aload_n (n := 45) (q := 2) dX9_apart_44 rfl rfl rfl ?_
      refine mw_getr (n := 48) (a := 82) (k := 8) cl9 (mkm hg (by decide) (by rfl)) (by decide) rfl rfl fl_X9_25 dX9_apart_45 rfl ?_
      refine mw_iload_n (n := 49) (q := 1) dX9_apart_48 rfl rfl rfl ?_
      refine mw_iald (n := 50) (a := 88) (N := 64) (mkm hg (by decide) (by rfl)) dX9_apart_49 rfl ?_
      refine mw_aload_n (n := 51) (q := 2) dX9_apart_50 rfl rfl rfl ?_
      refine mw_getr (n := 54) (a := 82) (k := 4) cl9 (mkm hg (by decide) (by rfl)) (by decide) rfl rfl fl_X9_16 dX9_apart_51 rfl ?_
      refine mw_iconst (n := 55) (v := 0) dX9_apart_54 rfl (by decide) ?_
      refine mw_iaLd (n := 56) (a := 85) (j := 0) (N := 32) (mkm hg (by decide) (by rfl)) (by decide) (by decide) dX9_apart_55 rfl ?_
      refine mw_icmp_ne (n := 59) (t := 94) dX9_apart_56 rfl (by decide) Iff.rfl (fun c7 => ?_) (fun c7 => ?_)
      · refine mw_bipush (n := 96) (v := -9) dX9_apart_94 rfl (by decide) ?_
        exact mw_iret dX9_apart_96 rfl rfl
      · refine mw_aload_n (n := 60) (q := 2) dX9_apart_59 rfl rfl rfl ?_
        refine mw_getr (n := 63) (a := 82) (k := 8) cl9 (mkm hg (by decide) (by rfl)) (by decide) rfl rfl fl_X9_25 dX9_apart_60 rfl ?_
        refine mw_iload_n (n := 64) (q := 1) dX9_apart_63 rfl rfl rfl ?_
        refine mw_iconst (n := 65) (v := 1) dX9_apart_64 rfl (by decide) ?_
        refine mw_iadd (n := 66) dX9_apart_65 rfl ?_
        refine mw_iald (n := 67) (a := 88) (N := 64) (mkm hg (by decide) (by rfl)) dX9_apart_66 rfl ?_
        refine mw_aload_n (n := 68) (q := 2) dX9_apart_67 rfl rfl rfl ?_
        refine mw_getr (n := 71) (a := 82) (k := 4) cl9 (mkm hg (by decide) (by rfl)) (by decide) rfl rfl fl_X9_16 dX9_apart_68 rfl ?_
        refine mw_iconst (n := 72) (v := 1) dX9_apart_71 rfl (by decide) ?_
        refine mw_iaLd (n := 73) (a := 85) (j := 1) (N := 32) (mkm hg (by decide) (by rfl)) (by decide) (by decide) dX9_apart_72 rfl ?_
        refine mw_icmp_ne (n := 76) (t := 94) dX9_apart_73 rfl (by decide) Iff.rfl (fun c8 => ?_) (fun c8 => ?_)
        · refine mw_bipush (n := 96) (v := -9) dX9_apart_94 rfl (by decide) ?_
          exact mw_iret dX9_apart_96 rfl rfl
        · refine mw_iload_n (n := 77) (q := 0) dX9_apart_76 rfl rfl rfl ?_
          refine mw_bipush (n := 79) (v := -9) dX9_apart_77 rfl (by decide) ?_
          refine mw_icmp_eq (n := 82) (t := 94) dX9_apart_79 rfl (by decide) Iff.rfl (fun c9 => ?_) (fun c9 => ?_)
          · refine mw_bipush (n := 96) (v := -9) dX9_apart_94 rfl (by decide) ?_
            exact mw_iret dX9_apart_96 rfl rfl
          · refine mw_aload_n (n := 83) (q := 2) dX9_apart_82 rfl rfl rfl ?_
            refine mw_getr (n := 86) (a := 82) (k := 4) cl9 (mkm hg (by decide) (by rfl)) (by decide) rfl rfl fl_X9_16 dX9_apart_83 rfl ?_
            refine mw_bipush (n := 88) (v := 31) dX9_apart_86 rfl (by decide) ?_
            refine mw_iaLd (n := 89) (a := 85) (j := 31) (N := 32) (mkm hg (by decide) (by rfl)) (by decide) (by decide) dX9_apart_88 rfl ?_
            refine mw_bipush (n := 91) (v := -9) dX9_apart_89 rfl (by decide) ?_
            refine mw_icmp_ne (n := 94) (t := 97) dX9_apart_91 rfl (by decide) Iff.rfl (fun c10 => ?_) (fun c10 => ?_)
            · refine mw_aload_n (n := 98) (q := 2) dX9_apart_97 rfl rfl rfl ?_
              refine mw_callV (n := 101) (a := 82) (As := []) cl9 (mkm hg (by decide) (by rfl)) (t_X9_spread hg N h1) (by decide) ok_X9_spread rfl rfl lk_X9_208 im_X9_spread se_X9_spread dX9_apart_98 rfl rfl (Nat.le_of_ble_eq_true rfl) (fun q11 _ => ?_)
              show mw g l _ _ _ 101 _ [.int q11.1] q11.2 _
              refine mw_pop (n := 102) dX9_apart_101 rfl rfl ?_
              refine mw_aload_n (n := 103) (q := 2) dX9_apart_102 rfl rfl rfl ?_
              refine mw_iload_n (n := 104) (q := 0) dX9_apart_103 rfl rfl rfl ?_
              refine mw_callV (n := 107) (a := 82) (As := [.int u6]) cl9 (mkm hg (by decide) (by rfl)) (t_X9_place hg N u6 q11.2) (by decide) ok_X9_place rfl rfl lk_X9_126 im_X9_place se_X9_place dX9_apart_104 rfl rfl (Nat.le_of_ble_eq_true rfl) (fun q12 _ => ?_)
              show mw g l _ _ _ 107 _ [.int q12] q11.2 _
              refine mw_istore (n := 109) dX9_apart_107 rfl (by decide) rfl ?_
              refine mw_iload (n := 111) (q := 0) dX9_apart_109 rfl rfl ?_
              refine mw_bipush (n := 113) (v := -9) dX9_apart_111 rfl (by decide) ?_
              refine mw_icmp_ne (n := 116) (t := 121) dX9_apart_113 rfl (by decide) Iff.rfl (fun c13 => ?_) (fun c13 => ?_)
              · refine mw_aload_n (n := 122) (q := 3) dX9_apart_121 rfl rfl rfl ?_
                refine mw_getr (n := 125) (a := 82) (k := 18) cl9 (mkm hg (by decide) (by rfl)) (by decide) rfl rfl fl_X9_47 dX9_apart_122 rfl ?_
                refine mw_iload (n := 127) (q := 0) dX9_apart_125 rfl rfl ?_
                refine mw_iald (n := 128) (a := 95) (N := 1000) (mkm hg (by decide) (by rfl)) dX9_apart_127 rfl ?_
                exact mw_iret dX9_apart_128 rfl rfl
              · refine mw_bipush (n := 118) (v := -9) dX9_apart_116 rfl (by decide) ?_
                refine mw_goto (n := 128) dX9_apart_118 (by decide) ?_
                exact mw_iret dX9_apart_128 rfl rfl
            · refine mw_bipush (n := 96) (v := -9) dX9_apart_94 rfl (by decide) ?_
              exact mw_iret dX9_apart_96 rfl rfl
    · refine mw_bipush (n := 28) (v := -3) dX9_apart_26 rfl (by decide) ?_
      exact mw_iret dX9_apart_28 rfl rfl
  · refine mw_iconst (n := 16) (v := -1) dX9_apart_15 rfl (by decide) ?_
    exact mw_iret dX9_apart_16 rfl rfl
noncomputable def x_X9_tells_4 (N : Nat) (v1 : Int32) (h : mH) (f : Nat) : Int32 → Int32 → Option (Int32) :=
  Nat.rec (motive := fun _ => Int32 → Int32 → Option (Int32)) (fun _ _ => none) (fun _ self4 => fun v2 v3 => 
    if (mgi h 82 17) ≤ v3 then
      some (if ¬ v2 = (1 : Int32) then (0 : Int32) else (1 : Int32))
    else
      mck v3 1000 <|
      mlet (v2 + (if ¬ (((mgi h 94 (v3).toNatClampNeg) ^^^ (mgi h 85 31)) &&& v1) = 0 then (0 : Int32) else (1 : Int32))) fun u4 =>
      self4 u4 (v3 + (1 : Int32))) f
theorem x_X9_tells_4_0 (N : Nat) (v1 : Int32) (h : mH) (v2 : Int32) (v3 : Int32) : x_X9_tells_4 N v1 h 0 v2 v3 = none := rfl
theorem x_X9_tells_4_s (N : Nat) (v1 : Int32) (h : mH) (f : Nat) (v2 : Int32) (v3 : Int32) : x_X9_tells_4 N v1 h (f + 1) v2 v3 = (
    if (mgi h 82 17) ≤ v3 then
      some (if ¬ v2 = (1 : Int32) then (0 : Int32) else (1 : Int32))
    else
      mck v3 1000 <|
      mlet (v2 + (if ¬ (((mgi h 94 (v3).toNatClampNeg) ^^^ (mgi h 85 31)) &&& v1) = 0 then (0 : Int32) else (1 : Int32))) fun u4 =>
      (x_X9_tells_4 N v1 h f) u4 (v3 + (1 : Int32))) := rfl
set_option maxRecDepth 20000 in
set_option maxHeartbeats 4000000 in
theorem b_X9_tells_4 {g : mG} {l : Launch} (hg : mnn g = 101) (N : Nat) (v1 : Int32) (h : mH) (f : Nat) : ∀ (v2 : Int32) (v3 : Int32), mw g l 0 mX9_tells (fun r : Int32 => (some (Value.int r), h)) 4 [(0, .ref (mad g 82)), (1, .int v1), (2, .int v2), (3, .int v3)] [] h (x_X9_tells_4 N v1 h f v2 v3) := by
  induction f with
  | zero => intros; exact mw_none
  | succ f hself4 =>
    intro v2 v3
    refine mw_eq (x_X9_tells_4_s N v1 h f v2 v3) ?_
    generalize x_X9_tells_4 N v1 h f = self4 at hself4 ⊢
    refine mw_iload_n (n := 5) (q := 3) dX9_tells_4 rfl rfl rfl ?_
    refine mw_aload_n (n := 6) (q := 0) dX9_tells_5 rfl rfl rfl ?_
    refine mw_geti (n := 9) (a := 82) (k := 17) cl9 (mkm hg (by decide) (by rfl)) (by decide) rfl rfl fl_X9_112 dX9_tells_6 rfl ?_
    refine mw_icmp_ge (n := 12) (t := 45) dX9_tells_9 rfl (by decide) Iff.rfl (fun c1 => ?_) (fun c1 => ?_)
    · refine mw_iload_n (n := 46) (q := 2) dX9_tells_45 rfl rfl rfl ?_
      refine mw_iconst (n := 47) (v := 1) dX9_tells_46 rfl (by decide) ?_
      refine mw_cutJ (pc' := 55) (lv' := [(0, .ref (mad g 82)), (1, .int v1), (2, .int v2), (3, .int v3)]) (st' := [.int (if ¬ v2 = (1 : Int32) then (0 : Int32) else (1 : Int32))]) (fun J => ?_) ?_
      · refine mw_icmp_ne_m (n := 50) (t := 54) dX9_tells_47 rfl (by decide) (fun c2 => ?_) (fun c2 => ?_)
        · refine mw_iconst (n := 55) (v := 0) dX9_tells_54 rfl (by decide) ?_
          exact mw_topeq (if_pos c2).symm J
        · refine mw_iconst (n := 51) (v := 1) dX9_tells_50 rfl (by decide) ?_
          refine mw_goto (n := 55) dX9_tells_51 (by decide) ?_
          exact mw_topeq (if_neg c2).symm J
      exact mw_zret dX9_tells_55 rfl (mz01 (Or.inl rfl) (Or.inr rfl)) rfl
    · refine mw_iload_n (n := 13) (q := 2) dX9_tells_12 rfl rfl rfl ?_
      refine mw_aload_n (n := 14) (q := 0) dX9_tells_13 rfl rfl rfl ?_
      refine mw_getr (n := 17) (a := 82) (k := 16) cl9 (mkm hg (by decide) (by rfl)) (by decide) rfl rfl fl_X9_44 dX9_tells_14 rfl ?_
      refine mw_iload_n (n := 18) (q := 3) dX9_tells_17 rfl rfl rfl ?_
      refine mw_iald (n := 19) (a := 94) (N := 1000) (mkm hg (by decide) (by rfl)) dX9_tells_18 rfl ?_
      refine mw_aload_n (n := 20) (q := 0) dX9_tells_19 rfl rfl rfl ?_
      refine mw_getr (n := 23) (a := 82) (k := 4) cl9 (mkm hg (by decide) (by rfl)) (by decide) rfl rfl fl_X9_16 dX9_tells_20 rfl ?_
      refine mw_bipush (n := 25) (v := 31) dX9_tells_23 rfl (by decide) ?_
      refine mw_iaLd (n := 26) (a := 85) (j := 31) (N := 32) (mkm hg (by decide) (by rfl)) (by decide) (by decide) dX9_tells_25 rfl ?_
      refine mw_ixor (n := 27) dX9_tells_26 rfl ?_
      refine mw_iload_n (n := 28) (q := 1) dX9_tells_27 rfl rfl rfl ?_
      refine mw_iand (n := 29) dX9_tells_28 rfl ?_
      refine mw_cutJ (pc' := 37) (lv' := [(0, .ref (mad g 82)), (1, .int v1), (2, .int v2), (3, .int v3)]) (st' := [.int (if ¬ (((mgi h 94 (v3).toNatClampNeg) ^^^ (mgi h 85 31)) &&& v1) = 0 then (0 : Int32) else (1 : Int32)), .int v2]) (fun J => ?_) ?_
      · refine mw_if_ne_m (n := 32) (t := 36) dX9_tells_29 rfl (by decide) (fun c3 => ?_) (fun c3 => ?_)
        · refine mw_iconst (n := 37) (v := 0) dX9_tells_36 rfl (by decide) ?_
          exact mw_topeq (if_pos c3).symm J
        · refine mw_iconst (n := 33) (v := 1) dX9_tells_32 rfl (by decide) ?_
          refine mw_goto (n := 37) dX9_tells_33 (by decide) ?_
          exact mw_topeq (if_neg c3).symm J
      refine mw_iadd (n := 38) dX9_tells_37 rfl ?_
      refine mw_letI (fun u4 => ?_)
      refine mw_istore_n (n := 39) dX9_tells_38 rfl rfl (by decide) rfl ?_
      refine mw_iinc (n := 42) (q := 3) (v := (v3 + (1 : Int32))) dX9_tells_39 rfl rfl rfl (by decide) rfl ?_
      refine mw_goto (n := 4) dX9_tells_42 (by decide) ?_
      refine mw_sub [2, 3, 1, 0] rfl ?_
      exact hself4 u4 (v3 + (1 : Int32))
noncomputable def x_X9_tells (N : Nat) (p0 : Int32) (h : mH) : Option (Int32) :=
  x_X9_tells_4 N p0 h N (0 : Int32) (0 : Int32)
set_option maxRecDepth 20000 in
set_option maxHeartbeats 4000000 in
theorem t_X9_tells {g : mG} {l : Launch} (hg : mnn g = 101) (N : Nat) (p0 : Int32) (h : mH) : mf g l 0 mX9_tells (fun r : Int32 => (some (Value.int r), h)) [.ref (mad g 82), .int p0] h (x_X9_tells N p0 h) := by
  refine mf_of (by decide) (Nat.le_of_ble_eq_true rfl) ?_
  show mw g l 0 mX9_tells (fun r : Int32 => (some (Value.int r), h)) 0 [(0, .ref (mad g 82)), (1, .int p0)] [] h _
  unfold x_X9_tells
  refine mw_iconst (n := 1) (v := 0) dX9_tells_0 rfl (by decide) ?_
  refine mw_istore_n (n := 2) dX9_tells_1 rfl rfl (by decide) rfl ?_
  refine mw_iconst (n := 3) (v := 0) dX9_tells_2 rfl (by decide) ?_
  refine mw_istore_n (n := 4) dX9_tells_3 rfl rfl (by decide) rfl ?_
  refine mw_sub [2, 3, 1, 0] rfl ?_
  exact b_X9_tells_4 hg N p0 h N (0 : Int32) (0 : Int32)
