noncomputable def x_X1_columnsWith_30 (N : Nat) (self4 : Int32 → Int32 → Option (Int32)) (r0 : Nat) (v1 : Int32) (v2 : Int32) (v3 : Int32) (h : mH) : Option (Int32) :=
  self4 v2 (v3 + (1 : Int32))
set_option maxRecDepth 20000 in
set_option maxHeartbeats 4000000 in
theorem b_X1_columnsWith_30 {g : mG} {l : Launch} (hg : mOK g) (N : Nat) (r0 : Nat) (v1 : Int32) (v2 : Int32) (v3 : Int32) (h : mH) (self4 : Int32 → Int32 → Option (Int32)) (hself4 : ∀ (v2 : Int32) (v3 : Int32), mw g l 1 mX1_columnsWith (fun r : Int32 => (some (Value.int r), h)) 4 [(0, .ref (mad g r0)), (1, .int v1), (2, .int v2), (3, .int v3)] [] h (self4 v2 v3)) (hr0 : mkn g r0 6) : mw g l 1 mX1_columnsWith (fun r : Int32 => (some (Value.int r), h)) 30 [(0, .ref (mad g r0)), (1, .int v1), (2, .int v2), (3, .int v3)] [] h (x_X1_columnsWith_30 N self4 r0 v1 v2 v3 h) := by
  unfold x_X1_columnsWith_30
  refine mw_iinc (n := 33) (q := 3) (v := (v3 + (1 : Int32))) dX1_columnsWith_30 rfl rfl rfl (by decide) rfl ?_
  refine mw_goto (n := 4) dX1_columnsWith_33 (by decide) ?_
  refine mw_sub [1, 2, 3, 0] rfl ?_
  exact hself4 v2 (v3 + (1 : Int32))
noncomputable def x_X1_columnsWith_4 (N : Nat) (r0 : Nat) (v1 : Int32) (h : mH) (f : Nat) : Int32 → Int32 → Option (Int32) :=
  Nat.rec (motive := fun _ => Int32 → Int32 → Option (Int32)) (fun _ _ => none) (fun _ self4 => fun v2 v3 => 
    if (mgi h r0 1) ≤ v3 then
      some v2
    else
      (x_X6_totalOf r0 (1 : Int32) v3 h).bind fun q2 =>
      if (q2 &&& v1) = 0 then
        x_X1_columnsWith_30 N self4 r0 v1 v2 v3 h
      else
        (x_X8_columnBit v3).bind fun q4 =>
        mlet (v2 ||| q4) fun u5 =>
        x_X1_columnsWith_30 N self4 r0 v1 u5 v3 h) f
theorem x_X1_columnsWith_4_0 (N : Nat) (r0 : Nat) (v1 : Int32) (h : mH) (v2 : Int32) (v3 : Int32) : x_X1_columnsWith_4 N r0 v1 h 0 v2 v3 = none := rfl
theorem x_X1_columnsWith_4_s (N : Nat) (r0 : Nat) (v1 : Int32) (h : mH) (f : Nat) (v2 : Int32) (v3 : Int32) : x_X1_columnsWith_4 N r0 v1 h (f + 1) v2 v3 = (
    if (mgi h r0 1) ≤ v3 then
      some v2
    else
      (x_X6_totalOf r0 (1 : Int32) v3 h).bind fun q2 =>
      if (q2 &&& v1) = 0 then
        x_X1_columnsWith_30 N (x_X1_columnsWith_4 N r0 v1 h f) r0 v1 v2 v3 h
      else
        (x_X8_columnBit v3).bind fun q4 =>
        mlet (v2 ||| q4) fun u5 =>
        x_X1_columnsWith_30 N (x_X1_columnsWith_4 N r0 v1 h f) r0 v1 u5 v3 h) := rfl
set_option maxRecDepth 20000 in
set_option maxHeartbeats 4000000 in
theorem b_X1_columnsWith_4 {g : mG} {l : Launch} (hg : mOK g) (N : Nat) (r0 : Nat) (v1 : Int32) (h : mH) (hr0 : mkn g r0 6) (f : Nat) : ∀ (v2 : Int32) (v3 : Int32), mw g l 1 mX1_columnsWith (fun r : Int32 => (some (Value.int r), h)) 4 [(0, .ref (mad g r0)), (1, .int v1), (2, .int v2), (3, .int v3)] [] h (x_X1_columnsWith_4 N r0 v1 h f v2 v3) := by
  induction f with
  | zero => intros; exact mw_none
  | succ f hself4 =>
    intro v2 v3
    refine mw_eq (x_X1_columnsWith_4_s N r0 v1 h f v2 v3) ?_
    generalize x_X1_columnsWith_4 N r0 v1 h f = self4 at hself4 ⊢
    refine mw_iload_n (n := 5) (q := 3) dX1_columnsWith_4 rfl rfl rfl ?_
    refine mw_aload_n (n := 6) (q := 0) dX1_columnsWith_5 rfl rfl rfl ?_
    refine mw_geti (n := 9) (a := r0) (k := 1) cl6 hr0 (by decide) rfl rfl fl_X1_61 dX1_columnsWith_6 rfl ?_
    refine mw_icmp_ge (n := 12) (t := 36) dX1_columnsWith_9 rfl (by decide) Iff.rfl (fun c1 => ?_) (fun c1 => ?_)
    · refine mw_iload_n (n := 37) (q := 2) dX1_columnsWith_36 rfl rfl rfl ?_
      exact mw_iret dX1_columnsWith_37 rfl rfl
    · refine mw_aload_n (n := 13) (q := 0) dX1_columnsWith_12 rfl rfl rfl ?_
      refine mw_iconst (n := 14) (v := 1) dX1_columnsWith_13 rfl (by decide) ?_
      refine mw_iload_n (n := 15) (q := 3) dX1_columnsWith_14 rfl rfl rfl ?_
      refine mw_callV (n := 18) (a := r0) (As := [.int (1 : Int32), .int v3]) cl6 hr0 (t_X6_totalOf hg r0 (1 : Int32) v3 hr0 h) (by decide) ok_X6_totalOf rfl rfl lk_X1_64 im_X6_totalOf se_X6_totalOf dX1_columnsWith_15 rfl rfl (Nat.le_of_ble_eq_true rfl) (fun q2 _ => ?_)
      show mw g l _ _ _ 18 _ [.int q2] h _
      refine mw_iload_n (n := 19) (q := 1) dX1_columnsWith_18 rfl rfl rfl ?_
      refine mw_iand (n := 20) dX1_columnsWith_19 rfl ?_
      refine mw_if_eq (n := 23) (t := 30) dX1_columnsWith_20 rfl (by decide) Iff.rfl (fun c3 => ?_) (fun c3 => ?_)
      · exact b_X1_columnsWith_30 hg N r0 v1 v2 v3 h self4 hself4 hr0
      · refine mw_iload_n (n := 24) (q := 2) dX1_columnsWith_23 rfl rfl rfl ?_
        refine mw_iload_n (n := 25) (q := 3) dX1_columnsWith_24 rfl rfl rfl ?_
        refine mw_callN (n := 28) (As := [.int v3]) (t_X8_columnBit hg v3 h) (by decide) ok_X8_columnBit rfl ln_X1_68 sm_X8_columnBit dX1_columnsWith_25 rfl rfl (Nat.le_of_ble_eq_true rfl) (fun q4 _ => ?_)
        show mw g l _ _ _ 28 _ [.int q4, .int v2] h _
        refine mw_ior (n := 29) dX1_columnsWith_28 rfl ?_
        refine mw_letI (fun u5 => ?_)
        refine mw_istore_n (n := 30) dX1_columnsWith_29 rfl rfl (by decide) rfl ?_
        refine mw_sub [1, 2, 0, 3] rfl ?_
        exact b_X1_columnsWith_30 hg N r0 v1 u5 v3 h self4 hself4 hr0
noncomputable def x_X1_columnsWith (N : Nat) (p0 : Nat) (p1 : Int32) (h : mH) : Option (Int32) :=
  x_X1_columnsWith_4 N p0 p1 h N (0 : Int32) (0 : Int32)
set_option maxRecDepth 20000 in
set_option maxHeartbeats 4000000 in
theorem t_X1_columnsWith {g : mG} {l : Launch} (hg : mOK g) (N : Nat) (p0 : Nat) (p1 : Int32) (hp0 : mkn g p0 6) (h : mH) : mf g l 1 mX1_columnsWith (fun r : Int32 => (some (Value.int r), h)) [.ref (mad g p0), .int p1] h (x_X1_columnsWith N p0 p1 h) := by
  refine mf_of (by decide) (Nat.le_of_ble_eq_true rfl) ?_
  show mw g l 1 mX1_columnsWith (fun r : Int32 => (some (Value.int r), h)) 0 [(0, .ref (mad g p0)), (1, .int p1)] [] h _
  unfold x_X1_columnsWith
  refine mw_iconst (n := 1) (v := 0) dX1_columnsWith_0 rfl (by decide) ?_
  refine mw_istore_n (n := 2) dX1_columnsWith_1 rfl rfl (by decide) rfl ?_
  refine mw_iconst (n := 3) (v := 0) dX1_columnsWith_2 rfl (by decide) ?_
  refine mw_istore_n (n := 4) dX1_columnsWith_3 rfl rfl (by decide) rfl ?_
  refine mw_sub [2, 3, 1, 0] rfl ?_
  exact b_X1_columnsWith_4 hg N p0 p1 h hp0 N (0 : Int32) (0 : Int32)
noncomputable def x_X1_addUnpinned (t : Nat) (p0 : Int32) (h : mH) : Option (mH) :=
  if (310 : Int32) ≤ (mgi h t 1) then
    some h
  else
    mck (mgi h t 1) 310 <|
    mlet (msi h (t + 1) ((mgi h t 1)).toNatClampNeg p0) fun h2 =>
    mlet (msi h2 t 1 ((mgi h2 t 1) + (1 : Int32))) fun h3 =>
    some h3
set_option maxRecDepth 20000 in
set_option maxHeartbeats 4000000 in
theorem t_X1_addUnpinned {g : mG} {l : Launch} (hg : mOK g) (t : Nat) (p0 : Int32) (ht : mkn g t 1) (h : mH) : mf g l 0 mX1_addUnpinned (fun r : mH => ((none : Option Value), r)) [.ref (mad g t), .int p0] h (x_X1_addUnpinned t p0 h) := by
  refine mf_of (by decide) (Nat.le_of_ble_eq_true rfl) ?_
  show mw g l 0 mX1_addUnpinned (fun r : mH => ((none : Option Value), r)) 0 [(0, .ref (mad g t)), (1, .int p0)] [] h _
  unfold x_X1_addUnpinned
  refine mw_aload_n (n := 1) (q := 0) dX1_addUnpinned_0 rfl rfl rfl ?_
  refine mw_geti (n := 4) (a := t) (k := 1) cl1 ht (by decide) rfl rfl fl_X1_43 dX1_addUnpinned_1 rfl ?_
  refine mw_sipush (n := 7) (v := 310) dX1_addUnpinned_4 rfl (by decide) ?_
  refine mw_icmp_ge (n := 10) (t := 30) dX1_addUnpinned_7 rfl (by decide) Iff.rfl (fun c1 => ?_) (fun c1 => ?_)
  · exact mw_vret dX1_addUnpinned_30 rfl rfl
  · refine mw_aload_n (n := 11) (q := 0) dX1_addUnpinned_10 rfl rfl rfl ?_
    refine mw_getr (n := 14) (a := t) (k := 0) cl1 ht (by decide) rfl rfl fl_X1_9 dX1_addUnpinned_11 rfl ?_
    refine mw_aload_n (n := 15) (q := 0) dX1_addUnpinned_14 rfl rfl rfl ?_
    refine mw_geti (n := 18) (a := t) (k := 1) cl1 ht (by decide) rfl rfl fl_X1_43 dX1_addUnpinned_15 rfl ?_
    refine mw_iload_n (n := 19) (q := 1) dX1_addUnpinned_18 rfl rfl rfl ?_
    refine mw_iast (n := 20) (a := (t + 1)) (N := 310) (mk1_1 hg ht) dX1_addUnpinned_19 rfl (mw_leth (fun h2 => ?_))
    refine mw_aload_n (n := 21) (q := 0) dX1_addUnpinned_20 rfl rfl rfl ?_
    refine mw_dup (n := 22) dX1_addUnpinned_21 rfl rfl ?_
    refine mw_geti (n := 25) (a := t) (k := 1) cl1 ht (by decide) rfl rfl fl_X1_43 dX1_addUnpinned_22 rfl ?_
    refine mw_iconst (n := 26) (v := 1) dX1_addUnpinned_25 rfl (by decide) ?_
    refine mw_iadd (n := 27) dX1_addUnpinned_26 rfl ?_
    refine mw_puti (n := 30) (a := t) (k := 1) cl1 ct1 ht (by decide) rfl rfl rfl rfl fl_X1_43 dX1_addUnpinned_27 rfl (mw_leth (fun h3 => ?_))
    exact mw_vret dX1_addUnpinned_30 rfl rfl
noncomputable def x_X1_addFrom_207 (N : Nat) (xrec : Nat → Nat → Int32 → Int32 → Int32 → Int32 → Int32 → mH → Option (mH)) (self112 : Int32 → mH → Option (mH)) (r0 : Nat) (r1 : Nat) (v2 : Int32) (v3 : Int32) (v4 : Int32) (v5 : Int32) (v6 : Int32) (v7 : Int32) (v9 : Int32) (v10 : Int32) (v11 : Int32) (h : mH) : Option (mH) :=
  self112 (v11 + (1 : Int32)) h
set_option maxRecDepth 20000 in
set_option maxHeartbeats 4000000 in
theorem b_X1_addFrom_207 {g : mG} {l : Launch} (hg : mOK g) (N : Nat) (dd : Nat) (xrec : Nat → Nat → Int32 → Int32 → Int32 → Int32 → Int32 → mH → Option (mH)) (hrec : ∀ (p0 : Nat) (p1 : Nat) (p2 : Int32) (p3 : Int32) (p4 : Int32) (p5 : Int32) (p6 : Int32) (hp0 : mkn g p0 1) (hp1 : mkn g p1 6) (h : mH), mf g l (1 + dd) mX1_addFrom (fun r : mH => ((none : Option Value), r)) [.ref (mad g p0), .ref (mad g p1), .int p2, .int p3, .int p4, .int p5, .int p6] h (xrec p0 p1 p2 p3 p4 p5 p6 h)) (r0 : Nat) (r1 : Nat) (v2 : Int32) (v3 : Int32) (v4 : Int32) (v5 : Int32) (v6 : Int32) (v7 : Int32) (v9 : Int32) (v10 : Int32) (v11 : Int32) (self112 : Int32 → mH → Option (mH)) (hself112 : ∀ (v11 : Int32) (h : mH), mw g l (1 + dd + 1) mX1_addFrom (fun r : mH => ((none : Option Value), r)) 112 [(0, .ref (mad g r0)), (1, .ref (mad g r1)), (2, .int v2), (3, .int v3), (4, .int v4), (5, .int v5), (6, .int v6), (7, .int v7), (9, .int v9), (10, .int v10), (11, .int v11)] [] h (self112 v11 h)) (hr0 : mkn g r0 1) (hr1 : mkn g r1 6) (h : mH) : mw g l (1 + dd + 1) mX1_addFrom (fun r : mH => ((none : Option Value), r)) 207 [(0, .ref (mad g r0)), (1, .ref (mad g r1)), (2, .int v2), (3, .int v3), (4, .int v4), (5, .int v5), (6, .int v6), (7, .int v7), (9, .int v9), (10, .int v10), (11, .int v11)] [] h (x_X1_addFrom_207 N xrec self112 r0 r1 v2 v3 v4 v5 v6 v7 v9 v10 v11 h) := by
  unfold x_X1_addFrom_207
  refine mw_iinc (n := 210) (q := 10) (v := (v11 + (1 : Int32))) dX1_addFrom_207 rfl rfl rfl (by decide) rfl ?_
  refine mw_goto (n := 112) dX1_addFrom_210 (by decide) ?_
  refine mw_sub [1, 2, 3, 4, 5, 6, 7, 8, 9, 10, 0] rfl ?_
  exact hself112 (v11 + (1 : Int32)) h
noncomputable def x_X1_addFrom_112 (N : Nat) (xrec : Nat → Nat → Int32 → Int32 → Int32 → Int32 → Int32 → mH → Option (mH)) (r0 : Nat) (r1 : Nat) (v2 : Int32) (v3 : Int32) (v4 : Int32) (v5 : Int32) (v6 : Int32) (v7 : Int32) (v9 : Int32) (v10 : Int32) (f : Nat) : Int32 → mH → Option (mH) :=
  Nat.rec (motive := fun _ => Int32 → mH → Option (mH)) (fun _ _ => none) (fun _ self112 => fun v11 h => 
    mck (v7 + (1 : Int32)) 7 <|
    if (mFirst ((v7 + (1 : Int32))).toNatClampNeg) ≤ v11 then
      some h
    else
      mck v11 32 <|
      mlet (mRows (v11).toNatClampNeg) fun u2 =>
      if ¬ (u2 &&& v9) = v9 then
        x_X1_addFrom_207 N xrec self112 r0 r1 v2 v3 v4 v5 v6 v7 v9 v10 v11 h
      else
        if ¬ (u2 &&& (v10 ^^^ (-1 : Int32))) = 0 then
          x_X1_addFrom_207 N xrec self112 r0 r1 v2 v3 v4 v5 v6 v7 v9 v10 v11 h
        else
          mlet (u2 &&& (v4 ^^^ (-1 : Int32))) fun u5 =>
          mlet (u5 &&& (v5 ^^^ (-1 : Int32))) fun u6 =>
          (x_X6_placed r1 u2 v2 h).bind fun q7 =>
          mlet (v3 ||| q7) fun u8 =>
          (xrec r0 r1 (v2 + (1 : Int32)) u8 (v4 ^^^ u2) (v5 ^^^ u5) (v6 ^^^ u6) h).bind fun q9 =>
          x_X1_addFrom_207 N xrec self112 r0 r1 v2 v3 v4 v5 v6 v7 v9 v10 v11 q9) f
theorem x_X1_addFrom_112_0 (N : Nat) (xrec : Nat → Nat → Int32 → Int32 → Int32 → Int32 → Int32 → mH → Option (mH)) (r0 : Nat) (r1 : Nat) (v2 : Int32) (v3 : Int32) (v4 : Int32) (v5 : Int32) (v6 : Int32) (v7 : Int32) (v9 : Int32) (v10 : Int32) (v11 : Int32) (h : mH) : x_X1_addFrom_112 N xrec r0 r1 v2 v3 v4 v5 v6 v7 v9 v10 0 v11 h = none := rfl
theorem x_X1_addFrom_112_s (N : Nat) (xrec : Nat → Nat → Int32 → Int32 → Int32 → Int32 → Int32 → mH → Option (mH)) (r0 : Nat) (r1 : Nat) (v2 : Int32) (v3 : Int32) (v4 : Int32) (v5 : Int32) (v6 : Int32) (v7 : Int32) (v9 : Int32) (v10 : Int32) (f : Nat) (v11 : Int32) (h : mH) : x_X1_addFrom_112 N xrec r0 r1 v2 v3 v4 v5 v6 v7 v9 v10 (f + 1) v11 h = (
    mck (v7 + (1 : Int32)) 7 <|
    if (mFirst ((v7 + (1 : Int32))).toNatClampNeg) ≤ v11 then
      some h
    else
      mck v11 32 <|
      mlet (mRows (v11).toNatClampNeg) fun u2 =>
      if ¬ (u2 &&& v9) = v9 then
        x_X1_addFrom_207 N xrec (x_X1_addFrom_112 N xrec r0 r1 v2 v3 v4 v5 v6 v7 v9 v10 f) r0 r1 v2 v3 v4 v5 v6 v7 v9 v10 v11 h
      else
        if ¬ (u2 &&& (v10 ^^^ (-1 : Int32))) = 0 then
          x_X1_addFrom_207 N xrec (x_X1_addFrom_112 N xrec r0 r1 v2 v3 v4 v5 v6 v7 v9 v10 f) r0 r1 v2 v3 v4 v5 v6 v7 v9 v10 v11 h
        else
          mlet (u2 &&& (v4 ^^^ (-1 : Int32))) fun u5 =>
          mlet (u5 &&& (v5 ^^^ (-1 : Int32))) fun u6 =>
          (x_X6_placed r1 u2 v2 h).bind fun q7 =>
          mlet (v3 ||| q7) fun u8 =>
          (xrec r0 r1 (v2 + (1 : Int32)) u8 (v4 ^^^ u2) (v5 ^^^ u5) (v6 ^^^ u6) h).bind fun q9 =>
          x_X1_addFrom_207 N xrec (x_X1_addFrom_112 N xrec r0 r1 v2 v3 v4 v5 v6 v7 v9 v10 f) r0 r1 v2 v3 v4 v5 v6 v7 v9 v10 v11 q9) := rfl
set_option maxRecDepth 20000 in
set_option maxHeartbeats 4000000 in
theorem b_X1_addFrom_112 {g : mG} {l : Launch} (hg : mOK g) (N : Nat) (dd : Nat) (xrec : Nat → Nat → Int32 → Int32 → Int32 → Int32 → Int32 → mH → Option (mH)) (hrec : ∀ (p0 : Nat) (p1 : Nat) (p2 : Int32) (p3 : Int32) (p4 : Int32) (p5 : Int32) (p6 : Int32) (hp0 : mkn g p0 1) (hp1 : mkn g p1 6) (h : mH), mf g l (1 + dd) mX1_addFrom (fun r : mH => ((none : Option Value), r)) [.ref (mad g p0), .ref (mad g p1), .int p2, .int p3, .int p4, .int p5, .int p6] h (xrec p0 p1 p2 p3 p4 p5 p6 h)) (r0 : Nat) (r1 : Nat) (v2 : Int32) (v3 : Int32) (v4 : Int32) (v5 : Int32) (v6 : Int32) (v7 : Int32) (v9 : Int32) (v10 : Int32) (hr0 : mkn g r0 1) (hr1 : mkn g r1 6) (f : Nat) : ∀ (v11 : Int32) (h : mH), mw g l (1 + dd + 1) mX1_addFrom (fun r : mH => ((none : Option Value), r)) 112 [(0, .ref (mad g r0)), (1, .ref (mad g r1)), (2, .int v2), (3, .int v3), (4, .int v4), (5, .int v5), (6, .int v6), (7, .int v7), (9, .int v9), (10, .int v10), (11, .int v11)] [] h (x_X1_addFrom_112 N xrec r0 r1 v2 v3 v4 v5 v6 v7 v9 v10 f v11 h) := by
  induction f with
  | zero => intros; exact mw_none
  | succ f hself112 =>
    intro v11 h
    refine mw_eq (x_X1_addFrom_112_s N xrec r0 r1 v2 v3 v4 v5 v6 v7 v9 v10 f v11 h) ?_
    generalize x_X1_addFrom_112 N xrec r0 r1 v2 v3 v4 v5 v6 v7 v9 v10 f = self112 at hself112 ⊢
    refine mw_iload (n := 114) (q := 10) dX1_addFrom_112 rfl rfl ?_
    refine mw_gsF (n := 117) fl_X1_83 dX1_addFrom_114 rfl ?_
    refine mw_iload (n := 119) (q := 7) dX1_addFrom_117 rfl rfl ?_
    refine mw_iconst (n := 120) (v := 1) dX1_addFrom_119 rfl (by decide) ?_
    refine mw_iadd (n := 121) dX1_addFrom_120 rfl ?_
    refine mw_ldF (n := 122) dX1_addFrom_121 rfl ?_
    refine mw_icmp_ge (n := 125) (t := 213) dX1_addFrom_122 rfl (by decide) Iff.rfl (fun c1 => ?_) (fun c1 => ?_)
    · exact mw_vret dX1_addFrom_213 rfl rfl
    · refine mw_gsR (n := 128) fl_X1_86 dX1_addFrom_125 rfl ?_
      refine mw_iload (n := 130) (q := 10) dX1_addFrom_128 rfl rfl ?_
      refine mw_ldR (n := 131) dX1_addFrom_130 rfl ?_
      refine mw_letI (fun u2 => ?_)
      refine mw_istore (n := 133) dX1_addFrom_131 rfl (by decide) rfl ?_
      refine mw_iload (n := 135) (q := 0) dX1_addFrom_133 rfl rfl ?_
      refine mw_iload (n := 137) (q := 9) dX1_addFrom_135 rfl rfl ?_
      refine mw_iand (n := 138) dX1_addFrom_137 rfl ?_
      refine mw_iload (n := 140) (q := 9) dX1_addFrom_138 rfl rfl ?_
      refine mw_icmp_ne (n := 143) (t := 207) dX1_addFrom_140 rfl (by decide) Iff.rfl (fun c3 => ?_) (fun c3 => ?_)
      · refine mw_sub [1, 2, 3, 4, 5, 6, 7, 8, 9, 10, 11] rfl ?_
        exact b_X1_addFrom_207 hg N dd xrec hrec r0 r1 v2 v3 v4 v5 v6 v7 v9 v10 v11 self112 hself112 hr0 hr1 h
      · refine mw_iload (n := 145) (q := 0) dX1_addFrom_143 rfl rfl ?_
        refine mw_iload (n := 147) (q := 10) dX1_addFrom_145 rfl rfl ?_
        refine mw_iconst (n := 148) (v := -1) dX1_addFrom_147 rfl (by decide) ?_
        refine mw_ixor (n := 149) dX1_addFrom_148 rfl ?_
        refine mw_iand (n := 150) dX1_addFrom_149 rfl ?_
        refine mw_if_ne (n := 153) (t := 207) dX1_addFrom_150 rfl (by decide) Iff.rfl (fun c4 => ?_) (fun c4 => ?_)
        · refine mw_sub [1, 2, 3, 4, 5, 6, 7, 8, 9, 10, 11] rfl ?_
          exact b_X1_addFrom_207 hg N dd xrec hrec r0 r1 v2 v3 v4 v5 v6 v7 v9 v10 v11 self112 hself112 hr0 hr1 h
        · refine mw_iload (n := 155) (q := 0) dX1_addFrom_153 rfl rfl ?_
          refine mw_iload (n := 157) (q := 5) dX1_addFrom_155 rfl rfl ?_
          refine mw_iconst (n := 158) (v := -1) dX1_addFrom_157 rfl (by decide) ?_
          refine mw_ixor (n := 159) dX1_addFrom_158 rfl ?_
          refine mw_iand (n := 160) dX1_addFrom_159 rfl ?_
          refine mw_letI (fun u5 => ?_)
          refine mw_istore (n := 162) dX1_addFrom_160 rfl (by decide) rfl ?_
          refine mw_iload (n := 164) (q := 0) dX1_addFrom_162 rfl rfl ?_
          refine mw_iload (n := 166) (q := 7) dX1_addFrom_164 rfl rfl ?_
          refine mw_iconst (n := 167) (v := -1) dX1_addFrom_166 rfl (by decide) ?_
          refine mw_ixor (n := 168) dX1_addFrom_167 rfl ?_
          refine mw_iand (n := 169) dX1_addFrom_168 rfl ?_
          refine mw_letI (fun u6 => ?_)
          refine mw_istore (n := 171) dX1_addFrom_169 rfl (by decide) rfl ?_
          refine mw_iload_n (n := 172) (q := 6) dX1_addFrom_171 rfl rfl rfl ?_
          refine mw_aload_n (n := 173) (q := 4) dX1_addFrom_172 rfl rfl rfl ?_
          refine mw_iload (n := 175) (q := 2) dX1_addFrom_173 rfl rfl ?_
          refine mw_iload_n (n := 176) (q := 5) dX1_addFrom_175 rfl rfl rfl ?_
          refine mw_callV (n := 179) (a := r1) (As := [.int u2, .int v2]) cl6 hr1 (t_X6_placed hg r1 u2 v2 hr1 h) (by omega) ok_X6_placed rfl rfl lk_X1_89 im_X6_placed se_X6_placed dX1_addFrom_176 rfl rfl (Nat.le_of_ble_eq_true rfl) (fun q7 _ => ?_)
          show mw g l _ _ _ 179 _ [.int q7, .int v3] h _
          refine mw_ior (n := 180) dX1_addFrom_179 rfl ?_
          refine mw_letI (fun u8 => ?_)
          refine mw_istore (n := 182) dX1_addFrom_180 rfl (by decide) rfl ?_
          refine mw_aload_n (n := 183) (q := 4) dX1_addFrom_182 rfl rfl rfl ?_
          refine mw_aload_n (n := 184) (q := 5) dX1_addFrom_183 rfl rfl rfl ?_
          refine mw_iload_n (n := 185) (q := 6) dX1_addFrom_184 rfl rfl rfl ?_
          refine mw_iconst (n := 186) (v := 1) dX1_addFrom_185 rfl (by decide) ?_
          refine mw_iadd (n := 187) dX1_addFrom_186 rfl ?_
          refine mw_iload (n := 189) (q := 0) dX1_addFrom_187 rfl rfl ?_
          refine mw_iload (n := 191) (q := 8) dX1_addFrom_189 rfl rfl ?_
          refine mw_iload (n := 193) (q := 3) dX1_addFrom_191 rfl rfl ?_
          refine mw_ixor (n := 194) dX1_addFrom_193 rfl ?_
          refine mw_iload (n := 196) (q := 9) dX1_addFrom_194 rfl rfl ?_
          refine mw_iload (n := 198) (q := 2) dX1_addFrom_196 rfl rfl ?_
          refine mw_ixor (n := 199) dX1_addFrom_198 rfl ?_
          refine mw_iload (n := 201) (q := 10) dX1_addFrom_199 rfl rfl ?_
          refine mw_iload (n := 203) (q := 1) dX1_addFrom_201 rfl rfl ?_
          refine mw_ixor (n := 204) dX1_addFrom_203 rfl ?_
          refine mw_callS (n := 207) (As := [.ref (mad g r0), .ref (mad g r1), .int (v2 + (1 : Int32)), .int u8, .int (v4 ^^^ u2), .int (v5 ^^^ u5), .int (v6 ^^^ u6)]) (hrec r0 r1 (v2 + (1 : Int32)) u8 (v4 ^^^ u2) (v5 ^^^ u5) (v6 ^^^ u6) hr0 hr1 h) (by omega) ok_X1_addFrom rfl lk_X1_50 sm_X1_addFrom dX1_addFrom_204 rfl rfl (Nat.le_of_ble_eq_true rfl) (fun q9 _ => ?_)
          show mw g l _ _ _ 207 _ [] q9 _
          refine mw_sub [4, 5, 6, 7, 8, 9, 10, 11, 12, 13, 14] rfl ?_
          exact b_X1_addFrom_207 hg N dd xrec hrec r0 r1 v2 v3 v4 v5 v6 v7 v9 v10 v11 self112 hself112 hr0 hr1 q9
noncomputable def x_X1_addFrom (N : Nat) (dd : Nat) : Nat → Nat → Int32 → Int32 → Int32 → Int32 → Int32 → mH → Option (mH) :=
  Nat.rec (motive := fun _ => Nat → Nat → Int32 → Int32 → Int32 → Int32 → Int32 → mH → Option (mH)) (fun _ _ _ _ _ _ _ _ => none) (fun _ xrec => fun p0 p1 p2 p3 p4 p5 p6 h =>
    (x_X6_hasRow p1 p2 h).bind fun q1 =>
    if ¬ q1 = 0 then
      (x_X6_totalOf p1 (0 : Int32) p2 h).bind fun q3 =>
      if q3 < 0 then
        some h
      else
        if q3 ≤ (5 : Int32) then
          mlet ((mgi h p1 0) - p2) fun u6 =>
          mlet (((if (u6 &&& (1 : Int32)) = 0 then (p4 ^^^ (-1 : Int32)) else p4) &&& (if (u6 &&& (2 : Int32)) = 0 then (p5 ^^^ (-1 : Int32)) else p5)) &&& (if (u6 &&& (4 : Int32)) = 0 then (p6 ^^^ (-1 : Int32)) else p6)) fun u10 =>
          mlet ((p4 ||| p5) ||| p6) fun u11 =>
          mck q3 7 <|
          mlet (mFirst (q3).toNatClampNeg) fun u12 =>
          x_X1_addFrom_112 N xrec p0 p1 p2 p3 p4 p5 p6 q3 u10 u11 N u12 h
        else
          some h
    else
      (x_X1_addUnpinned p0 p3 h).bind fun q13 =>
      some q13) dd
theorem x_X1_addFrom_0 (N : Nat) (p0 : Nat) (p1 : Nat) (p2 : Int32) (p3 : Int32) (p4 : Int32) (p5 : Int32) (p6 : Int32) (h : mH) : x_X1_addFrom N 0 p0 p1 p2 p3 p4 p5 p6 h = none := rfl
theorem x_X1_addFrom_s (N : Nat) (dd : Nat) (p0 : Nat) (p1 : Nat) (p2 : Int32) (p3 : Int32) (p4 : Int32) (p5 : Int32) (p6 : Int32) (h : mH) : x_X1_addFrom N (dd + 1) p0 p1 p2 p3 p4 p5 p6 h = (
    (x_X6_hasRow p1 p2 h).bind fun q1 =>
    if ¬ q1 = 0 then
      (x_X6_totalOf p1 (0 : Int32) p2 h).bind fun q3 =>
      if q3 < 0 then
        some h
      else
        if q3 ≤ (5 : Int32) then
          mlet ((mgi h p1 0) - p2) fun u6 =>
          mlet (((if (u6 &&& (1 : Int32)) = 0 then (p4 ^^^ (-1 : Int32)) else p4) &&& (if (u6 &&& (2 : Int32)) = 0 then (p5 ^^^ (-1 : Int32)) else p5)) &&& (if (u6 &&& (4 : Int32)) = 0 then (p6 ^^^ (-1 : Int32)) else p6)) fun u10 =>
          mlet ((p4 ||| p5) ||| p6) fun u11 =>
          mck q3 7 <|
          mlet (mFirst (q3).toNatClampNeg) fun u12 =>
          x_X1_addFrom_112 N (x_X1_addFrom N dd) p0 p1 p2 p3 p4 p5 p6 q3 u10 u11 N u12 h
        else
          some h
    else
      (x_X1_addUnpinned p0 p3 h).bind fun q13 =>
      some q13) := rfl
set_option maxRecDepth 20000 in
set_option maxHeartbeats 4000000 in
theorem t_X1_addFrom {g : mG} {l : Launch} (hg : mOK g) (N : Nat) (dd : Nat) : ∀ (p0 : Nat) (p1 : Nat) (p2 : Int32) (p3 : Int32) (p4 : Int32) (p5 : Int32) (p6 : Int32) (hp0 : mkn g p0 1) (hp1 : mkn g p1 6) (h : mH), mf g l (1 + dd) mX1_addFrom (fun r : mH => ((none : Option Value), r)) [.ref (mad g p0), .ref (mad g p1), .int p2, .int p3, .int p4, .int p5, .int p6] h (x_X1_addFrom N dd p0 p1 p2 p3 p4 p5 p6 h) := by
  induction dd with
  | zero => intros; exact fun b hb => by cases hb
  | succ dd hrec =>
    intro p0 p1 p2 p3 p4 p5 p6 hp0 hp1 h
    rw [x_X1_addFrom_s]
    generalize x_X1_addFrom N dd = xrec at hrec ⊢
    refine mf_of (by decide) (Nat.le_of_ble_eq_true rfl) ?_
    show mw g l (1 + dd + 1) mX1_addFrom (fun r : mH => ((none : Option Value), r)) 0 [(0, .ref (mad g p0)), (1, .ref (mad g p1)), (2, .int p2), (3, .int p3), (4, .int p4), (5, .int p5), (6, .int p6)] [] h _
    refine mw_aload_n (n := 1) (q := 1) dX1_addFrom_0 rfl rfl rfl ?_
    refine mw_iload_n (n := 2) (q := 2) dX1_addFrom_1 rfl rfl rfl ?_
    refine mw_callV (n := 5) (a := p1) (As := [.int p2]) cl6 hp1 (t_X6_hasRow hg p1 p2 hp1 h) (by omega) ok_X6_hasRow rfl rfl lk_X1_72 im_X6_hasRow se_X6_hasRow dX1_addFrom_2 rfl rfl (Nat.le_of_ble_eq_true rfl) (fun q1 _ => ?_)
    show mw g l _ _ _ 5 _ [.int q1] h _
    refine mw_if_ne (n := 8) (t := 14) dX1_addFrom_5 rfl (by decide) Iff.rfl (fun c2 => ?_) (fun c2 => ?_)
    · refine mw_aload_n (n := 15) (q := 1) dX1_addFrom_14 rfl rfl rfl ?_
      refine mw_iconst (n := 16) (v := 0) dX1_addFrom_15 rfl (by decide) ?_
      refine mw_iload_n (n := 17) (q := 2) dX1_addFrom_16 rfl rfl rfl ?_
      refine mw_callV (n := 20) (a := p1) (As := [.int (0 : Int32), .int p2]) cl6 hp1 (t_X6_totalOf hg p1 (0 : Int32) p2 hp1 h) (by omega) ok_X6_totalOf rfl rfl lk_X1_64 im_X6_totalOf se_X6_totalOf dX1_addFrom_17 rfl rfl (Nat.le_of_ble_eq_true rfl) (fun q3 _ => ?_)
      show mw g l _ _ _ 20 _ [.int q3] h _
      refine mw_istore (n := 22) dX1_addFrom_20 rfl (by decide) rfl ?_
      refine mw_iload (n := 24) (q := 0) dX1_addFrom_22 rfl rfl ?_
      refine mw_if_lt (n := 27) (t := 33) dX1_addFrom_24 rfl (by decide) Iff.rfl (fun c4 => ?_) (fun c4 => ?_)
      · exact mw_vret dX1_addFrom_33 rfl rfl
      · refine mw_iload (n := 29) (q := 0) dX1_addFrom_27 rfl rfl ?_
        refine mw_iconst (n := 30) (v := 5) dX1_addFrom_29 rfl (by decide) ?_
        refine mw_icmp_le (n := 33) (t := 34) dX1_addFrom_30 rfl (by decide) Iff.rfl (fun c5 => ?_) (fun c5 => ?_)
        · refine mw_aload_n (n := 35) (q := 2) dX1_addFrom_34 rfl rfl rfl ?_
          refine mw_geti (n := 38) (a := p1) (k := 0) cl6 hp1 (by decide) rfl rfl fl_X1_80 dX1_addFrom_35 rfl ?_
          refine mw_iload_n (n := 39) (q := 3) dX1_addFrom_38 rfl rfl rfl ?_
          refine mw_isub (n := 40) dX1_addFrom_39 rfl ?_
          refine mw_letI (fun u6 => ?_)
          refine mw_istore (n := 42) dX1_addFrom_40 rfl (by decide) rfl ?_
          refine mw_iload (n := 44) (q := 0) dX1_addFrom_42 rfl rfl ?_
          refine mw_iconst (n := 45) (v := 1) dX1_addFrom_44 rfl (by decide) ?_
          refine mw_iand (n := 46) dX1_addFrom_45 rfl ?_
          refine mw_cutJ (pc' := 58) (lv' := [(8, .int u6), (7, .int q3), (0, .ref (mad g p0)), (1, .ref (mad g p1)), (2, .int p2), (3, .int p3), (4, .int p4), (5, .int p5), (6, .int p6)]) (st' := [.int (if (u6 &&& (1 : Int32)) = 0 then (p4 ^^^ (-1 : Int32)) else p4)]) (fun J => ?_) ?_
          · refine mw_if_eq_m (n := 49) (t := 54) dX1_addFrom_46 rfl (by decide) (fun c7 => ?_) (fun c7 => ?_)
            · refine mw_iload (n := 56) (q := 6) dX1_addFrom_54 rfl rfl ?_
              refine mw_iconst (n := 57) (v := -1) dX1_addFrom_56 rfl (by decide) ?_
              refine mw_ixor (n := 58) dX1_addFrom_57 rfl ?_
              exact mw_topeq (if_pos c7).symm J
            · refine mw_iload (n := 51) (q := 6) dX1_addFrom_49 rfl rfl ?_
              refine mw_goto (n := 58) dX1_addFrom_51 (by decide) ?_
              exact mw_topeq (if_neg c7).symm J
          refine mw_iload (n := 60) (q := 0) dX1_addFrom_58 rfl rfl ?_
          refine mw_iconst (n := 61) (v := 2) dX1_addFrom_60 rfl (by decide) ?_
          refine mw_iand (n := 62) dX1_addFrom_61 rfl ?_
          refine mw_cutJ (pc' := 74) (lv' := [(8, .int u6), (7, .int q3), (0, .ref (mad g p0)), (1, .ref (mad g p1)), (2, .int p2), (3, .int p3), (4, .int p4), (5, .int p5), (6, .int p6)]) (st' := [.int (if (u6 &&& (2 : Int32)) = 0 then (p5 ^^^ (-1 : Int32)) else p5), .int (if (u6 &&& (1 : Int32)) = 0 then (p4 ^^^ (-1 : Int32)) else p4)]) (fun J => ?_) ?_
          · refine mw_if_eq_m (n := 65) (t := 70) dX1_addFrom_62 rfl (by decide) (fun c8 => ?_) (fun c8 => ?_)
            · refine mw_iload (n := 72) (q := 7) dX1_addFrom_70 rfl rfl ?_
              refine mw_iconst (n := 73) (v := -1) dX1_addFrom_72 rfl (by decide) ?_
              refine mw_ixor (n := 74) dX1_addFrom_73 rfl ?_
              exact mw_topeq (if_pos c8).symm J
            · refine mw_iload (n := 67) (q := 7) dX1_addFrom_65 rfl rfl ?_
              refine mw_goto (n := 74) dX1_addFrom_67 (by decide) ?_
              exact mw_topeq (if_neg c8).symm J
          refine mw_iand (n := 75) dX1_addFrom_74 rfl ?_
          refine mw_iload (n := 77) (q := 0) dX1_addFrom_75 rfl rfl ?_
          refine mw_iconst (n := 78) (v := 4) dX1_addFrom_77 rfl (by decide) ?_
          refine mw_iand (n := 79) dX1_addFrom_78 rfl ?_
          refine mw_cutJ (pc' := 91) (lv' := [(8, .int u6), (7, .int q3), (0, .ref (mad g p0)), (1, .ref (mad g p1)), (2, .int p2), (3, .int p3), (4, .int p4), (5, .int p5), (6, .int p6)]) (st' := [.int (if (u6 &&& (4 : Int32)) = 0 then (p6 ^^^ (-1 : Int32)) else p6), .int ((if (u6 &&& (1 : Int32)) = 0 then (p4 ^^^ (-1 : Int32)) else p4) &&& (if (u6 &&& (2 : Int32)) = 0 then (p5 ^^^ (-1 : Int32)) else p5))]) (fun J => ?_) ?_
          · refine mw_if_eq_m (n := 82) (t := 87) dX1_addFrom_79 rfl (by decide) (fun c9 => ?_) (fun c9 => ?_)
            · refine mw_iload (n := 89) (q := 8) dX1_addFrom_87 rfl rfl ?_
              refine mw_iconst (n := 90) (v := -1) dX1_addFrom_89 rfl (by decide) ?_
              refine mw_ixor (n := 91) dX1_addFrom_90 rfl ?_
              exact mw_topeq (if_pos c9).symm J
            · refine mw_iload (n := 84) (q := 8) dX1_addFrom_82 rfl rfl ?_
              refine mw_goto (n := 91) dX1_addFrom_84 (by decide) ?_
              exact mw_topeq (if_neg c9).symm J
          refine mw_iand (n := 92) dX1_addFrom_91 rfl ?_
          refine mw_letI (fun u10 => ?_)
          refine mw_istore (n := 94) dX1_addFrom_92 rfl (by decide) rfl ?_
          refine mw_iload (n := 96) (q := 7) dX1_addFrom_94 rfl rfl ?_
          refine mw_iload (n := 98) (q := 8) dX1_addFrom_96 rfl rfl ?_
          refine mw_ior (n := 99) dX1_addFrom_98 rfl ?_
          refine mw_iload (n := 101) (q := 9) dX1_addFrom_99 rfl rfl ?_
          refine mw_ior (n := 102) dX1_addFrom_101 rfl ?_
          refine mw_letI (fun u11 => ?_)
          refine mw_istore (n := 104) dX1_addFrom_102 rfl (by decide) rfl ?_
          refine mw_gsF (n := 107) fl_X1_83 dX1_addFrom_104 rfl ?_
          refine mw_iload (n := 109) (q := 3) dX1_addFrom_107 rfl rfl ?_
          refine mw_ldF (n := 110) dX1_addFrom_109 rfl ?_
          refine mw_letI (fun u12 => ?_)
          refine mw_istore (n := 112) dX1_addFrom_110 rfl (by decide) rfl ?_
          refine mw_sub [5, 6, 7, 8, 9, 10, 11, 4, 2, 1, 0] rfl ?_
          exact b_X1_addFrom_112 hg N dd xrec hrec p0 p1 p2 p3 p4 p5 p6 q3 u10 u11 hp0 hp1 N u12 h
        · exact mw_vret dX1_addFrom_33 rfl rfl
    · refine mw_aload_n (n := 9) (q := 0) dX1_addFrom_8 rfl rfl rfl ?_
      refine mw_iload_n (n := 10) (q := 3) dX1_addFrom_9 rfl rfl rfl ?_
      refine mw_callV (n := 13) (a := p0) (As := [.int p3]) cl1 hp0 (t_X1_addUnpinned hg p0 p3 hp0 h) (by omega) ok_X1_addUnpinned rfl rfl lk_X1_76 im_X1_addUnpinned se_X1_addUnpinned dX1_addFrom_10 rfl rfl (Nat.le_of_ble_eq_true rfl) (fun q13 _ => ?_)
      show mw g l _ _ _ 13 _ [] q13 _
      exact mw_vret dX1_addFrom_13 rfl rfl
noncomputable def x_X1_narrowTo_85 (N : Nat) (self17 : Int32 → mH → Option (mH)) (r0 : Nat) (r1 : Nat) (v2 : Int32) (h : mH) : Option (mH) :=
  self17 (v2 + (1 : Int32)) h
set_option maxRecDepth 20000 in
set_option maxHeartbeats 4000000 in
theorem b_X1_narrowTo_85 {g : mG} {l : Launch} (hg : mOK g) (N : Nat) (r0 : Nat) (r1 : Nat) (v2 : Int32) (self17 : Int32 → mH → Option (mH)) (hself17 : ∀ (v2 : Int32) (h : mH), mw g l 0 mX1_narrowTo (fun r : mH => ((none : Option Value), r)) 17 [(0, .ref (mad g r0)), (1, .ref (mad g r1)), (2, .int v2)] [] h (self17 v2 h)) (hr0 : mkn g r0 1) (hr1 : mkn g r1 6) (h : mH) : mw g l 0 mX1_narrowTo (fun r : mH => ((none : Option Value), r)) 85 [(0, .ref (mad g r0)), (1, .ref (mad g r1)), (2, .int v2)] [] h (x_X1_narrowTo_85 N self17 r0 r1 v2 h) := by
  unfold x_X1_narrowTo_85
  refine mw_iinc (n := 88) (q := 2) (v := (v2 + (1 : Int32))) dX1_narrowTo_85 rfl rfl rfl (by decide) rfl ?_
  refine mw_goto (n := 17) dX1_narrowTo_88 (by decide) ?_
  refine mw_sub [1, 2, 0] rfl ?_
  exact hself17 (v2 + (1 : Int32)) h
noncomputable def x_X1_narrowTo_17 (N : Nat) (r0 : Nat) (r1 : Nat) (f : Nat) : Int32 → mH → Option (mH) :=
  Nat.rec (motive := fun _ => Int32 → mH → Option (mH)) (fun _ _ => none) (fun _ self17 => fun v2 h => 
    if (mgi h r0 1) ≤ v2 then
      some h
    else
      mck v2 310 <|
      mlet (mgi h (r0 + 1) (v2).toNatClampNeg) fun u2 =>
      if ¬ (u2 &&& (mgi h r1 4)) = (mgi h r1 5) then
        x_X1_narrowTo_85 N self17 r0 r1 v2 h
      else
        mck (mgi h r0 3) 310 <|
        mlet (msi h (r0 + 2) ((mgi h r0 3)).toNatClampNeg u2) fun h4 =>
        mlet (msi h4 r0 3 ((mgi h4 r0 3) + (1 : Int32))) fun h5 =>
        mlet (msi h5 r0 5 ((mgi h5 r0 5) &&& u2)) fun h6 =>
        mlet (msi h6 r0 6 ((mgi h6 r0 6) ||| u2)) fun h7 =>
        x_X1_narrowTo_85 N self17 r0 r1 v2 h7) f
theorem x_X1_narrowTo_17_0 (N : Nat) (r0 : Nat) (r1 : Nat) (v2 : Int32) (h : mH) : x_X1_narrowTo_17 N r0 r1 0 v2 h = none := rfl
theorem x_X1_narrowTo_17_s (N : Nat) (r0 : Nat) (r1 : Nat) (f : Nat) (v2 : Int32) (h : mH) : x_X1_narrowTo_17 N r0 r1 (f + 1) v2 h = (
    if (mgi h r0 1) ≤ v2 then
      some h
    else
      mck v2 310 <|
      mlet (mgi h (r0 + 1) (v2).toNatClampNeg) fun u2 =>
      if ¬ (u2 &&& (mgi h r1 4)) = (mgi h r1 5) then
        x_X1_narrowTo_85 N (x_X1_narrowTo_17 N r0 r1 f) r0 r1 v2 h
      else
        mck (mgi h r0 3) 310 <|
        mlet (msi h (r0 + 2) ((mgi h r0 3)).toNatClampNeg u2) fun h4 =>
        mlet (msi h4 r0 3 ((mgi h4 r0 3) + (1 : Int32))) fun h5 =>
        mlet (msi h5 r0 5 ((mgi h5 r0 5) &&& u2)) fun h6 =>
        mlet (msi h6 r0 6 ((mgi h6 r0 6) ||| u2)) fun h7 =>
        x_X1_narrowTo_85 N (x_X1_narrowTo_17 N r0 r1 f) r0 r1 v2 h7) := rfl
set_option maxRecDepth 20000 in
set_option maxHeartbeats 4000000 in
theorem b_X1_narrowTo_17 {g : mG} {l : Launch} (hg : mOK g) (N : Nat) (r0 : Nat) (r1 : Nat) (hr0 : mkn g r0 1) (hr1 : mkn g r1 6) (f : Nat) : ∀ (v2 : Int32) (h : mH), mw g l 0 mX1_narrowTo (fun r : mH => ((none : Option Value), r)) 17 [(0, .ref (mad g r0)), (1, .ref (mad g r1)), (2, .int v2)] [] h (x_X1_narrowTo_17 N r0 r1 f v2 h) := by
  induction f with
  | zero => intros; exact mw_none
  | succ f hself17 =>
    intro v2 h
    refine mw_eq (x_X1_narrowTo_17_s N r0 r1 f v2 h) ?_
    generalize x_X1_narrowTo_17 N r0 r1 f = self17 at hself17 ⊢
    refine mw_iload_n (n := 18) (q := 2) dX1_narrowTo_17 rfl rfl rfl ?_
    refine mw_aload_n (n := 19) (q := 0) dX1_narrowTo_18 rfl rfl rfl ?_
    refine mw_geti (n := 22) (a := r0) (k := 1) cl1 hr0 (by decide) rfl rfl fl_X1_43 dX1_narrowTo_19 rfl ?_
    refine mw_icmp_ge (n := 25) (t := 91) dX1_narrowTo_22 rfl (by decide) Iff.rfl (fun c1 => ?_) (fun c1 => ?_)
    · exact mw_vret dX1_narrowTo_91 rfl rfl
    · refine mw_aload_n (n := 26) (q := 0) dX1_narrowTo_25 rfl rfl rfl ?_
      refine mw_getr (n := 29) (a := r0) (k := 0) cl1 hr0 (by decide) rfl rfl fl_X1_9 dX1_narrowTo_26 rfl ?_
      refine mw_iload_n (n := 30) (q := 2) dX1_narrowTo_29 rfl rfl rfl ?_
      refine mw_iald (n := 31) (a := (r0 + 1)) (N := 310) (mk1_1 hg hr0) dX1_narrowTo_30 rfl ?_
      refine mw_letI (fun u2 => ?_)
      refine mw_istore_n (n := 32) dX1_narrowTo_31 rfl rfl (by decide) rfl ?_
      refine mw_iload_n (n := 33) (q := 0) dX1_narrowTo_32 rfl rfl rfl ?_
      refine mw_aload_n (n := 34) (q := 2) dX1_narrowTo_33 rfl rfl rfl ?_
      refine mw_geti (n := 37) (a := r1) (k := 4) cl6 hr1 (by decide) rfl rfl fl_X1_30 dX1_narrowTo_34 rfl ?_
      refine mw_iand (n := 38) dX1_narrowTo_37 rfl ?_
      refine mw_aload_n (n := 39) (q := 2) dX1_narrowTo_38 rfl rfl rfl ?_
      refine mw_geti (n := 42) (a := r1) (k := 5) cl6 hr1 (by decide) rfl rfl fl_X1_37 dX1_narrowTo_39 rfl ?_
      refine mw_icmp_ne (n := 45) (t := 85) dX1_narrowTo_42 rfl (by decide) Iff.rfl (fun c3 => ?_) (fun c3 => ?_)
      · refine mw_sub [1, 2, 3] rfl ?_
        exact b_X1_narrowTo_85 hg N r0 r1 v2 self17 hself17 hr0 hr1 h
      · refine mw_aload_n (n := 46) (q := 1) dX1_narrowTo_45 rfl rfl rfl ?_
        refine mw_getr (n := 49) (a := r0) (k := 2) cl1 hr0 (by decide) rfl rfl fl_X1_15 dX1_narrowTo_46 rfl ?_
        refine mw_aload_n (n := 50) (q := 1) dX1_narrowTo_49 rfl rfl rfl ?_
        refine mw_geti (n := 53) (a := r0) (k := 3) cl1 hr0 (by decide) rfl rfl fl_X1_92 dX1_narrowTo_50 rfl ?_
        refine mw_iload_n (n := 54) (q := 0) dX1_narrowTo_53 rfl rfl rfl ?_
        refine mw_iast (n := 55) (a := (r0 + 2)) (N := 310) (mk1_2 hg hr0) dX1_narrowTo_54 rfl (mw_leth (fun h4 => ?_))
        refine mw_aload_n (n := 56) (q := 1) dX1_narrowTo_55 rfl rfl rfl ?_
        refine mw_dup (n := 57) dX1_narrowTo_56 rfl rfl ?_
        refine mw_geti (n := 60) (a := r0) (k := 3) cl1 hr0 (by decide) rfl rfl fl_X1_92 dX1_narrowTo_57 rfl ?_
        refine mw_iconst (n := 61) (v := 1) dX1_narrowTo_60 rfl (by decide) ?_
        refine mw_iadd (n := 62) dX1_narrowTo_61 rfl ?_
        refine mw_puti (n := 65) (a := r0) (k := 3) cl1 ct1 hr0 (by decide) rfl rfl rfl rfl fl_X1_92 dX1_narrowTo_62 rfl (mw_leth (fun h5 => ?_))
        refine mw_aload_n (n := 66) (q := 1) dX1_narrowTo_65 rfl rfl rfl ?_
        refine mw_dup (n := 67) dX1_narrowTo_66 rfl rfl ?_
        refine mw_geti (n := 70) (a := r0) (k := 5) cl1 hr0 (by decide) rfl rfl fl_X1_95 dX1_narrowTo_67 rfl ?_
        refine mw_iload_n (n := 71) (q := 0) dX1_narrowTo_70 rfl rfl rfl ?_
        refine mw_iand (n := 72) dX1_narrowTo_71 rfl ?_
        refine mw_puti (n := 75) (a := r0) (k := 5) cl1 ct1 hr0 (by decide) rfl rfl rfl rfl fl_X1_95 dX1_narrowTo_72 rfl (mw_leth (fun h6 => ?_))
        refine mw_aload_n (n := 76) (q := 1) dX1_narrowTo_75 rfl rfl rfl ?_
        refine mw_dup (n := 77) dX1_narrowTo_76 rfl rfl ?_
        refine mw_geti (n := 80) (a := r0) (k := 6) cl1 hr0 (by decide) rfl rfl fl_X1_98 dX1_narrowTo_77 rfl ?_
        refine mw_iload_n (n := 81) (q := 0) dX1_narrowTo_80 rfl rfl rfl ?_
        refine mw_ior (n := 82) dX1_narrowTo_81 rfl ?_
        refine mw_puti (n := 85) (a := r0) (k := 6) cl1 ct1 hr0 (by decide) rfl rfl rfl rfl fl_X1_98 dX1_narrowTo_82 rfl (mw_leth (fun h7 => ?_))
        refine mw_sub [1, 2, 3] rfl ?_
        exact b_X1_narrowTo_85 hg N r0 r1 v2 self17 hself17 hr0 hr1 h7
noncomputable def x_X1_narrowTo (N : Nat) (t : Nat) (p0 : Nat) (h : mH) : Option (mH) :=
  mlet (msi h t 3 (0 : Int32)) fun h1 =>
  mlet (msi h1 t 5 (-1 : Int32)) fun h2 =>
  mlet (msi h2 t 6 (0 : Int32)) fun h3 =>
  x_X1_narrowTo_17 N t p0 N (0 : Int32) h3
set_option maxRecDepth 20000 in
set_option maxHeartbeats 4000000 in
theorem t_X1_narrowTo {g : mG} {l : Launch} (hg : mOK g) (N : Nat) (t : Nat) (p0 : Nat) (ht : mkn g t 1) (hp0 : mkn g p0 6) (h : mH) : mf g l 0 mX1_narrowTo (fun r : mH => ((none : Option Value), r)) [.ref (mad g t), .ref (mad g p0)] h (x_X1_narrowTo N t p0 h) := by
  refine mf_of (by decide) (Nat.le_of_ble_eq_true rfl) ?_
  show mw g l 0 mX1_narrowTo (fun r : mH => ((none : Option Value), r)) 0 [(0, .ref (mad g t)), (1, .ref (mad g p0))] [] h _
  unfold x_X1_narrowTo
  refine mw_aload_n (n := 1) (q := 0) dX1_narrowTo_0 rfl rfl rfl ?_
  refine mw_iconst (n := 2) (v := 0) dX1_narrowTo_1 rfl (by decide) ?_
  refine mw_puti (n := 5) (a := t) (k := 3) cl1 ct1 ht (by decide) rfl rfl rfl rfl fl_X1_92 dX1_narrowTo_2 rfl (mw_leth (fun h1 => ?_))
  refine mw_aload_n (n := 6) (q := 0) dX1_narrowTo_5 rfl rfl rfl ?_
  refine mw_iconst (n := 7) (v := -1) dX1_narrowTo_6 rfl (by decide) ?_
  refine mw_puti (n := 10) (a := t) (k := 5) cl1 ct1 ht (by decide) rfl rfl rfl rfl fl_X1_95 dX1_narrowTo_7 rfl (mw_leth (fun h2 => ?_))
  refine mw_aload_n (n := 11) (q := 0) dX1_narrowTo_10 rfl rfl rfl ?_
  refine mw_iconst (n := 12) (v := 0) dX1_narrowTo_11 rfl (by decide) ?_
  refine mw_puti (n := 15) (a := t) (k := 6) cl1 ct1 ht (by decide) rfl rfl rfl rfl fl_X1_98 dX1_narrowTo_12 rfl (mw_leth (fun h3 => ?_))
  refine mw_iconst (n := 16) (v := 0) dX1_narrowTo_15 rfl (by decide) ?_
  refine mw_istore_n (n := 17) dX1_narrowTo_16 rfl rfl (by decide) rfl ?_
  refine mw_sub [1, 2, 0] rfl ?_
  exact b_X1_narrowTo_17 hg N t p0 ht hp0 N (0 : Int32) h3
noncomputable def x_X1_listFor_73 (N : Nat) (r0 : Nat) (r1 : Nat) (v2 : Int64) (h : mH) : Option (mH) :=
  (x_X1_narrowTo N r0 r1 h).bind fun q1 =>
  mlet (msl q1 r0 7 v2) fun h2 =>
  mlet (msi h2 r0 8 (mgi h2 r1 4)) fun h3 =>
  mlet (msi h3 r0 9 (mgi h3 r1 5)) fun h4 =>
  mlet (msi h4 r0 4 ((mgi h4 r0 4) + (1 : Int32))) fun h5 =>
  some h5
set_option maxRecDepth 20000 in
set_option maxHeartbeats 4000000 in
theorem b_X1_listFor_73 {g : mG} {l : Launch} (hg : mOK g) (N : Nat) (r0 : Nat) (r1 : Nat) (v2 : Int64) (hr0 : mkn g r0 1) (hr1 : mkn g r1 6) (h : mH) : mw g l 8 mX1_listFor (fun r : mH => ((none : Option Value), r)) 73 [(0, .ref (mad g r0)), (1, .ref (mad g r1)), (2, .long v2)] [] h (x_X1_listFor_73 N r0 r1 v2 h) := by
  unfold x_X1_listFor_73
  refine mw_aload_n (n := 74) (q := 0) dX1_listFor_73 rfl rfl rfl ?_
  refine mw_aload_n (n := 75) (q := 1) dX1_listFor_74 rfl rfl rfl ?_
  refine mw_callV (n := 78) (a := r0) (As := [.ref (mad g r1)]) cl1 hr0 (t_X1_narrowTo hg N r0 r1 hr0 hr1 h) (by decide) ok_X1_narrowTo rfl rfl lk_X1_54 im_X1_narrowTo se_X1_narrowTo dX1_listFor_75 rfl rfl (Nat.le_of_ble_eq_true rfl) (fun q1 _ => ?_)
  show mw g l _ _ _ 78 _ [] q1 _
  refine mw_aload_n (n := 79) (q := 0) dX1_listFor_78 rfl rfl rfl ?_
  refine mw_lload_n (n := 80) (q := 2) dX1_listFor_79 rfl rfl rfl ?_
  refine mw_putl (n := 83) (a := r0) (k := 7) cl1 ct1 hr0 (by decide) rfl rfl rfl rfl fl_X1_20 dX1_listFor_80 rfl (mw_leth (fun h2 => ?_))
  refine mw_aload_n (n := 84) (q := 0) dX1_listFor_83 rfl rfl rfl ?_
  refine mw_aload_n (n := 85) (q := 1) dX1_listFor_84 rfl rfl rfl ?_
  refine mw_geti (n := 88) (a := r1) (k := 4) cl6 hr1 (by decide) rfl rfl fl_X1_30 dX1_listFor_85 rfl ?_
  refine mw_puti (n := 91) (a := r0) (k := 8) cl1 ct1 hr0 (by decide) rfl rfl rfl rfl fl_X1_34 dX1_listFor_88 rfl (mw_leth (fun h3 => ?_))
  refine mw_aload_n (n := 92) (q := 0) dX1_listFor_91 rfl rfl rfl ?_
  refine mw_aload_n (n := 93) (q := 1) dX1_listFor_92 rfl rfl rfl ?_
  refine mw_geti (n := 96) (a := r1) (k := 5) cl6 hr1 (by decide) rfl rfl fl_X1_37 dX1_listFor_93 rfl ?_
  refine mw_puti (n := 99) (a := r0) (k := 9) cl1 ct1 hr0 (by decide) rfl rfl rfl rfl fl_X1_40 dX1_listFor_96 rfl (mw_leth (fun h4 => ?_))
  refine mw_aload_n (n := 100) (q := 0) dX1_listFor_99 rfl rfl rfl ?_
  refine mw_dup (n := 101) dX1_listFor_100 rfl rfl ?_
  refine mw_geti (n := 104) (a := r0) (k := 4) cl1 hr0 (by decide) rfl rfl fl_X1_58 dX1_listFor_101 rfl ?_
  refine mw_iconst (n := 105) (v := 1) dX1_listFor_104 rfl (by decide) ?_
  refine mw_iadd (n := 106) dX1_listFor_105 rfl ?_
  refine mw_puti (n := 109) (a := r0) (k := 4) cl1 ct1 hr0 (by decide) rfl rfl rfl rfl fl_X1_58 dX1_listFor_106 rfl (mw_leth (fun h5 => ?_))
  exact mw_vret dX1_listFor_109 rfl rfl
noncomputable def x_X1_listFor_37 (N : Nat) (r0 : Nat) (r1 : Nat) (v2 : Int64) (h : mH) : Option (mH) :=
  if (lg_cmp v2 (mgl h r0 7)) = 0 then
    x_X1_listFor_73 N r0 r1 v2 h
  else
    mlet (msi h r0 1 (0 : Int32)) fun h2 =>
    (x_X1_columnsWith N r1 (1 : Int32) h2).bind fun q3 =>
    (x_X1_columnsWith N r1 (2 : Int32) h2).bind fun q4 =>
    (x_X1_columnsWith N r1 (4 : Int32) h2).bind fun q5 =>
    (x_X1_addFrom N 6 r0 r1 (0 : Int32) (0 : Int32) q3 q4 q5 h2).bind fun q6 =>
    x_X1_listFor_73 N r0 r1 v2 q6
set_option maxRecDepth 20000 in
set_option maxHeartbeats 4000000 in
theorem b_X1_listFor_37 {g : mG} {l : Launch} (hg : mOK g) (N : Nat) (r0 : Nat) (r1 : Nat) (v2 : Int64) (hr0 : mkn g r0 1) (hr1 : mkn g r1 6) (h : mH) : mw g l 8 mX1_listFor (fun r : mH => ((none : Option Value), r)) 37 [(0, .ref (mad g r0)), (1, .ref (mad g r1)), (2, .long v2)] [] h (x_X1_listFor_37 N r0 r1 v2 h) := by
  unfold x_X1_listFor_37
  refine mw_lload_n (n := 38) (q := 2) dX1_listFor_37 rfl rfl rfl ?_
  refine mw_aload_n (n := 39) (q := 0) dX1_listFor_38 rfl rfl rfl ?_
  refine mw_getl (n := 42) (a := r0) (k := 7) cl1 hr0 (by decide) rfl rfl fl_X1_20 dX1_listFor_39 rfl ?_
  refine mw_lcmp (n := 43) dX1_listFor_42 rfl ?_
  refine mw_if_eq (n := 46) (t := 73) dX1_listFor_43 rfl (by decide) Iff.rfl (fun c1 => ?_) (fun c1 => ?_)
  · exact b_X1_listFor_73 hg N r0 r1 v2 hr0 hr1 h
  · refine mw_aload_n (n := 47) (q := 0) dX1_listFor_46 rfl rfl rfl ?_
    refine mw_iconst (n := 48) (v := 0) dX1_listFor_47 rfl (by decide) ?_
    refine mw_puti (n := 51) (a := r0) (k := 1) cl1 ct1 hr0 (by decide) rfl rfl rfl rfl fl_X1_43 dX1_listFor_48 rfl (mw_leth (fun h2 => ?_))
    refine mw_aload_n (n := 52) (q := 0) dX1_listFor_51 rfl rfl rfl ?_
    refine mw_aload_n (n := 53) (q := 1) dX1_listFor_52 rfl rfl rfl ?_
    refine mw_iconst (n := 54) (v := 0) dX1_listFor_53 rfl (by decide) ?_
    refine mw_iconst (n := 55) (v := 0) dX1_listFor_54 rfl (by decide) ?_
    refine mw_aload_n (n := 56) (q := 1) dX1_listFor_55 rfl rfl rfl ?_
    refine mw_iconst (n := 57) (v := 1) dX1_listFor_56 rfl (by decide) ?_
    refine mw_callS (n := 60) (As := [.ref (mad g r1), .int (1 : Int32)]) (t_X1_columnsWith hg N r1 (1 : Int32) hr1 h2) (by decide) ok_X1_columnsWith rfl lk_X1_46 sm_X1_columnsWith dX1_listFor_57 rfl rfl (Nat.le_of_ble_eq_true rfl) (fun q3 _ => ?_)
    show mw g l _ _ _ 60 _ [.int q3, .int (0 : Int32), .int (0 : Int32), .ref (mad g r1), .ref (mad g r0)] h2 _
    refine mw_aload_n (n := 61) (q := 1) dX1_listFor_60 rfl rfl rfl ?_
    refine mw_iconst (n := 62) (v := 2) dX1_listFor_61 rfl (by decide) ?_
    refine mw_callS (n := 65) (As := [.ref (mad g r1), .int (2 : Int32)]) (t_X1_columnsWith hg N r1 (2 : Int32) hr1 h2) (by decide) ok_X1_columnsWith rfl lk_X1_46 sm_X1_columnsWith dX1_listFor_62 rfl rfl (Nat.le_of_ble_eq_true rfl) (fun q4 _ => ?_)
    show mw g l _ _ _ 65 _ [.int q4, .int q3, .int (0 : Int32), .int (0 : Int32), .ref (mad g r1), .ref (mad g r0)] h2 _
    refine mw_aload_n (n := 66) (q := 1) dX1_listFor_65 rfl rfl rfl ?_
    refine mw_iconst (n := 67) (v := 4) dX1_listFor_66 rfl (by decide) ?_
    refine mw_callS (n := 70) (As := [.ref (mad g r1), .int (4 : Int32)]) (t_X1_columnsWith hg N r1 (4 : Int32) hr1 h2) (by decide) ok_X1_columnsWith rfl lk_X1_46 sm_X1_columnsWith dX1_listFor_67 rfl rfl (Nat.le_of_ble_eq_true rfl) (fun q5 _ => ?_)
    show mw g l _ _ _ 70 _ [.int q5, .int q4, .int q3, .int (0 : Int32), .int (0 : Int32), .ref (mad g r1), .ref (mad g r0)] h2 _
    refine mw_callS (n := 73) (As := [.ref (mad g r0), .ref (mad g r1), .int (0 : Int32), .int (0 : Int32), .int q3, .int q4, .int q5]) (t_X1_addFrom hg N 6 r0 r1 (0 : Int32) (0 : Int32) q3 q4 q5 hr0 hr1 h2) (by decide) ok_X1_addFrom rfl lk_X1_50 sm_X1_addFrom dX1_listFor_70 rfl rfl (Nat.le_of_ble_eq_true rfl) (fun q6 _ => ?_)
    show mw g l _ _ _ 73 _ [] q6 _
    exact b_X1_listFor_73 hg N r0 r1 v2 hr0 hr1 q6
noncomputable def x_X1_listFor (N : Nat) (t : Nat) (p0 : Nat) (h : mH) : Option (mH) :=
  (x_X6_totalsAsNumber N p0 h).bind fun q1 =>
  if ¬ (lg_cmp q1 (mgl h t 7)) = 0 then
    x_X1_listFor_37 N t p0 q1 h
  else
    if ¬ (mgi h p0 4) = (mgi h t 8) then
      x_X1_listFor_37 N t p0 q1 h
    else
      if ¬ (mgi h p0 5) = (mgi h t 9) then
        x_X1_listFor_37 N t p0 q1 h
      else
        some h
set_option maxRecDepth 20000 in
set_option maxHeartbeats 4000000 in
theorem t_X1_listFor {g : mG} {l : Launch} (hg : mOK g) (N : Nat) (t : Nat) (p0 : Nat) (ht : mkn g t 1) (hp0 : mkn g p0 6) (h : mH) : mf g l 8 mX1_listFor (fun r : mH => ((none : Option Value), r)) [.ref (mad g t), .ref (mad g p0)] h (x_X1_listFor N t p0 h) := by
  refine mf_of (by decide) (Nat.le_of_ble_eq_true rfl) ?_
  show mw g l 8 mX1_listFor (fun r : mH => ((none : Option Value), r)) 0 [(0, .ref (mad g t)), (1, .ref (mad g p0))] [] h _
  unfold x_X1_listFor
  refine mw_aload_n (n := 1) (q := 1) dX1_listFor_0 rfl rfl rfl ?_
  refine mw_callV (n := 4) (a := p0) (As := []) cl6 hp0 (t_X6_totalsAsNumber hg N p0 hp0 h) (by decide) ok_X6_totalsAsNumber rfl rfl lk_X1_24 im_X6_totalsAsNumber se_X6_totalsAsNumber dX1_listFor_1 rfl rfl (Nat.le_of_ble_eq_true rfl) (fun q1 _ => ?_)
  show mw g l _ _ _ 4 _ [.long q1] h _
  refine mw_lstore_n (n := 5) dX1_listFor_4 rfl rfl (by decide) rfl ?_
  refine mw_lload_n (n := 6) (q := 0) dX1_listFor_5 rfl rfl rfl ?_
  refine mw_aload_n (n := 7) (q := 1) dX1_listFor_6 rfl rfl rfl ?_
  refine mw_getl (n := 10) (a := t) (k := 7) cl1 ht (by decide) rfl rfl fl_X1_20 dX1_listFor_7 rfl ?_
  refine mw_lcmp (n := 11) dX1_listFor_10 rfl ?_
  refine mw_if_ne (n := 14) (t := 37) dX1_listFor_11 rfl (by decide) Iff.rfl (fun c2 => ?_) (fun c2 => ?_)
  · refine mw_sub [1, 2, 0] rfl ?_
    exact b_X1_listFor_37 hg N t p0 q1 ht hp0 h
  · refine mw_aload_n (n := 15) (q := 2) dX1_listFor_14 rfl rfl rfl ?_
    refine mw_geti (n := 18) (a := p0) (k := 4) cl6 hp0 (by decide) rfl rfl fl_X1_30 dX1_listFor_15 rfl ?_
    refine mw_aload_n (n := 19) (q := 1) dX1_listFor_18 rfl rfl rfl ?_
    refine mw_geti (n := 22) (a := t) (k := 8) cl1 ht (by decide) rfl rfl fl_X1_34 dX1_listFor_19 rfl ?_
    refine mw_icmp_ne (n := 25) (t := 37) dX1_listFor_22 rfl (by decide) Iff.rfl (fun c3 => ?_) (fun c3 => ?_)
    · refine mw_sub [1, 2, 0] rfl ?_
      exact b_X1_listFor_37 hg N t p0 q1 ht hp0 h
    · refine mw_aload_n (n := 26) (q := 2) dX1_listFor_25 rfl rfl rfl ?_
      refine mw_geti (n := 29) (a := p0) (k := 5) cl6 hp0 (by decide) rfl rfl fl_X1_37 dX1_listFor_26 rfl ?_
      refine mw_aload_n (n := 30) (q := 1) dX1_listFor_29 rfl rfl rfl ?_
      refine mw_geti (n := 33) (a := t) (k := 9) cl1 ht (by decide) rfl rfl fl_X1_40 dX1_listFor_30 rfl ?_
      refine mw_icmp_ne (n := 36) (t := 37) dX1_listFor_33 rfl (by decide) Iff.rfl (fun c4 => ?_) (fun c4 => ?_)
      · refine mw_sub [1, 2, 0] rfl ?_
        exact b_X1_listFor_37 hg N t p0 q1 ht hp0 h
      · exact mw_vret dX1_listFor_36 rfl rfl
noncomputable def x_X1_numberOf_38 (N : Nat) (self6 : Int32 → Int32 → Option (Int32)) (r0 : Nat) (v1 : Int32) (v2 : Int32) (v3 : Int32) (h : mH) : Option (Int32) :=
  mlet (v3 / (2 : Int32)) fun u1 =>
  self6 v2 u1
set_option maxRecDepth 20000 in
set_option maxHeartbeats 4000000 in
theorem b_X1_numberOf_38 {g : mG} {l : Launch} (hg : mOK g) (N : Nat) (r0 : Nat) (v1 : Int32) (v2 : Int32) (v3 : Int32) (h : mH) (self6 : Int32 → Int32 → Option (Int32)) (hself6 : ∀ (v2 : Int32) (v3 : Int32), mw g l 0 mX1_numberOf (fun r : Int32 => (some (Value.int r), h)) 6 [(0, .ref (mad g r0)), (1, .int v1), (2, .int v2), (3, .int v3)] [] h (self6 v2 v3)) (hr0 : mkn g r0 1) : mw g l 0 mX1_numberOf (fun r : Int32 => (some (Value.int r), h)) 38 [(0, .ref (mad g r0)), (1, .int v1), (2, .int v2), (3, .int v3)] [] h (x_X1_numberOf_38 N self6 r0 v1 v2 v3 h) := by
  unfold x_X1_numberOf_38
  refine mw_iload_n (n := 39) (q := 3) dX1_numberOf_38 rfl rfl rfl ?_
  refine mw_iconst (n := 40) (v := 2) dX1_numberOf_39 rfl (by decide) ?_
  refine mw_idiv (n := 41) dX1_numberOf_40 rfl (by decide) ?_
  refine mw_letI (fun u1 => ?_)
  refine mw_istore_n (n := 42) dX1_numberOf_41 rfl rfl (by decide) rfl ?_
  refine mw_goto (n := 6) dX1_numberOf_42 (by decide) ?_
  refine mw_sub [1, 2, 3, 0] rfl ?_
  exact hself6 v2 u1
noncomputable def x_X1_numberOf_6 (N : Nat) (r0 : Nat) (v1 : Int32) (h : mH) (f : Nat) : Int32 → Int32 → Option (Int32) :=
  Nat.rec (motive := fun _ => Int32 → Int32 → Option (Int32)) (fun _ _ => none) (fun _ self6 => fun v2 v3 => 
    if v3 ≤ 0 then
      if (mgi h r0 3) ≤ v2 then
        some (-9 : Int32)
      else
        mck v2 310 <|
        some (if ¬ (mgi h (r0 + 2) (v2).toNatClampNeg) = v1 then (-9 : Int32) else v2)
    else
      mlet (v2 + v3) fun u4 =>
      if (mgi h r0 3) ≤ u4 then
        x_X1_numberOf_38 N self6 r0 v1 v2 v3 h
      else
        mck u4 310 <|
        if v1 < (mgi h (r0 + 2) (u4).toNatClampNeg) then
          x_X1_numberOf_38 N self6 r0 v1 v2 v3 h
        else
          x_X1_numberOf_38 N self6 r0 v1 u4 v3 h) f
theorem x_X1_numberOf_6_0 (N : Nat) (r0 : Nat) (v1 : Int32) (h : mH) (v2 : Int32) (v3 : Int32) : x_X1_numberOf_6 N r0 v1 h 0 v2 v3 = none := rfl
theorem x_X1_numberOf_6_s (N : Nat) (r0 : Nat) (v1 : Int32) (h : mH) (f : Nat) (v2 : Int32) (v3 : Int32) : x_X1_numberOf_6 N r0 v1 h (f + 1) v2 v3 = (
    if v3 ≤ 0 then
      if (mgi h r0 3) ≤ v2 then
        some (-9 : Int32)
      else
        mck v2 310 <|
        some (if ¬ (mgi h (r0 + 2) (v2).toNatClampNeg) = v1 then (-9 : Int32) else v2)
    else
      mlet (v2 + v3) fun u4 =>
      if (mgi h r0 3) ≤ u4 then
        x_X1_numberOf_38 N (x_X1_numberOf_6 N r0 v1 h f) r0 v1 v2 v3 h
      else
        mck u4 310 <|
        if v1 < (mgi h (r0 + 2) (u4).toNatClampNeg) then
          x_X1_numberOf_38 N (x_X1_numberOf_6 N r0 v1 h f) r0 v1 v2 v3 h
        else
          x_X1_numberOf_38 N (x_X1_numberOf_6 N r0 v1 h f) r0 v1 u4 v3 h) := rfl
set_option maxRecDepth 20000 in
set_option maxHeartbeats 4000000 in
theorem b_X1_numberOf_6 {g : mG} {l : Launch} (hg : mOK g) (N : Nat) (r0 : Nat) (v1 : Int32) (h : mH) (hr0 : mkn g r0 1) (f : Nat) : ∀ (v2 : Int32) (v3 : Int32), mw g l 0 mX1_numberOf (fun r : Int32 => (some (Value.int r), h)) 6 [(0, .ref (mad g r0)), (1, .int v1), (2, .int v2), (3, .int v3)] [] h (x_X1_numberOf_6 N r0 v1 h f v2 v3) := by
  induction f with
  | zero => intros; exact mw_none
  | succ f hself6 =>
    intro v2 v3
    refine mw_eq (x_X1_numberOf_6_s N r0 v1 h f v2 v3) ?_
    generalize x_X1_numberOf_6 N r0 v1 h f = self6 at hself6 ⊢
    refine mw_iload_n (n := 7) (q := 3) dX1_numberOf_6 rfl rfl rfl ?_
    refine mw_if_le (n := 10) (t := 45) dX1_numberOf_7 rfl (by decide) Iff.rfl (fun c1 => ?_) (fun c1 => ?_)
    · refine mw_iload_n (n := 46) (q := 2) dX1_numberOf_45 rfl rfl rfl ?_
      refine mw_aload_n (n := 47) (q := 0) dX1_numberOf_46 rfl rfl rfl ?_
      refine mw_geti (n := 50) (a := r0) (k := 3) cl1 hr0 (by decide) rfl rfl fl_X1_92 dX1_numberOf_47 rfl ?_
      refine mw_icmp_ge (n := 53) (t := 67) dX1_numberOf_50 rfl (by decide) Iff.rfl (fun c2 => ?_) (fun c2 => ?_)
      · refine mw_bipush (n := 69) (v := -9) dX1_numberOf_67 rfl (by decide) ?_
        exact mw_iret dX1_numberOf_69 rfl rfl
      · refine mw_aload_n (n := 54) (q := 0) dX1_numberOf_53 rfl rfl rfl ?_
        refine mw_getr (n := 57) (a := r0) (k := 2) cl1 hr0 (by decide) rfl rfl fl_X1_15 dX1_numberOf_54 rfl ?_
        refine mw_iload_n (n := 58) (q := 2) dX1_numberOf_57 rfl rfl rfl ?_
        refine mw_iald (n := 59) (a := (r0 + 2)) (N := 310) (mk1_2 hg hr0) dX1_numberOf_58 rfl ?_
        refine mw_iload_n (n := 60) (q := 1) dX1_numberOf_59 rfl rfl rfl ?_
        refine mw_cutJ (pc' := 69) (lv' := [(0, .ref (mad g r0)), (1, .int v1), (2, .int v2), (3, .int v3)]) (st' := [.int (if ¬ (mgi h (r0 + 2) (v2).toNatClampNeg) = v1 then (-9 : Int32) else v2)]) (fun J => ?_) ?_
        · refine mw_icmp_ne_m (n := 63) (t := 67) dX1_numberOf_60 rfl (by decide) (fun c3 => ?_) (fun c3 => ?_)
          · refine mw_bipush (n := 69) (v := -9) dX1_numberOf_67 rfl (by decide) ?_
            exact mw_topeq (if_pos c3).symm J
          · refine mw_iload_n (n := 64) (q := 2) dX1_numberOf_63 rfl rfl rfl ?_
            refine mw_goto (n := 69) dX1_numberOf_64 (by decide) ?_
            exact mw_topeq (if_neg c3).symm J
        exact mw_iret dX1_numberOf_69 rfl rfl
    · refine mw_iload_n (n := 11) (q := 2) dX1_numberOf_10 rfl rfl rfl ?_
      refine mw_iload_n (n := 12) (q := 3) dX1_numberOf_11 rfl rfl rfl ?_
      refine mw_iadd (n := 13) dX1_numberOf_12 rfl ?_
      refine mw_letI (fun u4 => ?_)
      refine mw_istore (n := 15) dX1_numberOf_13 rfl (by decide) rfl ?_
      refine mw_iload (n := 17) (q := 0) dX1_numberOf_15 rfl rfl ?_
      refine mw_aload_n (n := 18) (q := 1) dX1_numberOf_17 rfl rfl rfl ?_
      refine mw_geti (n := 21) (a := r0) (k := 3) cl1 hr0 (by decide) rfl rfl fl_X1_92 dX1_numberOf_18 rfl ?_
      refine mw_icmp_ge (n := 24) (t := 38) dX1_numberOf_21 rfl (by decide) Iff.rfl (fun c5 => ?_) (fun c5 => ?_)
      · refine mw_sub [1, 2, 3, 4] rfl ?_
        exact b_X1_numberOf_38 hg N r0 v1 v2 v3 h self6 hself6 hr0
      · refine mw_aload_n (n := 25) (q := 1) dX1_numberOf_24 rfl rfl rfl ?_
        refine mw_getr (n := 28) (a := r0) (k := 2) cl1 hr0 (by decide) rfl rfl fl_X1_15 dX1_numberOf_25 rfl ?_
        refine mw_iload (n := 30) (q := 0) dX1_numberOf_28 rfl rfl ?_
        refine mw_iald (n := 31) (a := (r0 + 2)) (N := 310) (mk1_2 hg hr0) dX1_numberOf_30 rfl ?_
        refine mw_iload_n (n := 32) (q := 2) dX1_numberOf_31 rfl rfl rfl ?_
        refine mw_icmp_gt (n := 35) (t := 38) dX1_numberOf_32 rfl (by decide) Iff.rfl (fun c6 => ?_) (fun c6 => ?_)
        · refine mw_sub [1, 2, 3, 4] rfl ?_
          exact b_X1_numberOf_38 hg N r0 v1 v2 v3 h self6 hself6 hr0
        · refine mw_iload (n := 37) (q := 0) dX1_numberOf_35 rfl rfl ?_
          refine mw_istore_n (n := 38) dX1_numberOf_37 rfl rfl (by decide) rfl ?_
          refine mw_sub [2, 3, 0, 4] rfl ?_
          exact b_X1_numberOf_38 hg N r0 v1 u4 v3 h self6 hself6 hr0
noncomputable def x_X1_numberOf (N : Nat) (t : Nat) (p0 : Int32) (h : mH) : Option (Int32) :=
  x_X1_numberOf_6 N t p0 h N (0 : Int32) (256 : Int32)
set_option maxRecDepth 20000 in
set_option maxHeartbeats 4000000 in
theorem t_X1_numberOf {g : mG} {l : Launch} (hg : mOK g) (N : Nat) (t : Nat) (p0 : Int32) (ht : mkn g t 1) (h : mH) : mf g l 0 mX1_numberOf (fun r : Int32 => (some (Value.int r), h)) [.ref (mad g t), .int p0] h (x_X1_numberOf N t p0 h) := by
  refine mf_of (by decide) (Nat.le_of_ble_eq_true rfl) ?_
  show mw g l 0 mX1_numberOf (fun r : Int32 => (some (Value.int r), h)) 0 [(0, .ref (mad g t)), (1, .int p0)] [] h _
  unfold x_X1_numberOf
  refine mw_iconst (n := 1) (v := 0) dX1_numberOf_0 rfl (by decide) ?_
  refine mw_istore_n (n := 2) dX1_numberOf_1 rfl rfl (by decide) rfl ?_
  refine mw_sipush (n := 5) (v := 256) dX1_numberOf_2 rfl (by decide) ?_
  refine mw_istore_n (n := 6) dX1_numberOf_5 rfl rfl (by decide) rfl ?_
  refine mw_sub [2, 3, 1, 0] rfl ?_
  exact b_X1_numberOf_6 hg N t p0 h ht N (0 : Int32) (256 : Int32)
noncomputable def x_X1_openCells (t : Nat) (h : mH) : Option (Int32) :=
  some ((mgi h t 6) &&& ((mgi h t 5) ^^^ (-1 : Int32)))
set_option maxRecDepth 20000 in
set_option maxHeartbeats 4000000 in
theorem t_X1_openCells {g : mG} {l : Launch} (hg : mOK g) (t : Nat) (ht : mkn g t 1) (h : mH) : mf g l 0 mX1_openCells (fun r : Int32 => (some (Value.int r), h)) [.ref (mad g t)] h (x_X1_openCells t h) := by
  refine mf_of (by decide) (Nat.le_of_ble_eq_true rfl) ?_
  show mw g l 0 mX1_openCells (fun r : Int32 => (some (Value.int r), h)) 0 [(0, .ref (mad g t))] [] h _
  unfold x_X1_openCells
  refine mw_aload_n (n := 1) (q := 0) dX1_openCells_0 rfl rfl rfl ?_
  refine mw_geti (n := 4) (a := t) (k := 6) cl1 ht (by decide) rfl rfl fl_X1_98 dX1_openCells_1 rfl ?_
  refine mw_aload_n (n := 5) (q := 0) dX1_openCells_4 rfl rfl rfl ?_
  refine mw_geti (n := 8) (a := t) (k := 5) cl1 ht (by decide) rfl rfl fl_X1_95 dX1_openCells_5 rfl ?_
  refine mw_iconst (n := 9) (v := -1) dX1_openCells_8 rfl (by decide) ?_
  refine mw_ixor (n := 10) dX1_openCells_9 rfl ?_
  refine mw_iand (n := 11) dX1_openCells_10 rfl ?_
  exact mw_iret dX1_openCells_11 rfl rfl
noncomputable def x_X1_sureAt (t : Nat) (p0 : Int32) (h : mH) : Option (Int32) :=
  if ¬ (mgi h t 3) = 0 then
    (x_X1_openCells t h).bind fun q2 =>
    (x_X8_yesIn q2 p0).bind fun q3 =>
    if ¬ q3 = (1 : Int32) then
      (x_X8_yesIn (mgi h t 5) p0).bind fun q5 =>
      some q5
    else
      some (2 : Int32)
  else
    some (-9 : Int32)
set_option maxRecDepth 20000 in
set_option maxHeartbeats 4000000 in
theorem t_X1_sureAt {g : mG} {l : Launch} (hg : mOK g) (t : Nat) (p0 : Int32) (ht : mkn g t 1) (h : mH) : mf g l 2 mX1_sureAt (fun r : Int32 => (some (Value.int r), h)) [.ref (mad g t), .int p0] h (x_X1_sureAt t p0 h) := by
  refine mf_of (by decide) (Nat.le_of_ble_eq_true rfl) ?_
  show mw g l 2 mX1_sureAt (fun r : Int32 => (some (Value.int r), h)) 0 [(0, .ref (mad g t)), (1, .int p0)] [] h _
  unfold x_X1_sureAt
  refine mw_aload_n (n := 1) (q := 0) dX1_sureAt_0 rfl rfl rfl ?_
  refine mw_geti (n := 4) (a := t) (k := 3) cl1 ht (by decide) rfl rfl fl_X1_92 dX1_sureAt_1 rfl ?_
  refine mw_if_ne (n := 7) (t := 10) dX1_sureAt_4 rfl (by decide) Iff.rfl (fun c1 => ?_) (fun c1 => ?_)
  · refine mw_aload_n (n := 11) (q := 0) dX1_sureAt_10 rfl rfl rfl ?_
    refine mw_callV (n := 14) (a := t) (As := []) cl1 ht (t_X1_openCells hg t ht h) (by decide) ok_X1_openCells rfl rfl lk_X1_101 im_X1_openCells se_X1_openCells dX1_sureAt_11 rfl rfl (Nat.le_of_ble_eq_true rfl) (fun q2 _ => ?_)
    show mw g l _ _ _ 14 _ [.int q2] h _
    refine mw_iload_n (n := 15) (q := 1) dX1_sureAt_14 rfl rfl rfl ?_
    refine mw_callN (n := 18) (As := [.int q2, .int p0]) (t_X8_yesIn hg q2 p0 h) (by decide) ok_X8_yesIn rfl ln_X1_105 sm_X8_yesIn dX1_sureAt_15 rfl rfl (Nat.le_of_ble_eq_true rfl) (fun q3 _ => ?_)
    show mw g l _ _ _ 18 _ [.int q3] h _
    refine mw_iconst (n := 19) (v := 1) dX1_sureAt_18 rfl (by decide) ?_
    refine mw_icmp_ne (n := 22) (t := 26) dX1_sureAt_19 rfl (by decide) Iff.rfl (fun c4 => ?_) (fun c4 => ?_)
    · refine mw_aload_n (n := 27) (q := 0) dX1_sureAt_26 rfl rfl rfl ?_
      refine mw_geti (n := 30) (a := t) (k := 5) cl1 ht (by decide) rfl rfl fl_X1_95 dX1_sureAt_27 rfl ?_
      refine mw_iload_n (n := 31) (q := 1) dX1_sureAt_30 rfl rfl rfl ?_
      refine mw_callN (n := 34) (As := [.int (mgi h t 5), .int p0]) (t_X8_yesIn hg (mgi h t 5) p0 h) (by decide) ok_X8_yesIn rfl ln_X1_105 sm_X8_yesIn dX1_sureAt_31 rfl rfl (Nat.le_of_ble_eq_true rfl) (fun q5 _ => ?_)
      show mw g l _ _ _ 34 _ [.int q5] h _
      exact mw_iret dX1_sureAt_34 rfl rfl
    · refine mw_iconst (n := 23) (v := 2) dX1_sureAt_22 rfl (by decide) ?_
      refine mw_goto (n := 34) dX1_sureAt_23 (by decide) ?_
      exact mw_iret dX1_sureAt_34 rfl rfl
  · refine mw_bipush (n := 9) (v := -9) dX1_sureAt_7 rfl (by decide) ?_
    exact mw_iret dX1_sureAt_9 rfl rfl
noncomputable def x_X1_yesAt_10 (N : Nat) (r0 : Nat) (v2 : Int32) (h : mH) (f : Nat) : Int32 → Int32 → Option (Int32) :=
  Nat.rec (motive := fun _ => Int32 → Int32 → Option (Int32)) (fun _ _ => none) (fun _ self10 => fun v3 v4 => 
    if (mgi h r0 3) ≤ v4 then
      some v3
    else
      mck v4 310 <|
      mlet (v3 + (if ((mgi h (r0 + 2) (v4).toNatClampNeg) &&& v2) = 0 then (0 : Int32) else (1 : Int32))) fun u3 =>
      self10 u3 (v4 + (1 : Int32))) f
theorem x_X1_yesAt_10_0 (N : Nat) (r0 : Nat) (v2 : Int32) (h : mH) (v3 : Int32) (v4 : Int32) : x_X1_yesAt_10 N r0 v2 h 0 v3 v4 = none := rfl
theorem x_X1_yesAt_10_s (N : Nat) (r0 : Nat) (v2 : Int32) (h : mH) (f : Nat) (v3 : Int32) (v4 : Int32) : x_X1_yesAt_10 N r0 v2 h (f + 1) v3 v4 = (
    if (mgi h r0 3) ≤ v4 then
      some v3
    else
      mck v4 310 <|
      mlet (v3 + (if ((mgi h (r0 + 2) (v4).toNatClampNeg) &&& v2) = 0 then (0 : Int32) else (1 : Int32))) fun u3 =>
      (x_X1_yesAt_10 N r0 v2 h f) u3 (v4 + (1 : Int32))) := rfl
set_option maxRecDepth 20000 in
set_option maxHeartbeats 4000000 in
theorem b_X1_yesAt_10 {g : mG} {l : Launch} (hg : mOK g) (N : Nat) (r0 : Nat) (v2 : Int32) (h : mH) (hr0 : mkn g r0 1) (f : Nat) : ∀ (v3 : Int32) (v4 : Int32), mw g l 1 mX1_yesAt (fun r : Int32 => (some (Value.int r), h)) 10 [(0, .ref (mad g r0)), (2, .int v2), (3, .int v3), (4, .int v4)] [] h (x_X1_yesAt_10 N r0 v2 h f v3 v4) := by
  induction f with
  | zero => intros; exact mw_none
  | succ f hself10 =>
    intro v3 v4
    refine mw_eq (x_X1_yesAt_10_s N r0 v2 h f v3 v4) ?_
    generalize x_X1_yesAt_10 N r0 v2 h f = self10 at hself10 ⊢
    refine mw_iload (n := 12) (q := 3) dX1_yesAt_10 rfl rfl ?_
    refine mw_aload_n (n := 13) (q := 0) dX1_yesAt_12 rfl rfl rfl ?_
    refine mw_geti (n := 16) (a := r0) (k := 3) cl1 hr0 (by decide) rfl rfl fl_X1_92 dX1_yesAt_13 rfl ?_
    refine mw_icmp_ge (n := 19) (t := 45) dX1_yesAt_16 rfl (by decide) Iff.rfl (fun c1 => ?_) (fun c1 => ?_)
    · refine mw_iload_n (n := 46) (q := 2) dX1_yesAt_45 rfl rfl rfl ?_
      exact mw_iret dX1_yesAt_46 rfl rfl
    · refine mw_iload_n (n := 20) (q := 2) dX1_yesAt_19 rfl rfl rfl ?_
      refine mw_aload_n (n := 21) (q := 0) dX1_yesAt_20 rfl rfl rfl ?_
      refine mw_getr (n := 24) (a := r0) (k := 2) cl1 hr0 (by decide) rfl rfl fl_X1_15 dX1_yesAt_21 rfl ?_
      refine mw_iload (n := 26) (q := 3) dX1_yesAt_24 rfl rfl ?_
      refine mw_iald (n := 27) (a := (r0 + 2)) (N := 310) (mk1_2 hg hr0) dX1_yesAt_26 rfl ?_
      refine mw_iload_n (n := 28) (q := 1) dX1_yesAt_27 rfl rfl rfl ?_
      refine mw_iand (n := 29) dX1_yesAt_28 rfl ?_
      refine mw_cutJ (pc' := 37) (lv' := [(0, .ref (mad g r0)), (2, .int v2), (3, .int v3), (4, .int v4)]) (st' := [.int (if ((mgi h (r0 + 2) (v4).toNatClampNeg) &&& v2) = 0 then (0 : Int32) else (1 : Int32)), .int v3]) (fun J => ?_) ?_
      · refine mw_if_eq_m (n := 32) (t := 36) dX1_yesAt_29 rfl (by decide) (fun c2 => ?_) (fun c2 => ?_)
        · refine mw_iconst (n := 37) (v := 0) dX1_yesAt_36 rfl (by decide) ?_
          exact mw_topeq (if_pos c2).symm J
        · refine mw_iconst (n := 33) (v := 1) dX1_yesAt_32 rfl (by decide) ?_
          refine mw_goto (n := 37) dX1_yesAt_33 (by decide) ?_
          exact mw_topeq (if_neg c2).symm J
      refine mw_iadd (n := 38) dX1_yesAt_37 rfl ?_
      refine mw_letI (fun u3 => ?_)
      refine mw_istore_n (n := 39) dX1_yesAt_38 rfl rfl (by decide) rfl ?_
      refine mw_iinc (n := 42) (q := 3) (v := (v4 + (1 : Int32))) dX1_yesAt_39 rfl rfl rfl (by decide) rfl ?_
      refine mw_goto (n := 10) dX1_yesAt_42 (by decide) ?_
      refine mw_sub [2, 3, 1, 0] rfl ?_
      exact hself10 u3 (v4 + (1 : Int32))
noncomputable def x_X1_yesAt (N : Nat) (t : Nat) (p0 : Int32) (h : mH) : Option (Int32) :=
  (x_X8_bitOf p0).bind fun q1 =>
  x_X1_yesAt_10 N t q1 h N (0 : Int32) (0 : Int32)
set_option maxRecDepth 20000 in
set_option maxHeartbeats 4000000 in
theorem t_X1_yesAt {g : mG} {l : Launch} (hg : mOK g) (N : Nat) (t : Nat) (p0 : Int32) (ht : mkn g t 1) (h : mH) : mf g l 1 mX1_yesAt (fun r : Int32 => (some (Value.int r), h)) [.ref (mad g t), .int p0] h (x_X1_yesAt N t p0 h) := by
  refine mf_of (by decide) (Nat.le_of_ble_eq_true rfl) ?_
  show mw g l 1 mX1_yesAt (fun r : Int32 => (some (Value.int r), h)) 0 [(0, .ref (mad g t)), (1, .int p0)] [] h _
  unfold x_X1_yesAt
  refine mw_iload_n (n := 1) (q := 1) dX1_yesAt_0 rfl rfl rfl ?_
  refine mw_callN (n := 4) (As := [.int p0]) (t_X8_bitOf hg p0 h) (by decide) ok_X8_bitOf rfl ln_X1_108 sm_X8_bitOf dX1_yesAt_1 rfl rfl (Nat.le_of_ble_eq_true rfl) (fun q1 _ => ?_)
  show mw g l _ _ _ 4 _ [.int q1] h _
  refine mw_istore_n (n := 5) dX1_yesAt_4 rfl rfl (by decide) rfl ?_
  refine mw_iconst (n := 6) (v := 0) dX1_yesAt_5 rfl (by decide) ?_
  refine mw_istore_n (n := 7) dX1_yesAt_6 rfl rfl (by decide) rfl ?_
  refine mw_iconst (n := 8) (v := 0) dX1_yesAt_7 rfl (by decide) ?_
  refine mw_istore (n := 10) dX1_yesAt_8 rfl (by decide) rfl ?_
  refine mw_sub [3, 2, 1, 0] rfl ?_
  exact b_X1_yesAt_10 hg N t q1 h ht N (0 : Int32) (0 : Int32)
