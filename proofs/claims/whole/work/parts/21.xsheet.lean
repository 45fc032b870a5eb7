noncomputable def x_X6_become (t : Nat) (p0 : Nat) (h : mH) : Option (mH) :=
  mlet (msi h t 0 (mgi h p0 0)) fun h1 =>
  mlet (msi h1 t 1 (mgi h1 p0 1)) fun h2 =>
  mlet (mcp h2 (p0 + 1) (t + 1) 4) fun h3 =>
  mlet (mcp h3 (p0 + 2) (t + 2) 5) fun h4 =>
  mlet (msi h4 t 4 (mgi h4 p0 4)) fun h5 =>
  mlet (msi h5 t 5 (mgi h5 p0 5)) fun h6 =>
  mlet (msi h6 t 6 (mgi h6 p0 6)) fun h7 =>
  some h7
set_option maxRecDepth 20000 in
set_option maxHeartbeats 4000000 in
theorem t_X6_become {g : mG} {l : Launch} (hg : mOK g) (t : Nat) (p0 : Nat) (ht : mkn g t 6) (hp0 : mkn g p0 6) (h : mH) : mf g l 0 mX6_become (fun r : mH => ((none : Option Value), r)) [.ref (mad g t), .ref (mad g p0)] h (x_X6_become t p0 h) := by
  refine mf_of (by decide) (Nat.le_of_ble_eq_true rfl) ?_
  show mw g l 0 mX6_become (fun r : mH => ((none : Option Value), r)) 0 [(0, .ref (mad g t)), (1, .ref (mad g p0))] [] h _
  unfold x_X6_become
  refine mw_aload_n (n := 1) (q := 0) dX6_become_0 rfl rfl rfl ?_
  refine mw_aload_n (n := 2) (q := 1) dX6_become_1 rfl rfl rfl ?_
  refine mw_geti (n := 5) (a := p0) (k := 0) cl6 hp0 (by decide) rfl rfl fl_X6_9 dX6_become_2 rfl ?_
  refine mw_puti (n := 8) (a := t) (k := 0) cl6 ct6 ht (by decide) rfl rfl rfl rfl fl_X6_9 dX6_become_5 rfl (mw_leth (fun h1 => ?_))
  refine mw_aload_n (n := 9) (q := 0) dX6_become_8 rfl rfl rfl ?_
  refine mw_aload_n (n := 10) (q := 1) dX6_become_9 rfl rfl rfl ?_
  refine mw_geti (n := 13) (a := p0) (k := 1) cl6 hp0 (by decide) rfl rfl fl_X6_15 dX6_become_10 rfl ?_
  refine mw_puti (n := 16) (a := t) (k := 1) cl6 ct6 ht (by decide) rfl rfl rfl rfl fl_X6_15 dX6_become_13 rfl (mw_leth (fun h2 => ?_))
  refine mw_aload_n (n := 17) (q := 1) dX6_become_16 rfl rfl rfl ?_
  refine mw_getr (n := 20) (a := p0) (k := 2) cl6 hp0 (by decide) rfl rfl fl_X6_18 dX6_become_17 rfl ?_
  refine mw_iconst (n := 21) (v := 0) dX6_become_20 rfl (by decide) ?_
  refine mw_aload_n (n := 22) (q := 0) dX6_become_21 rfl rfl rfl ?_
  refine mw_getr (n := 25) (a := t) (k := 2) cl6 ht (by decide) rfl rfl fl_X6_18 dX6_become_22 rfl ?_
  refine mw_iconst (n := 26) (v := 0) dX6_become_25 rfl (by decide) ?_
  refine mw_iconst (n := 27) (v := 4) dX6_become_26 rfl (by decide) ?_
  refine mw_acopy (n := 30) (a := (p0 + 1)) (b := (t + 1)) (N := 4) (mk6_1 hg hp0) (mk6_1 hg ht) (by decide) (by decide) lk_X6_25 ac_native ac_static ac_ini dX6_become_27 rfl (Nat.le_of_ble_eq_true rfl) (by decide) (mw_leth (fun h3 => ?_))
  refine mw_aload_n (n := 31) (q := 1) dX6_become_30 rfl rfl rfl ?_
  refine mw_getr (n := 34) (a := p0) (k := 3) cl6 hp0 (by decide) rfl rfl fl_X6_22 dX6_become_31 rfl ?_
  refine mw_iconst (n := 35) (v := 0) dX6_become_34 rfl (by decide) ?_
  refine mw_aload_n (n := 36) (q := 0) dX6_become_35 rfl rfl rfl ?_
  refine mw_getr (n := 39) (a := t) (k := 3) cl6 ht (by decide) rfl rfl fl_X6_22 dX6_become_36 rfl ?_
  refine mw_iconst (n := 40) (v := 0) dX6_become_39 rfl (by decide) ?_
  refine mw_iconst (n := 41) (v := 5) dX6_become_40 rfl (by decide) ?_
  refine mw_acopy (n := 44) (a := (p0 + 2)) (b := (t + 2)) (N := 5) (mk6_2 hg hp0) (mk6_2 hg ht) (by decide) (by decide) lk_X6_25 ac_native ac_static ac_ini dX6_become_41 rfl (Nat.le_of_ble_eq_true rfl) (by decide) (mw_leth (fun h4 => ?_))
  refine mw_aload_n (n := 45) (q := 0) dX6_become_44 rfl rfl rfl ?_
  refine mw_aload_n (n := 46) (q := 1) dX6_become_45 rfl rfl rfl ?_
  refine mw_geti (n := 49) (a := p0) (k := 4) cl6 hp0 (by decide) rfl rfl fl_X6_31 dX6_become_46 rfl ?_
  refine mw_puti (n := 52) (a := t) (k := 4) cl6 ct6 ht (by decide) rfl rfl rfl rfl fl_X6_31 dX6_become_49 rfl (mw_leth (fun h5 => ?_))
  refine mw_aload_n (n := 53) (q := 0) dX6_become_52 rfl rfl rfl ?_
  refine mw_aload_n (n := 54) (q := 1) dX6_become_53 rfl rfl rfl ?_
  refine mw_geti (n := 57) (a := p0) (k := 5) cl6 hp0 (by decide) rfl rfl fl_X6_34 dX6_become_54 rfl ?_
  refine mw_puti (n := 60) (a := t) (k := 5) cl6 ct6 ht (by decide) rfl rfl rfl rfl fl_X6_34 dX6_become_57 rfl (mw_leth (fun h6 => ?_))
  refine mw_aload_n (n := 61) (q := 0) dX6_become_60 rfl rfl rfl ?_
  refine mw_aload_n (n := 62) (q := 1) dX6_become_61 rfl rfl rfl ?_
  refine mw_geti (n := 65) (a := p0) (k := 6) cl6 hp0 (by decide) rfl rfl fl_X6_37 dX6_become_62 rfl ?_
  refine mw_puti (n := 68) (a := t) (k := 6) cl6 ct6 ht (by decide) rfl rfl rfl rfl fl_X6_37 dX6_become_65 rfl (mw_leth (fun h7 => ?_))
  exact mw_vret dX6_become_68 rfl rfl
noncomputable def x_X6_cells (t : Nat) (h : mH) : Option (Int32) :=
  some ((mgi h t 0) * (mgi h t 1))
set_option maxRecDepth 20000 in
set_option maxHeartbeats 4000000 in
theorem t_X6_cells {g : mG} {l : Launch} (hg : mOK g) (t : Nat) (ht : mkn g t 6) (h : mH) : mf g l 0 mX6_cells (fun r : Int32 => (some (Value.int r), h)) [.ref (mad g t)] h (x_X6_cells t h) := by
  refine mf_of (by decide) (Nat.le_of_ble_eq_true rfl) ?_
  show mw g l 0 mX6_cells (fun r : Int32 => (some (Value.int r), h)) 0 [(0, .ref (mad g t))] [] h _
  unfold x_X6_cells
  refine mw_aload_n (n := 1) (q := 0) dX6_cells_0 rfl rfl rfl ?_
  refine mw_geti (n := 4) (a := t) (k := 0) cl6 ht (by decide) rfl rfl fl_X6_9 dX6_cells_1 rfl ?_
  refine mw_aload_n (n := 5) (q := 0) dX6_cells_4 rfl rfl rfl ?_
  refine mw_geti (n := 8) (a := t) (k := 1) cl6 ht (by decide) rfl rfl fl_X6_15 dX6_cells_5 rfl ?_
  refine mw_imul (n := 9) dX6_cells_8 rfl ?_
  exact mw_iret dX6_cells_9 rfl rfl
noncomputable def x_X6_hasRow (t : Nat) (p0 : Int32) (h : mH) : Option (Int32) :=
  some (if p0 < 0 then (0 : Int32) else (if (mgi h t 0) ≤ p0 then (0 : Int32) else (1 : Int32)))
set_option maxRecDepth 20000 in
set_option maxHeartbeats 4000000 in
theorem t_X6_hasRow {g : mG} {l : Launch} (hg : mOK g) (t : Nat) (p0 : Int32) (ht : mkn g t 6) (h : mH) : mf g l 0 mX6_hasRow (fun r : Int32 => (some (Value.int r), h)) [.ref (mad g t), .int p0] h (x_X6_hasRow t p0 h) := by
  refine mf_of (by decide) (Nat.le_of_ble_eq_true rfl) ?_
  show mw g l 0 mX6_hasRow (fun r : Int32 => (some (Value.int r), h)) 0 [(0, .ref (mad g t)), (1, .int p0)] [] h _
  unfold x_X6_hasRow
  refine mw_iload_n (n := 1) (q := 1) dX6_hasRow_0 rfl rfl rfl ?_
  refine mw_cutJ (pc' := 17) (lv' := [(0, .ref (mad g t)), (1, .int p0)]) (st' := [.int (if p0 < 0 then (0 : Int32) else (if (mgi h t 0) ≤ p0 then (0 : Int32) else (1 : Int32)))]) (fun J => ?_) ?_
  · refine mw_if_lt_m (n := 4) (t := 16) dX6_hasRow_1 rfl (by decide) (fun c1 => ?_) (fun c1 => ?_)
    · refine mw_iconst (n := 17) (v := 0) dX6_hasRow_16 rfl (by decide) ?_
      exact mw_topeq (if_pos c1).symm J
    · refine mw_iload_n (n := 5) (q := 1) dX6_hasRow_4 rfl rfl rfl ?_
      refine mw_aload_n (n := 6) (q := 0) dX6_hasRow_5 rfl rfl rfl ?_
      refine mw_geti (n := 9) (a := t) (k := 0) cl6 ht (by decide) rfl rfl fl_X6_9 dX6_hasRow_6 rfl ?_
      refine mw_icmp_ge_m (n := 12) (t := 16) dX6_hasRow_9 rfl (by decide) (fun c2 => ?_) (fun c2 => ?_)
      · refine mw_iconst (n := 17) (v := 0) dX6_hasRow_16 rfl (by decide) ?_
        exact mw_topeq ((if_neg c1).trans (if_pos c2)).symm J
      · refine mw_iconst (n := 13) (v := 1) dX6_hasRow_12 rfl (by decide) ?_
        refine mw_goto (n := 17) dX6_hasRow_13 (by decide) ?_
        exact mw_topeq ((if_neg c1).trans (if_neg c2)).symm J
  exact mw_zret dX6_hasRow_17 rfl (mz01 (Or.inl rfl) (mz01 (Or.inl rfl) (Or.inr rfl))) rfl
noncomputable def x_X6_hasColumn (t : Nat) (p0 : Int32) (h : mH) : Option (Int32) :=
  some (if p0 < 0 then (0 : Int32) else (if (mgi h t 1) ≤ p0 then (0 : Int32) else (1 : Int32)))
set_option maxRecDepth 20000 in
set_option maxHeartbeats 4000000 in
theorem t_X6_hasColumn {g : mG} {l : Launch} (hg : mOK g) (t : Nat) (p0 : Int32) (ht : mkn g t 6) (h : mH) : mf g l 0 mX6_hasColumn (fun r : Int32 => (some (Value.int r), h)) [.ref (mad g t), .int p0] h (x_X6_hasColumn t p0 h) := by
  refine mf_of (by decide) (Nat.le_of_ble_eq_true rfl) ?_
  show mw g l 0 mX6_hasColumn (fun r : Int32 => (some (Value.int r), h)) 0 [(0, .ref (mad g t)), (1, .int p0)] [] h _
  unfold x_X6_hasColumn
  refine mw_iload_n (n := 1) (q := 1) dX6_hasColumn_0 rfl rfl rfl ?_
  refine mw_cutJ (pc' := 17) (lv' := [(0, .ref (mad g t)), (1, .int p0)]) (st' := [.int (if p0 < 0 then (0 : Int32) else (if (mgi h t 1) ≤ p0 then (0 : Int32) else (1 : Int32)))]) (fun J => ?_) ?_
  · refine mw_if_lt_m (n := 4) (t := 16) dX6_hasColumn_1 rfl (by decide) (fun c1 => ?_) (fun c1 => ?_)
    · refine mw_iconst (n := 17) (v := 0) dX6_hasColumn_16 rfl (by decide) ?_
      exact mw_topeq (if_pos c1).symm J
    · refine mw_iload_n (n := 5) (q := 1) dX6_hasColumn_4 rfl rfl rfl ?_
      refine mw_aload_n (n := 6) (q := 0) dX6_hasColumn_5 rfl rfl rfl ?_
      refine mw_geti (n := 9) (a := t) (k := 1) cl6 ht (by decide) rfl rfl fl_X6_15 dX6_hasColumn_6 rfl ?_
      refine mw_icmp_ge_m (n := 12) (t := 16) dX6_hasColumn_9 rfl (by decide) (fun c2 => ?_) (fun c2 => ?_)
      · refine mw_iconst (n := 17) (v := 0) dX6_hasColumn_16 rfl (by decide) ?_
        exact mw_topeq ((if_neg c1).trans (if_pos c2)).symm J
      · refine mw_iconst (n := 13) (v := 1) dX6_hasColumn_12 rfl (by decide) ?_
        refine mw_goto (n := 17) dX6_hasColumn_13 (by decide) ?_
        exact mw_topeq ((if_neg c1).trans (if_neg c2)).symm J
  exact mw_zret dX6_hasColumn_17 rfl (mz01 (Or.inl rfl) (mz01 (Or.inl rfl) (Or.inr rfl))) rfl
noncomputable def x_X6_hasCell (t : Nat) (p0 : Int32) (h : mH) : Option (Int32) :=
  if p0 < 0 then
    some (0 : Int32)
  else
    (x_X6_cells t h).bind fun q2 =>
    some (if q2 ≤ p0 then (0 : Int32) else (1 : Int32))
set_option maxRecDepth 20000 in
set_option maxHeartbeats 4000000 in
theorem t_X6_hasCell {g : mG} {l : Launch} (hg : mOK g) (t : Nat) (p0 : Int32) (ht : mkn g t 6) (h : mH) : mf g l 1 mX6_hasCell (fun r : Int32 => (some (Value.int r), h)) [.ref (mad g t), .int p0] h (x_X6_hasCell t p0 h) := by
  refine mf_of (by decide) (Nat.le_of_ble_eq_true rfl) ?_
  show mw g l 1 mX6_hasCell (fun r : Int32 => (some (Value.int r), h)) 0 [(0, .ref (mad g t)), (1, .int p0)] [] h _
  unfold x_X6_hasCell
  refine mw_iload_n (n := 1) (q := 1) dX6_hasCell_0 rfl rfl rfl ?_
  refine mw_if_lt (n := 4) (t := 16) dX6_hasCell_1 rfl (by decide) Iff.rfl (fun c1 => ?_) (fun c1 => ?_)
  · refine mw_iconst (n := 17) (v := 0) dX6_hasCell_16 rfl (by decide) ?_
    exact mw_zret dX6_hasCell_17 rfl (Or.inl rfl) rfl
  · refine mw_iload_n (n := 5) (q := 1) dX6_hasCell_4 rfl rfl rfl ?_
    refine mw_aload_n (n := 6) (q := 0) dX6_hasCell_5 rfl rfl rfl ?_
    refine mw_callV (n := 9) (a := t) (As := []) cl6 ht (t_X6_cells hg t ht h) (by decide) ok_X6_cells rfl rfl lk_X6_40 im_X6_cells se_X6_cells dX6_hasCell_6 rfl rfl (Nat.le_of_ble_eq_true rfl) (fun q2 _ => ?_)
    show mw g l _ _ _ 9 _ [.int q2, .int p0] h _
    refine mw_cutJ (pc' := 17) (lv' := [(0, .ref (mad g t)), (1, .int p0)]) (st' := [.int (if q2 ≤ p0 then (0 : Int32) else (1 : Int32))]) (fun J => ?_) ?_
    · refine mw_icmp_ge_m (n := 12) (t := 16) dX6_hasCell_9 rfl (by decide) (fun c3 => ?_) (fun c3 => ?_)
      · refine mw_iconst (n := 17) (v := 0) dX6_hasCell_16 rfl (by decide) ?_
        exact mw_topeq (if_pos c3).symm J
      · refine mw_iconst (n := 13) (v := 1) dX6_hasCell_12 rfl (by decide) ?_
        refine mw_goto (n := 17) dX6_hasCell_13 (by decide) ?_
        exact mw_topeq (if_neg c3).symm J
    exact mw_zret dX6_hasCell_17 rfl (mz01 (Or.inl rfl) (Or.inr rfl)) rfl
noncomputable def x_X6_totalCount (t : Nat) (p0 : Int32) (h : mH) : Option (Int32) :=
  some (if ¬ p0 = 0 then (mgi h t 1) else (mgi h t 0))
set_option maxRecDepth 20000 in
set_option maxHeartbeats 4000000 in
theorem t_X6_totalCount {g : mG} {l : Launch} (hg : mOK g) (t : Nat) (p0 : Int32) (ht : mkn g t 6) (h : mH) : mf g l 0 mX6_totalCount (fun r : Int32 => (some (Value.int r), h)) [.ref (mad g t), .int p0] h (x_X6_totalCount t p0 h) := by
  refine mf_of (by decide) (Nat.le_of_ble_eq_true rfl) ?_
  show mw g l 0 mX6_totalCount (fun r : Int32 => (some (Value.int r), h)) 0 [(0, .ref (mad g t)), (1, .int p0)] [] h _
  unfold x_X6_totalCount
  refine mw_iload_n (n := 1) (q := 1) dX6_totalCount_0 rfl rfl rfl ?_
  refine mw_cutJ (pc' := 15) (lv' := [(0, .ref (mad g t)), (1, .int p0)]) (st' := [.int (if ¬ p0 = 0 then (mgi h t 1) else (mgi h t 0))]) (fun J => ?_) ?_
  · refine mw_if_ne_m (n := 4) (t := 11) dX6_totalCount_1 rfl (by decide) (fun c1 => ?_) (fun c1 => ?_)
    · refine mw_aload_n (n := 12) (q := 0) dX6_totalCount_11 rfl rfl rfl ?_
      refine mw_geti (n := 15) (a := t) (k := 1) cl6 ht (by decide) rfl rfl fl_X6_15 dX6_totalCount_12 rfl ?_
      exact mw_topeq (if_pos c1).symm J
    · refine mw_aload_n (n := 5) (q := 0) dX6_totalCount_4 rfl rfl rfl ?_
      refine mw_geti (n := 8) (a := t) (k := 0) cl6 ht (by decide) rfl rfl fl_X6_9 dX6_totalCount_5 rfl ?_
      refine mw_goto (n := 15) dX6_totalCount_8 (by decide) ?_
      exact mw_topeq (if_neg c1).symm J
  exact mw_iret dX6_totalCount_15 rfl rfl
noncomputable def x_X6_hasTotal (t : Nat) (p0 : Int32) (p1 : Int32) (h : mH) : Option (Int32) :=
  if p1 < 0 then
    some (0 : Int32)
  else
    (x_X6_totalCount t p0 h).bind fun q2 =>
    some (if q2 ≤ p1 then (0 : Int32) else (1 : Int32))
set_option maxRecDepth 20000 in
set_option maxHeartbeats 4000000 in
theorem t_X6_hasTotal {g : mG} {l : Launch} (hg : mOK g) (t : Nat) (p0 : Int32) (p1 : Int32) (ht : mkn g t 6) (h : mH) : mf g l 1 mX6_hasTotal (fun r : Int32 => (some (Value.int r), h)) [.ref (mad g t), .int p0, .int p1] h (x_X6_hasTotal t p0 p1 h) := by
  refine mf_of (by decide) (Nat.le_of_ble_eq_true rfl) ?_
  show mw g l 1 mX6_hasTotal (fun r : Int32 => (some (Value.int r), h)) 0 [(0, .ref (mad g t)), (1, .int p0), (2, .int p1)] [] h _
  unfold x_X6_hasTotal
  refine mw_iload_n (n := 1) (q := 2) dX6_hasTotal_0 rfl rfl rfl ?_
  refine mw_if_lt (n := 4) (t := 17) dX6_hasTotal_1 rfl (by decide) Iff.rfl (fun c1 => ?_) (fun c1 => ?_)
  · refine mw_iconst (n := 18) (v := 0) dX6_hasTotal_17 rfl (by decide) ?_
    exact mw_zret dX6_hasTotal_18 rfl (Or.inl rfl) rfl
  · refine mw_iload_n (n := 5) (q := 2) dX6_hasTotal_4 rfl rfl rfl ?_
    refine mw_aload_n (n := 6) (q := 0) dX6_hasTotal_5 rfl rfl rfl ?_
    refine mw_iload_n (n := 7) (q := 1) dX6_hasTotal_6 rfl rfl rfl ?_
    refine mw_callV (n := 10) (a := t) (As := [.int p0]) cl6 ht (t_X6_totalCount hg t p0 ht h) (by decide) ok_X6_totalCount rfl rfl lk_X6_44 im_X6_totalCount se_X6_totalCount dX6_hasTotal_7 rfl rfl (Nat.le_of_ble_eq_true rfl) (fun q2 _ => ?_)
    show mw g l _ _ _ 10 _ [.int q2, .int p1] h _
    refine mw_cutJ (pc' := 18) (lv' := [(0, .ref (mad g t)), (1, .int p0), (2, .int p1)]) (st' := [.int (if q2 ≤ p1 then (0 : Int32) else (1 : Int32))]) (fun J => ?_) ?_
    · refine mw_icmp_ge_m (n := 13) (t := 17) dX6_hasTotal_10 rfl (by decide) (fun c3 => ?_) (fun c3 => ?_)
      · refine mw_iconst (n := 18) (v := 0) dX6_hasTotal_17 rfl (by decide) ?_
        exact mw_topeq (if_pos c3).symm J
      · refine mw_iconst (n := 14) (v := 1) dX6_hasTotal_13 rfl (by decide) ?_
        refine mw_goto (n := 18) dX6_hasTotal_14 (by decide) ?_
        exact mw_topeq (if_neg c3).symm J
    exact mw_zret dX6_hasTotal_18 rfl (mz01 (Or.inl rfl) (Or.inr rfl)) rfl
noncomputable def x_X6_mostTotal (t : Nat) (p0 : Int32) (h : mH) : Option (Int32) :=
  some (if ¬ p0 = 0 then (mgi h t 0) else (mgi h t 1))
set_option maxRecDepth 20000 in
set_option maxHeartbeats 4000000 in
theorem t_X6_mostTotal {g : mG} {l : Launch} (hg : mOK g) (t : Nat) (p0 : Int32) (ht : mkn g t 6) (h : mH) : mf g l 0 mX6_mostTotal (fun r : Int32 => (some (Value.int r), h)) [.ref (mad g t), .int p0] h (x_X6_mostTotal t p0 h) := by
  refine mf_of (by decide) (Nat.le_of_ble_eq_true rfl) ?_
  show mw g l 0 mX6_mostTotal (fun r : Int32 => (some (Value.int r), h)) 0 [(0, .ref (mad g t)), (1, .int p0)] [] h _
  unfold x_X6_mostTotal
  refine mw_iload_n (n := 1) (q := 1) dX6_mostTotal_0 rfl rfl rfl ?_
  refine mw_cutJ (pc' := 15) (lv' := [(0, .ref (mad g t)), (1, .int p0)]) (st' := [.int (if ¬ p0 = 0 then (mgi h t 0) else (mgi h t 1))]) (fun J => ?_) ?_
  · refine mw_if_ne_m (n := 4) (t := 11) dX6_mostTotal_1 rfl (by decide) (fun c1 => ?_) (fun c1 => ?_)
    · refine mw_aload_n (n := 12) (q := 0) dX6_mostTotal_11 rfl rfl rfl ?_
      refine mw_geti (n := 15) (a := t) (k := 0) cl6 ht (by decide) rfl rfl fl_X6_9 dX6_mostTotal_12 rfl ?_
      exact mw_topeq (if_pos c1).symm J
    · refine mw_aload_n (n := 5) (q := 0) dX6_mostTotal_4 rfl rfl rfl ?_
      refine mw_geti (n := 8) (a := t) (k := 1) cl6 ht (by decide) rfl rfl fl_X6_15 dX6_mostTotal_5 rfl ?_
      refine mw_goto (n := 15) dX6_mostTotal_8 (by decide) ?_
      exact mw_topeq (if_neg c1).symm J
  exact mw_iret dX6_mostTotal_15 rfl rfl
noncomputable def x_X6_totalOf (t : Nat) (p0 : Int32) (p1 : Int32) (h : mH) : Option (Int32) :=
  if ¬ p0 = 0 then
    if p1 < 0 then
      some (0 : Int32)
    else
      if (5 : Int32) ≤ p1 then
        some (0 : Int32)
      else
        mck p1 5 <|
        some (mgi h (t + 2) (p1).toNatClampNeg)
  else
    if p1 < 0 then
      some (0 : Int32)
    else
      if (4 : Int32) ≤ p1 then
        some (0 : Int32)
      else
        mck p1 4 <|
        some (mgi h (t + 1) (p1).toNatClampNeg)
set_option maxRecDepth 20000 in
set_option maxHeartbeats 4000000 in
theorem t_X6_totalOf {g : mG} {l : Launch} (hg : mOK g) (t : Nat) (p0 : Int32) (p1 : Int32) (ht : mkn g t 6) (h : mH) : mf g l 0 mX6_totalOf (fun r : Int32 => (some (Value.int r), h)) [.ref (mad g t), .int p0, .int p1] h (x_X6_totalOf t p0 p1 h) := by
  refine mf_of (by decide) (Nat.le_of_ble_eq_true rfl) ?_
  show mw g l 0 mX6_totalOf (fun r : Int32 => (some (Value.int r), h)) 0 [(0, .ref (mad g t)), (1, .int p0), (2, .int p1)] [] h _
  unfold x_X6_totalOf
  refine mw_iload_n (n := 1) (q := 1) dX6_totalOf_0 rfl rfl rfl ?_
  refine mw_if_ne (n := 4) (t := 11) dX6_totalOf_1 rfl (by decide) Iff.rfl (fun c1 => ?_) (fun c1 => ?_)
  · refine mw_aload_n (n := 12) (q := 0) dX6_totalOf_11 rfl rfl rfl ?_
    refine mw_getr (n := 15) (a := t) (k := 3) cl6 ht (by decide) rfl rfl fl_X6_22 dX6_totalOf_12 rfl ?_
    refine mw_astore_n (n := 16) dX6_totalOf_15 rfl rfl (by decide) rfl ?_
    refine mw_iload_n (n := 17) (q := 3) dX6_totalOf_16 rfl rfl rfl ?_
    refine mw_if_lt (n := 20) (t := 32) dX6_totalOf_17 rfl (by decide) Iff.rfl (fun c2 => ?_) (fun c2 => ?_)
    · refine mw_iconst (n := 33) (v := 0) dX6_totalOf_32 rfl (by decide) ?_
      exact mw_iret dX6_totalOf_33 rfl rfl
    · refine mw_iload_n (n := 21) (q := 3) dX6_totalOf_20 rfl rfl rfl ?_
      refine mw_aload_n (n := 22) (q := 0) dX6_totalOf_21 rfl rfl rfl ?_
      refine mw_alen (n := 23) (a := (t + 2)) (N := 5) (v := 5) (mk6_2 hg ht) (by decide) dX6_totalOf_22 rfl ?_
      refine mw_icmp_ge (n := 26) (t := 32) dX6_totalOf_23 rfl (by decide) Iff.rfl (fun c3 => ?_) (fun c3 => ?_)
      · refine mw_iconst (n := 33) (v := 0) dX6_totalOf_32 rfl (by decide) ?_
        exact mw_iret dX6_totalOf_33 rfl rfl
      · refine mw_aload_n (n := 27) (q := 0) dX6_totalOf_26 rfl rfl rfl ?_
        refine mw_iload_n (n := 28) (q := 3) dX6_totalOf_27 rfl rfl rfl ?_
        refine mw_iald (n := 29) (a := (t + 2)) (N := 5) (mk6_2 hg ht) dX6_totalOf_28 rfl ?_
        refine mw_goto (n := 33) dX6_totalOf_29 (by decide) ?_
        exact mw_iret dX6_totalOf_33 rfl rfl
  · refine mw_aload_n (n := 5) (q := 0) dX6_totalOf_4 rfl rfl rfl ?_
    refine mw_getr (n := 8) (a := t) (k := 2) cl6 ht (by decide) rfl rfl fl_X6_18 dX6_totalOf_5 rfl ?_
    refine mw_goto (n := 15) dX6_totalOf_8 (by decide) ?_
    refine mw_astore_n (n := 16) dX6_totalOf_15 rfl rfl (by decide) rfl ?_
    refine mw_iload_n (n := 17) (q := 3) dX6_totalOf_16 rfl rfl rfl ?_
    refine mw_if_lt (n := 20) (t := 32) dX6_totalOf_17 rfl (by decide) Iff.rfl (fun c4 => ?_) (fun c4 => ?_)
    · refine mw_iconst (n := 33) (v := 0) dX6_totalOf_32 rfl (by decide) ?_
      exact mw_iret dX6_totalOf_33 rfl rfl
    · refine mw_iload_n (n := 21) (q := 3) dX6_totalOf_20 rfl rfl rfl ?_
      refine mw_aload_n (n := 22) (q := 0) dX6_totalOf_21 rfl rfl rfl ?_
      refine mw_alen (n := 23) (a := (t + 1)) (N := 4) (v := 4) (mk6_1 hg ht) (by decide) dX6_totalOf_22 rfl ?_
      refine mw_icmp_ge (n := 26) (t := 32) dX6_totalOf_23 rfl (by decide) Iff.rfl (fun c5 => ?_) (fun c5 => ?_)
      · refine mw_iconst (n := 33) (v := 0) dX6_totalOf_32 rfl (by decide) ?_
        exact mw_iret dX6_totalOf_33 rfl rfl
      · refine mw_aload_n (n := 27) (q := 0) dX6_totalOf_26 rfl rfl rfl ?_
        refine mw_iload_n (n := 28) (q := 3) dX6_totalOf_27 rfl rfl rfl ?_
        refine mw_iald (n := 29) (a := (t + 1)) (N := 4) (mk6_1 hg ht) dX6_totalOf_28 rfl ?_
        refine mw_goto (n := 33) dX6_totalOf_29 (by decide) ?_
        exact mw_iret dX6_totalOf_33 rfl rfl
noncomputable def x_X6_putTotal (t : Nat) (p0 : Int32) (p1 : Int32) (p2 : Int32) (h : mH) : Option (mH) :=
  if ¬ p0 = 0 then
    if p1 < 0 then
      some h
    else
      if (5 : Int32) ≤ p1 then
        some h
      else
        mck p1 5 <|
        mlet (msi h (t + 2) (p1).toNatClampNeg p2) fun h4 =>
        some h4
  else
    if p1 < 0 then
      some h
    else
      if (4 : Int32) ≤ p1 then
        some h
      else
        mck p1 4 <|
        mlet (msi h (t + 1) (p1).toNatClampNeg p2) fun h7 =>
        some h7
set_option maxRecDepth 20000 in
set_option maxHeartbeats 4000000 in
theorem t_X6_putTotal {g : mG} {l : Launch} (hg : mOK g) (t : Nat) (p0 : Int32) (p1 : Int32) (p2 : Int32) (ht : mkn g t 6) (h : mH) : mf g l 0 mX6_putTotal (fun r : mH => ((none : Option Value), r)) [.ref (mad g t), .int p0, .int p1, .int p2] h (x_X6_putTotal t p0 p1 p2 h) := by
  refine mf_of (by decide) (Nat.le_of_ble_eq_true rfl) ?_
  show mw g l 0 mX6_putTotal (fun r : mH => ((none : Option Value), r)) 0 [(0, .ref (mad g t)), (1, .int p0), (2, .int p1), (3, .int p2)] [] h _
  unfold x_X6_putTotal
  refine mw_iload_n (n := 1) (q := 1) dX6_putTotal_0 rfl rfl rfl ?_
  refine mw_if_ne (n := 4) (t := 11) dX6_putTotal_1 rfl (by decide) Iff.rfl (fun c1 => ?_) (fun c1 => ?_)
  · refine mw_aload_n (n := 12) (q := 0) dX6_putTotal_11 rfl rfl rfl ?_
    refine mw_getr (n := 15) (a := t) (k := 3) cl6 ht (by decide) rfl rfl fl_X6_22 dX6_putTotal_12 rfl ?_
    refine mw_astore (n := 17) dX6_putTotal_15 rfl (by decide) rfl ?_
    refine mw_iload_n (n := 18) (q := 3) dX6_putTotal_17 rfl rfl rfl ?_
    refine mw_if_lt (n := 21) (t := 33) dX6_putTotal_18 rfl (by decide) Iff.rfl (fun c2 => ?_) (fun c2 => ?_)
    · exact mw_vret dX6_putTotal_33 rfl rfl
    · refine mw_iload_n (n := 22) (q := 3) dX6_putTotal_21 rfl rfl rfl ?_
      refine mw_aload (n := 24) (q := 0) dX6_putTotal_22 rfl rfl ?_
      refine mw_alen (n := 25) (a := (t + 2)) (N := 5) (v := 5) (mk6_2 hg ht) (by decide) dX6_putTotal_24 rfl ?_
      refine mw_icmp_ge (n := 28) (t := 33) dX6_putTotal_25 rfl (by decide) Iff.rfl (fun c3 => ?_) (fun c3 => ?_)
      · exact mw_vret dX6_putTotal_33 rfl rfl
      · refine mw_aload (n := 30) (q := 0) dX6_putTotal_28 rfl rfl ?_
        refine mw_iload_n (n := 31) (q := 3) dX6_putTotal_30 rfl rfl rfl ?_
        refine mw_iload_n (n := 32) (q := 4) dX6_putTotal_31 rfl rfl rfl ?_
        refine mw_iast (n := 33) (a := (t + 2)) (N := 5) (mk6_2 hg ht) dX6_putTotal_32 rfl (mw_leth (fun h4 => ?_))
        exact mw_vret dX6_putTotal_33 rfl rfl
  · refine mw_aload_n (n := 5) (q := 0) dX6_putTotal_4 rfl rfl rfl ?_
    refine mw_getr (n := 8) (a := t) (k := 2) cl6 ht (by decide) rfl rfl fl_X6_18 dX6_putTotal_5 rfl ?_
    refine mw_goto (n := 15) dX6_putTotal_8 (by decide) ?_
    refine mw_astore (n := 17) dX6_putTotal_15 rfl (by decide) rfl ?_
    refine mw_iload_n (n := 18) (q := 3) dX6_putTotal_17 rfl rfl rfl ?_
    refine mw_if_lt (n := 21) (t := 33) dX6_putTotal_18 rfl (by decide) Iff.rfl (fun c5 => ?_) (fun c5 => ?_)
    · exact mw_vret dX6_putTotal_33 rfl rfl
    · refine mw_iload_n (n := 22) (q := 3) dX6_putTotal_21 rfl rfl rfl ?_
      refine mw_aload (n := 24) (q := 0) dX6_putTotal_22 rfl rfl ?_
      refine mw_alen (n := 25) (a := (t + 1)) (N := 4) (v := 4) (mk6_1 hg ht) (by decide) dX6_putTotal_24 rfl ?_
      refine mw_icmp_ge (n := 28) (t := 33) dX6_putTotal_25 rfl (by decide) Iff.rfl (fun c6 => ?_) (fun c6 => ?_)
      · exact mw_vret dX6_putTotal_33 rfl rfl
      · refine mw_aload (n := 30) (q := 0) dX6_putTotal_28 rfl rfl ?_
        refine mw_iload_n (n := 31) (q := 3) dX6_putTotal_30 rfl rfl rfl ?_
        refine mw_iload_n (n := 32) (q := 4) dX6_putTotal_31 rfl rfl rfl ?_
        refine mw_iast (n := 33) (a := (t + 1)) (N := 4) (mk6_1 hg ht) dX6_putTotal_32 rfl (mw_leth (fun h7 => ?_))
        exact mw_vret dX6_putTotal_33 rfl rfl
noncomputable def x_X6_together_4 (N : Nat) (r0 : Nat) (v1 : Int32) (h : mH) (f : Nat) : Int32 → Int32 → Option (Int32) :=
  Nat.rec (motive := fun _ => Int32 → Int32 → Option (Int32)) (fun _ _ => none) (fun _ self4 => fun v2 v3 => 
    (x_X6_totalCount r0 v1 h).bind fun q1 =>
    if q1 ≤ v3 then
      some v2
    else
      (x_X6_totalOf r0 v1 v3 h).bind fun q3 =>
      mlet (v2 + q3) fun u4 =>
      self4 u4 (v3 + (1 : Int32))) f
theorem x_X6_together_4_0 (N : Nat) (r0 : Nat) (v1 : Int32) (h : mH) (v2 : Int32) (v3 : Int32) : x_X6_together_4 N r0 v1 h 0 v2 v3 = none := rfl
theorem x_X6_together_4_s (N : Nat) (r0 : Nat) (v1 : Int32) (h : mH) (f : Nat) (v2 : Int32) (v3 : Int32) : x_X6_together_4 N r0 v1 h (f + 1) v2 v3 = (
    (x_X6_totalCount r0 v1 h).bind fun q1 =>
    if q1 ≤ v3 then
      some v2
    else
      (x_X6_totalOf r0 v1 v3 h).bind fun q3 =>
      mlet (v2 + q3) fun u4 =>
      (x_X6_together_4 N r0 v1 h f) u4 (v3 + (1 : Int32))) := rfl
set_option maxRecDepth 20000 in
set_option maxHeartbeats 4000000 in
theorem b_X6_together_4 {g : mG} {l : Launch} (hg : mOK g) (N : Nat) (r0 : Nat) (v1 : Int32) (h : mH) (hr0 : mkn g r0 6) (f : Nat) : ∀ (v2 : Int32) (v3 : Int32), mw g l 1 mX6_together (fun r : Int32 => (some (Value.int r), h)) 4 [(0, .ref (mad g r0)), (1, .int v1), (2, .int v2), (3, .int v3)] [] h (x_X6_together_4 N r0 v1 h f v2 v3) := by
  induction f with
  | zero => intros; exact mw_none
  | succ f hself4 =>
    intro v2 v3
    refine mw_eq (x_X6_together_4_s N r0 v1 h f v2 v3) ?_
    generalize x_X6_together_4 N r0 v1 h f = self4 at hself4 ⊢
    refine mw_iload_n (n := 5) (q := 3) dX6_together_4 rfl rfl rfl ?_
    refine mw_aload_n (n := 6) (q := 0) dX6_together_5 rfl rfl rfl ?_
    refine mw_iload_n (n := 7) (q := 1) dX6_together_6 rfl rfl rfl ?_
    refine mw_callV (n := 10) (a := r0) (As := [.int v1]) cl6 hr0 (t_X6_totalCount hg r0 v1 hr0 h) (by decide) ok_X6_totalCount rfl rfl lk_X6_44 im_X6_totalCount se_X6_totalCount dX6_together_7 rfl rfl (Nat.le_of_ble_eq_true rfl) (fun q1 _ => ?_)
    show mw g l _ _ _ 10 _ [.int q1, .int v3] h _
    refine mw_icmp_ge (n := 13) (t := 28) dX6_together_10 rfl (by decide) Iff.rfl (fun c2 => ?_) (fun c2 => ?_)
    · refine mw_iload_n (n := 29) (q := 2) dX6_together_28 rfl rfl rfl ?_
      exact mw_iret dX6_together_29 rfl rfl
    · refine mw_iload_n (n := 14) (q := 2) dX6_together_13 rfl rfl rfl ?_
      refine mw_aload_n (n := 15) (q := 0) dX6_together_14 rfl rfl rfl ?_
      refine mw_iload_n (n := 16) (q := 1) dX6_together_15 rfl rfl rfl ?_
      refine mw_iload_n (n := 17) (q := 3) dX6_together_16 rfl rfl rfl ?_
      refine mw_callV (n := 20) (a := r0) (As := [.int v1, .int v3]) cl6 hr0 (t_X6_totalOf hg r0 v1 v3 hr0 h) (by decide) ok_X6_totalOf rfl rfl lk_X6_48 im_X6_totalOf se_X6_totalOf dX6_together_17 rfl rfl (Nat.le_of_ble_eq_true rfl) (fun q3 _ => ?_)
      show mw g l _ _ _ 20 _ [.int q3, .int v2] h _
      refine mw_iadd (n := 21) dX6_together_20 rfl ?_
      refine mw_letI (fun u4 => ?_)
      refine mw_istore_n (n := 22) dX6_together_21 rfl rfl (by decide) rfl ?_
      refine mw_iinc (n := 25) (q := 3) (v := (v3 + (1 : Int32))) dX6_together_22 rfl rfl rfl (by decide) rfl ?_
      refine mw_goto (n := 4) dX6_together_25 (by decide) ?_
      refine mw_sub [2, 3, 1, 0] rfl ?_
      exact hself4 u4 (v3 + (1 : Int32))
noncomputable def x_X6_together (N : Nat) (t : Nat) (p0 : Int32) (h : mH) : Option (Int32) :=
  x_X6_together_4 N t p0 h N (0 : Int32) (0 : Int32)
set_option maxRecDepth 20000 in
set_option maxHeartbeats 4000000 in
theorem t_X6_together {g : mG} {l : Launch} (hg : mOK g) (N : Nat) (t : Nat) (p0 : Int32) (ht : mkn g t 6) (h : mH) : mf g l 1 mX6_together (fun r : Int32 => (some (Value.int r), h)) [.ref (mad g t), .int p0] h (x_X6_together N t p0 h) := by
  refine mf_of (by decide) (Nat.le_of_ble_eq_true rfl) ?_
  show mw g l 1 mX6_together (fun r : Int32 => (some (Value.int r), h)) 0 [(0, .ref (mad g t)), (1, .int p0)] [] h _
  unfold x_X6_together
  refine mw_iconst (n := 1) (v := 0) dX6_together_0 rfl (by decide) ?_
  refine mw_istore_n (n := 2) dX6_together_1 rfl rfl (by decide) rfl ?_
  refine mw_iconst (n := 3) (v := 0) dX6_together_2 rfl (by decide) ?_
  refine mw_istore_n (n := 4) dX6_together_3 rfl rfl (by decide) rfl ?_
  refine mw_sub [2, 3, 1, 0] rfl ?_
  exact b_X6_together_4 hg N t p0 h ht N (0 : Int32) (0 : Int32)
noncomputable def x_X6_totalsAsNumber_26 (N : Nat) (self18 : Int64 → Int32 → Option (Int64)) (r0 : Nat) (v3 : Int32) (h : mH) (f : Nat) : Int64 → Int32 → Option (Int64) :=
  Nat.rec (motive := fun _ => Int64 → Int32 → Option (Int64)) (fun _ _ => none) (fun _ self26 => fun v1 v4 => 
    (x_X6_totalCount r0 v3 h).bind fun q1 =>
    if q1 ≤ v4 then
      self18 v1 (v3 + (1 : Int32))
    else
      (x_X6_totalOf r0 v3 v4 h).bind fun q3 =>
      mlet (((8 : Int64) * v1) + (q3).toInt64) fun u4 =>
      self26 u4 (v4 + (1 : Int32))) f
theorem x_X6_totalsAsNumber_26_0 (N : Nat) (self18 : Int64 → Int32 → Option (Int64)) (r0 : Nat) (v3 : Int32) (h : mH) (v1 : Int64) (v4 : Int32) : x_X6_totalsAsNumber_26 N self18 r0 v3 h 0 v1 v4 = none := rfl
theorem x_X6_totalsAsNumber_26_s (N : Nat) (self18 : Int64 → Int32 → Option (Int64)) (r0 : Nat) (v3 : Int32) (h : mH) (f : Nat) (v1 : Int64) (v4 : Int32) : x_X6_totalsAsNumber_26 N self18 r0 v3 h (f + 1) v1 v4 = (
    (x_X6_totalCount r0 v3 h).bind fun q1 =>
    if q1 ≤ v4 then
      self18 v1 (v3 + (1 : Int32))
    else
      (x_X6_totalOf r0 v3 v4 h).bind fun q3 =>
      mlet (((8 : Int64) * v1) + (q3).toInt64) fun u4 =>
      (x_X6_totalsAsNumber_26 N self18 r0 v3 h f) u4 (v4 + (1 : Int32))) := rfl
set_option maxRecDepth 20000 in
set_option maxHeartbeats 4000000 in
theorem b_X6_totalsAsNumber_26 {g : mG} {l : Launch} (hg : mOK g) (N : Nat) (r0 : Nat) (v3 : Int32) (h : mH) (self18 : Int64 → Int32 → Option (Int64)) (hself18 : ∀ (v1 : Int64) (v3 : Int32), mw g l 1 mX6_totalsAsNumber (fun r : Int64 => (some (Value.long r), h)) 18 [(0, .ref (mad g r0)), (1, .long v1), (3, .int v3)] [] h (self18 v1 v3)) (hr0 : mkn g r0 6) (f : Nat) : ∀ (v1 : Int64) (v4 : Int32), mw g l 1 mX6_totalsAsNumber (fun r : Int64 => (some (Value.long r), h)) 26 [(0, .ref (mad g r0)), (1, .long v1), (3, .int v3), (4, .int v4)] [] h (x_X6_totalsAsNumber_26 N self18 r0 v3 h f v1 v4) := by
  induction f with
  | zero => intros; exact mw_none
  | succ f hself26 =>
    intro v1 v4
    refine mw_eq (x_X6_totalsAsNumber_26_s N self18 r0 v3 h f v1 v4) ?_
    generalize x_X6_totalsAsNumber_26 N self18 r0 v3 h f = self26 at hself26 ⊢
    refine mw_iload (n := 28) (q := 3) dX6_totalsAsNumber_26 rfl rfl ?_
    refine mw_aload_n (n := 29) (q := 0) dX6_totalsAsNumber_28 rfl rfl rfl ?_
    refine mw_iload_n (n := 30) (q := 2) dX6_totalsAsNumber_29 rfl rfl rfl ?_
    refine mw_callV (n := 33) (a := r0) (As := [.int v3]) cl6 hr0 (t_X6_totalCount hg r0 v3 hr0 h) (by decide) ok_X6_totalCount rfl rfl lk_X6_44 im_X6_totalCount se_X6_totalCount dX6_totalsAsNumber_30 rfl rfl (Nat.le_of_ble_eq_true rfl) (fun q1 _ => ?_)
    show mw g l _ _ _ 33 _ [.int q1, .int v4] h _
    refine mw_icmp_ge (n := 36) (t := 57) dX6_totalsAsNumber_33 rfl (by decide) Iff.rfl (fun c2 => ?_) (fun c2 => ?_)
    · refine mw_iinc (n := 60) (q := 2) (v := (v3 + (1 : Int32))) dX6_totalsAsNumber_57 rfl rfl rfl (by decide) rfl ?_
      refine mw_goto (n := 18) dX6_totalsAsNumber_60 (by decide) ?_
      refine mw_sub [1, 2, 0] rfl ?_
      exact hself18 v1 (v3 + (1 : Int32))
    · refine mw_ldc2 (n := 39) dX6_totalsAsNumber_36 rfl kl_X6_52 ?_
      refine mw_lload_n (n := 40) (q := 1) dX6_totalsAsNumber_39 rfl rfl rfl ?_
      refine mw_lmul (n := 41) dX6_totalsAsNumber_40 rfl ?_
      refine mw_aload_n (n := 42) (q := 0) dX6_totalsAsNumber_41 rfl rfl rfl ?_
      refine mw_iload_n (n := 43) (q := 2) dX6_totalsAsNumber_42 rfl rfl rfl ?_
      refine mw_iload (n := 45) (q := 3) dX6_totalsAsNumber_43 rfl rfl ?_
      refine mw_callV (n := 48) (a := r0) (As := [.int v3, .int v4]) cl6 hr0 (t_X6_totalOf hg r0 v3 v4 hr0 h) (by decide) ok_X6_totalOf rfl rfl lk_X6_48 im_X6_totalOf se_X6_totalOf dX6_totalsAsNumber_45 rfl rfl (Nat.le_of_ble_eq_true rfl) (fun q3 _ => ?_)
      show mw g l _ _ _ 48 _ [.int q3, .long ((8 : Int64) * v1)] h _
      refine mw_i2l (n := 49) dX6_totalsAsNumber_48 rfl ?_
      refine mw_ladd (n := 50) dX6_totalsAsNumber_49 rfl ?_
      refine mw_letJ (fun u4 => ?_)
      refine mw_lstore_n (n := 51) dX6_totalsAsNumber_50 rfl rfl (by decide) rfl ?_
      refine mw_iinc (n := 54) (q := 3) (v := (v4 + (1 : Int32))) dX6_totalsAsNumber_51 rfl rfl rfl (by decide) rfl ?_
      refine mw_goto (n := 26) dX6_totalsAsNumber_54 (by decide) ?_
      refine mw_sub [2, 1, 3, 0] rfl ?_
      exact hself26 u4 (v4 + (1 : Int32))
noncomputable def x_X6_totalsAsNumber_18 (N : Nat) (r0 : Nat) (h : mH) (f : Nat) : Int64 → Int32 → Option (Int64) :=
  Nat.rec (motive := fun _ => Int64 → Int32 → Option (Int64)) (fun _ _ => none) (fun _ self18 => fun v1 v3 => 
    if (1 : Int32) < v3 then
      some v1
    else
      x_X6_totalsAsNumber_26 N self18 r0 v3 h N v1 (0 : Int32)) f
theorem x_X6_totalsAsNumber_18_0 (N : Nat) (r0 : Nat) (h : mH) (v1 : Int64) (v3 : Int32) : x_X6_totalsAsNumber_18 N r0 h 0 v1 v3 = none := rfl
theorem x_X6_totalsAsNumber_18_s (N : Nat) (r0 : Nat) (h : mH) (f : Nat) (v1 : Int64) (v3 : Int32) : x_X6_totalsAsNumber_18 N r0 h (f + 1) v1 v3 = (
    if (1 : Int32) < v3 then
      some v1
    else
      x_X6_totalsAsNumber_26 N (x_X6_totalsAsNumber_18 N r0 h f) r0 v3 h N v1 (0 : Int32)) := rfl
set_option maxRecDepth 20000 in
set_option maxHeartbeats 4000000 in
theorem b_X6_totalsAsNumber_18 {g : mG} {l : Launch} (hg : mOK g) (N : Nat) (r0 : Nat) (h : mH) (hr0 : mkn g r0 6) (f : Nat) : ∀ (v1 : Int64) (v3 : Int32), mw g l 1 mX6_totalsAsNumber (fun r : Int64 => (some (Value.long r), h)) 18 [(0, .ref (mad g r0)), (1, .long v1), (3, .int v3)] [] h (x_X6_totalsAsNumber_18 N r0 h f v1 v3) := by
  induction f with
  | zero => intros; exact mw_none
  | succ f hself18 =>
    intro v1 v3
    refine mw_eq (x_X6_totalsAsNumber_18_s N r0 h f v1 v3) ?_
    generalize x_X6_totalsAsNumber_18 N r0 h f = self18 at hself18 ⊢
    refine mw_iload_n (n := 19) (q := 2) dX6_totalsAsNumber_18 rfl rfl rfl ?_
    refine mw_iconst (n := 20) (v := 1) dX6_totalsAsNumber_19 rfl (by decide) ?_
    refine mw_icmp_gt (n := 23) (t := 63) dX6_totalsAsNumber_20 rfl (by decide) Iff.rfl (fun c1 => ?_) (fun c1 => ?_)
    · refine mw_lload_n (n := 64) (q := 1) dX6_totalsAsNumber_63 rfl rfl rfl ?_
      exact mw_lret dX6_totalsAsNumber_64 rfl rfl
    · refine mw_iconst (n := 24) (v := 0) dX6_totalsAsNumber_23 rfl (by decide) ?_
      refine mw_istore (n := 26) dX6_totalsAsNumber_24 rfl (by decide) rfl ?_
      refine mw_sub [1, 2, 3, 0] rfl ?_
      exact b_X6_totalsAsNumber_26 hg N r0 v3 h self18 hself18 hr0 N v1 (0 : Int32)
noncomputable def x_X6_totalsAsNumber (N : Nat) (t : Nat) (h : mH) : Option (Int64) :=
  mlet (((8 : Int64) * ((mgi h t 0)).toInt64) + ((mgi h t 1)).toInt64) fun u1 =>
  x_X6_totalsAsNumber_18 N t h N u1 (0 : Int32)
set_option maxRecDepth 20000 in
set_option maxHeartbeats 4000000 in
theorem t_X6_totalsAsNumber {g : mG} {l : Launch} (hg : mOK g) (N : Nat) (t : Nat) (ht : mkn g t 6) (h : mH) : mf g l 1 mX6_totalsAsNumber (fun r : Int64 => (some (Value.long r), h)) [.ref (mad g t)] h (x_X6_totalsAsNumber N t h) := by
  refine mf_of (by decide) (Nat.le_of_ble_eq_true rfl) ?_
  show mw g l 1 mX6_totalsAsNumber (fun r : Int64 => (some (Value.long r), h)) 0 [(0, .ref (mad g t))] [] h _
  unfold x_X6_totalsAsNumber
  refine mw_ldc2 (n := 3) dX6_totalsAsNumber_0 rfl kl_X6_52 ?_
  refine mw_aload_n (n := 4) (q := 0) dX6_totalsAsNumber_3 rfl rfl rfl ?_
  refine mw_geti (n := 7) (a := t) (k := 0) cl6 ht (by decide) rfl rfl fl_X6_9 dX6_totalsAsNumber_4 rfl ?_
  refine mw_i2l (n := 8) dX6_totalsAsNumber_7 rfl ?_
  refine mw_lmul (n := 9) dX6_totalsAsNumber_8 rfl ?_
  refine mw_aload_n (n := 10) (q := 0) dX6_totalsAsNumber_9 rfl rfl rfl ?_
  refine mw_geti (n := 13) (a := t) (k := 1) cl6 ht (by decide) rfl rfl fl_X6_15 dX6_totalsAsNumber_10 rfl ?_
  refine mw_i2l (n := 14) dX6_totalsAsNumber_13 rfl ?_
  refine mw_ladd (n := 15) dX6_totalsAsNumber_14 rfl ?_
  refine mw_letJ (fun u1 => ?_)
  refine mw_lstore_n (n := 16) dX6_totalsAsNumber_15 rfl rfl (by decide) rfl ?_
  refine mw_iconst (n := 17) (v := 0) dX6_totalsAsNumber_16 rfl (by decide) ?_
  refine mw_istore_n (n := 18) dX6_totalsAsNumber_17 rfl rfl (by decide) rfl ?_
  refine mw_sub [2, 1, 0] rfl ?_
  exact b_X6_totalsAsNumber_18 hg N t h ht N u1 (0 : Int32)
noncomputable def x_X6_pinOf (t : Nat) (p0 : Int32) (h : mH) : Option (Int32) :=
  (x_X8_bitOf p0).bind fun q1 =>
  if ¬ ((mgi h t 4) &&& q1) = 0 then
    (x_X8_bitOf p0).bind fun q3 =>
    some (if ((mgi h t 5) &&& q3) = 0 then (2 : Int32) else (1 : Int32))
  else
    some (0 : Int32)
set_option maxRecDepth 20000 in
set_option maxHeartbeats 4000000 in
theorem t_X6_pinOf {g : mG} {l : Launch} (hg : mOK g) (t : Nat) (p0 : Int32) (ht : mkn g t 6) (h : mH) : mf g l 1 mX6_pinOf (fun r : Int32 => (some (Value.int r), h)) [.ref (mad g t), .int p0] h (x_X6_pinOf t p0 h) := by
  refine mf_of (by decide) (Nat.le_of_ble_eq_true rfl) ?_
  show mw g l 1 mX6_pinOf (fun r : Int32 => (some (Value.int r), h)) 0 [(0, .ref (mad g t)), (1, .int p0)] [] h _
  unfold x_X6_pinOf
  refine mw_aload_n (n := 1) (q := 0) dX6_pinOf_0 rfl rfl rfl ?_
  refine mw_geti (n := 4) (a := t) (k := 4) cl6 ht (by decide) rfl rfl fl_X6_31 dX6_pinOf_1 rfl ?_
  refine mw_iload_n (n := 5) (q := 1) dX6_pinOf_4 rfl rfl rfl ?_
  refine mw_callN (n := 8) (As := [.int p0]) (t_X8_bitOf hg p0 h) (by decide) ok_X8_bitOf rfl ln_X6_54 sm_X8_bitOf dX6_pinOf_5 rfl rfl (Nat.le_of_ble_eq_true rfl) (fun q1 _ => ?_)
  show mw g l _ _ _ 8 _ [.int q1, .int (mgi h t 4)] h _
  refine mw_iand (n := 9) dX6_pinOf_8 rfl ?_
  refine mw_if_ne (n := 12) (t := 14) dX6_pinOf_9 rfl (by decide) Iff.rfl (fun c2 => ?_) (fun c2 => ?_)
  · refine mw_aload_n (n := 15) (q := 0) dX6_pinOf_14 rfl rfl rfl ?_
    refine mw_geti (n := 18) (a := t) (k := 5) cl6 ht (by decide) rfl rfl fl_X6_34 dX6_pinOf_15 rfl ?_
    refine mw_iload_n (n := 19) (q := 1) dX6_pinOf_18 rfl rfl rfl ?_
    refine mw_callN (n := 22) (As := [.int p0]) (t_X8_bitOf hg p0 h) (by decide) ok_X8_bitOf rfl ln_X6_54 sm_X8_bitOf dX6_pinOf_19 rfl rfl (Nat.le_of_ble_eq_true rfl) (fun q3 _ => ?_)
    show mw g l _ _ _ 22 _ [.int q3, .int (mgi h t 5)] h _
    refine mw_iand (n := 23) dX6_pinOf_22 rfl ?_
    refine mw_cutJ (pc' := 31) (lv' := [(0, .ref (mad g t)), (1, .int p0)]) (st' := [.int (if ((mgi h t 5) &&& q3) = 0 then (2 : Int32) else (1 : Int32))]) (fun J => ?_) ?_
    · refine mw_if_eq_m (n := 26) (t := 30) dX6_pinOf_23 rfl (by decide) (fun c4 => ?_) (fun c4 => ?_)
      · refine mw_iconst (n := 31) (v := 2) dX6_pinOf_30 rfl (by decide) ?_
        exact mw_topeq (if_pos c4).symm J
      · refine mw_iconst (n := 27) (v := 1) dX6_pinOf_26 rfl (by decide) ?_
        refine mw_goto (n := 31) dX6_pinOf_27 (by decide) ?_
        exact mw_topeq (if_neg c4).symm J
    exact mw_iret dX6_pinOf_31 rfl rfl
  · refine mw_iconst (n := 13) (v := 0) dX6_pinOf_12 rfl (by decide) ?_
    exact mw_iret dX6_pinOf_13 rfl rfl
noncomputable def x_X6_putPin (t : Nat) (p0 : Int32) (p1 : Int32) (h : mH) : Option (mH) :=
  (x_X8_bitOf p0).bind fun q1 =>
  mlet (msi h t 4 (if ¬ p1 = 0 then ((mgi h t 4) ||| q1) else ((mgi h t 4) &&& (q1 ^^^ (-1 : Int32))))) fun h3 =>
  mlet (msi h3 t 5 (if ¬ p1 = (1 : Int32) then ((mgi h3 t 5) &&& (q1 ^^^ (-1 : Int32))) else ((mgi h3 t 5) ||| q1))) fun h5 =>
  some h5
set_option maxRecDepth 20000 in
set_option maxHeartbeats 4000000 in
theorem t_X6_putPin {g : mG} {l : Launch} (hg : mOK g) (t : Nat) (p0 : Int32) (p1 : Int32) (ht : mkn g t 6) (h : mH) : mf g l 1 mX6_putPin (fun r : mH => ((none : Option Value), r)) [.ref (mad g t), .int p0, .int p1] h (x_X6_putPin t p0 p1 h) := by
  refine mf_of (by decide) (Nat.le_of_ble_eq_true rfl) ?_
  show mw g l 1 mX6_putPin (fun r : mH => ((none : Option Value), r)) 0 [(0, .ref (mad g t)), (1, .int p0), (2, .int p1)] [] h _
  unfold x_X6_putPin
  refine mw_iload_n (n := 1) (q := 1) dX6_putPin_0 rfl rfl rfl ?_
  refine mw_callN (n := 4) (As := [.int p0]) (t_X8_bitOf hg p0 h) (by decide) ok_X8_bitOf rfl ln_X6_54 sm_X8_bitOf dX6_putPin_1 rfl rfl (Nat.le_of_ble_eq_true rfl) (fun q1 _ => ?_)
  show mw g l _ _ _ 4 _ [.int q1] h _
  refine mw_istore_n (n := 5) dX6_putPin_4 rfl rfl (by decide) rfl ?_
  refine mw_aload_n (n := 6) (q := 1) dX6_putPin_5 rfl rfl rfl ?_
  refine mw_iload_n (n := 7) (q := 3) dX6_putPin_6 rfl rfl rfl ?_
  refine mw_cutJ (pc' := 27) (lv' := [(3, .int q1), (0, .ref (mad g t)), (1, .int p0), (2, .int p1)]) (st' := [.int (if ¬ p1 = 0 then ((mgi h t 4) ||| q1) else ((mgi h t 4) &&& (q1 ^^^ (-1 : Int32)))), .ref (mad g t)]) (fun J => ?_) ?_
  · refine mw_if_ne_m (n := 10) (t := 21) dX6_putPin_7 rfl (by decide) (fun c2 => ?_) (fun c2 => ?_)
    · refine mw_aload_n (n := 22) (q := 1) dX6_putPin_21 rfl rfl rfl ?_
      refine mw_geti (n := 25) (a := t) (k := 4) cl6 ht (by decide) rfl rfl fl_X6_31 dX6_putPin_22 rfl ?_
      refine mw_iload_n (n := 26) (q := 0) dX6_putPin_25 rfl rfl rfl ?_
      refine mw_ior (n := 27) dX6_putPin_26 rfl ?_
      exact mw_topeq (if_pos c2).symm J
    · refine mw_aload_n (n := 11) (q := 1) dX6_putPin_10 rfl rfl rfl ?_
      refine mw_geti (n := 14) (a := t) (k := 4) cl6 ht (by decide) rfl rfl fl_X6_31 dX6_putPin_11 rfl ?_
      refine mw_iload_n (n := 15) (q := 0) dX6_putPin_14 rfl rfl rfl ?_
      refine mw_iconst (n := 16) (v := -1) dX6_putPin_15 rfl (by decide) ?_
      refine mw_ixor (n := 17) dX6_putPin_16 rfl ?_
      refine mw_iand (n := 18) dX6_putPin_17 rfl ?_
      refine mw_goto (n := 27) dX6_putPin_18 (by decide) ?_
      exact mw_topeq (if_neg c2).symm J
  refine mw_puti (n := 30) (a := t) (k := 4) cl6 ct6 ht (by decide) rfl rfl rfl rfl fl_X6_31 dX6_putPin_27 rfl (mw_leth (fun h3 => ?_))
  refine mw_aload_n (n := 31) (q := 1) dX6_putPin_30 rfl rfl rfl ?_
  refine mw_iload_n (n := 32) (q := 3) dX6_putPin_31 rfl rfl rfl ?_
  refine mw_iconst (n := 33) (v := 1) dX6_putPin_32 rfl (by decide) ?_
  refine mw_cutJ (pc' := 53) (lv' := [(3, .int q1), (0, .ref (mad g t)), (1, .int p0), (2, .int p1)]) (st' := [.int (if ¬ p1 = (1 : Int32) then ((mgi h3 t 5) &&& (q1 ^^^ (-1 : Int32))) else ((mgi h3 t 5) ||| q1)), .ref (mad g t)]) (fun J => ?_) ?_
  · refine mw_icmp_ne_m (n := 36) (t := 45) dX6_putPin_33 rfl (by decide) (fun c4 => ?_) (fun c4 => ?_)
    · refine mw_aload_n (n := 46) (q := 1) dX6_putPin_45 rfl rfl rfl ?_
      refine mw_geti (n := 49) (a := t) (k := 5) cl6 ht (by decide) rfl rfl fl_X6_34 dX6_putPin_46 rfl ?_
      refine mw_iload_n (n := 50) (q := 0) dX6_putPin_49 rfl rfl rfl ?_
      refine mw_iconst (n := 51) (v := -1) dX6_putPin_50 rfl (by decide) ?_
      refine mw_ixor (n := 52) dX6_putPin_51 rfl ?_
      refine mw_iand (n := 53) dX6_putPin_52 rfl ?_
      exact mw_topeq (if_pos c4).symm J
    · refine mw_aload_n (n := 37) (q := 1) dX6_putPin_36 rfl rfl rfl ?_
      refine mw_geti (n := 40) (a := t) (k := 5) cl6 ht (by decide) rfl rfl fl_X6_34 dX6_putPin_37 rfl ?_
      refine mw_iload_n (n := 41) (q := 0) dX6_putPin_40 rfl rfl rfl ?_
      refine mw_ior (n := 42) dX6_putPin_41 rfl ?_
      refine mw_goto (n := 53) dX6_putPin_42 (by decide) ?_
      exact mw_topeq (if_neg c4).symm J
  refine mw_puti (n := 56) (a := t) (k := 5) cl6 ct6 ht (by decide) rfl rfl rfl rfl fl_X6_34 dX6_putPin_53 rfl (mw_leth (fun h5 => ?_))
  exact mw_vret dX6_putPin_56 rfl rfl
noncomputable def x_X6_pinCount (t : Nat) (h : mH) : Option (Int32) :=
  (x_J6_bitCount_0f7a4 (mgi h t 4)).bind fun q1 =>
  some q1
set_option maxRecDepth 20000 in
set_option maxHeartbeats 4000000 in
theorem t_X6_pinCount {g : mG} {l : Launch} (hg : mOK g) (t : Nat) (ht : mkn g t 6) (h : mH) : mf g l 1 mX6_pinCount (fun r : Int32 => (some (Value.int r), h)) [.ref (mad g t)] h (x_X6_pinCount t h) := by
  refine mf_of (by decide) (Nat.le_of_ble_eq_true rfl) ?_
  show mw g l 1 mX6_pinCount (fun r : Int32 => (some (Value.int r), h)) 0 [(0, .ref (mad g t))] [] h _
  unfold x_X6_pinCount
  refine mw_aload_n (n := 1) (q := 0) dX6_pinCount_0 rfl rfl rfl ?_
  refine mw_geti (n := 4) (a := t) (k := 4) cl6 ht (by decide) rfl rfl fl_X6_31 dX6_pinCount_1 rfl ?_
  refine mw_callS (n := 7) (As := [.int (mgi h t 4)]) (t_J6_bitCount_0f7a4 (mgi h t 4) h) (by decide) ok_J6_bitCount_0f7a4 rfl lk_X6_57 sm_J6_bitCount_0f7a4 dX6_pinCount_4 rfl rfl (Nat.le_of_ble_eq_true rfl) (fun q1 _ => ?_)
  show mw g l _ _ _ 7 _ [.int q1] h _
  exact mw_iret dX6_pinCount_7 rfl rfl
noncomputable def x_X6_bitAt (t : Nat) (p0 : Int32) (p1 : Int32) (h : mH) : Option (Int32) :=
  (x_X8_bitOf (((mgi h t 1) * p0) + p1)).bind fun q1 =>
  some q1
set_option maxRecDepth 20000 in
set_option maxHeartbeats 4000000 in
theorem t_X6_bitAt {g : mG} {l : Launch} (hg : mOK g) (t : Nat) (p0 : Int32) (p1 : Int32) (ht : mkn g t 6) (h : mH) : mf g l 1 mX6_bitAt (fun r : Int32 => (some (Value.int r), h)) [.ref (mad g t), .int p0, .int p1] h (x_X6_bitAt t p0 p1 h) := by
  refine mf_of (by decide) (Nat.le_of_ble_eq_true rfl) ?_
  show mw g l 1 mX6_bitAt (fun r : Int32 => (some (Value.int r), h)) 0 [(0, .ref (mad g t)), (1, .int p0), (2, .int p1)] [] h _
  unfold x_X6_bitAt
  refine mw_aload_n (n := 1) (q := 0) dX6_bitAt_0 rfl rfl rfl ?_
  refine mw_geti (n := 4) (a := t) (k := 1) cl6 ht (by decide) rfl rfl fl_X6_15 dX6_bitAt_1 rfl ?_
  refine mw_iload_n (n := 5) (q := 1) dX6_bitAt_4 rfl rfl rfl ?_
  refine mw_imul (n := 6) dX6_bitAt_5 rfl ?_
  refine mw_iload_n (n := 7) (q := 2) dX6_bitAt_6 rfl rfl rfl ?_
  refine mw_iadd (n := 8) dX6_bitAt_7 rfl ?_
  refine mw_callN (n := 11) (As := [.int (((mgi h t 1) * p0) + p1)]) (t_X8_bitOf hg (((mgi h t 1) * p0) + p1) h) (by decide) ok_X8_bitOf rfl ln_X6_54 sm_X8_bitOf dX6_bitAt_8 rfl rfl (Nat.le_of_ble_eq_true rfl) (fun q1 _ => ?_)
  show mw g l _ _ _ 11 _ [.int q1] h _
  exact mw_iret dX6_bitAt_11 rfl rfl
noncomputable def x_X6_placed (t : Nat) (p0 : Int32) (p1 : Int32) (h : mH) : Option (Int32) :=
  some (p0 <<< (((15 : Int32) - ((mgi h t 1) * p1)) &&& 31))
set_option maxRecDepth 20000 in
set_option maxHeartbeats 4000000 in
theorem t_X6_placed {g : mG} {l : Launch} (hg : mOK g) (t : Nat) (p0 : Int32) (p1 : Int32) (ht : mkn g t 6) (h : mH) : mf g l 0 mX6_placed (fun r : Int32 => (some (Value.int r), h)) [.ref (mad g t), .int p0, .int p1] h (x_X6_placed t p0 p1 h) := by
  refine mf_of (by decide) (Nat.le_of_ble_eq_true rfl) ?_
  show mw g l 0 mX6_placed (fun r : Int32 => (some (Value.int r), h)) 0 [(0, .ref (mad g t)), (1, .int p0), (2, .int p1)] [] h _
  unfold x_X6_placed
  refine mw_iload_n (n := 1) (q := 1) dX6_placed_0 rfl rfl rfl ?_
  refine mw_bipush (n := 3) (v := 15) dX6_placed_1 rfl (by decide) ?_
  refine mw_aload_n (n := 4) (q := 0) dX6_placed_3 rfl rfl rfl ?_
  refine mw_geti (n := 7) (a := t) (k := 1) cl6 ht (by decide) rfl rfl fl_X6_15 dX6_placed_4 rfl ?_
  refine mw_iload_n (n := 8) (q := 2) dX6_placed_7 rfl rfl rfl ?_
  refine mw_imul (n := 9) dX6_placed_8 rfl ?_
  refine mw_isub (n := 10) dX6_placed_9 rfl ?_
  refine mw_ishl (n := 11) dX6_placed_10 rfl ?_
  exact mw_iret dX6_placed_11 rfl rfl
noncomputable def x_X6_columnsOf (t : Nat) (p0 : Int32) (p1 : Int32) (h : mH) : Option (Int32) :=
  mlet (xushr p0 ((15 : Int32) - ((mgi h t 1) * p1))) fun u1 =>
  mlet ((-1 : Int32) <<< (((5 : Int32) - (mgi h t 1)) &&& 31)) fun u2 =>
  some ((u1 &&& u2) &&& (31 : Int32))
set_option maxRecDepth 20000 in
set_option maxHeartbeats 4000000 in
theorem t_X6_columnsOf {g : mG} {l : Launch} (hg : mOK g) (t : Nat) (p0 : Int32) (p1 : Int32) (ht : mkn g t 6) (h : mH) : mf g l 0 mX6_columnsOf (fun r : Int32 => (some (Value.int r), h)) [.ref (mad g t), .int p0, .int p1] h (x_X6_columnsOf t p0 p1 h) := by
  refine mf_of (by decide) (Nat.le_of_ble_eq_true rfl) ?_
  show mw g l 0 mX6_columnsOf (fun r : Int32 => (some (Value.int r), h)) 0 [(0, .ref (mad g t)), (1, .int p0), (2, .int p1)] [] h _
  unfold x_X6_columnsOf
  refine mw_iload_n (n := 1) (q := 1) dX6_columnsOf_0 rfl rfl rfl ?_
  refine mw_bipush (n := 3) (v := 15) dX6_columnsOf_1 rfl (by decide) ?_
  refine mw_aload_n (n := 4) (q := 0) dX6_columnsOf_3 rfl rfl rfl ?_
  refine mw_geti (n := 7) (a := t) (k := 1) cl6 ht (by decide) rfl rfl fl_X6_15 dX6_columnsOf_4 rfl ?_
  refine mw_iload_n (n := 8) (q := 2) dX6_columnsOf_7 rfl rfl rfl ?_
  refine mw_imul (n := 9) dX6_columnsOf_8 rfl ?_
  refine mw_isub (n := 10) dX6_columnsOf_9 rfl ?_
  refine mw_iushr (n := 11) dX6_columnsOf_10 rfl ?_
  refine mw_letI (fun u1 => ?_)
  refine mw_istore_n (n := 12) dX6_columnsOf_11 rfl rfl (by decide) rfl ?_
  refine mw_iconst (n := 13) (v := -1) dX6_columnsOf_12 rfl (by decide) ?_
  refine mw_iconst (n := 14) (v := 5) dX6_columnsOf_13 rfl (by decide) ?_
  refine mw_aload_n (n := 15) (q := 1) dX6_columnsOf_14 rfl rfl rfl ?_
  refine mw_geti (n := 18) (a := t) (k := 1) cl6 ht (by decide) rfl rfl fl_X6_15 dX6_columnsOf_15 rfl ?_
  refine mw_isub (n := 19) dX6_columnsOf_18 rfl ?_
  refine mw_ishl (n := 20) dX6_columnsOf_19 rfl ?_
  refine mw_letI (fun u2 => ?_)
  refine mw_istore (n := 22) dX6_columnsOf_20 rfl (by decide) rfl ?_
  refine mw_iload_n (n := 23) (q := 1) dX6_columnsOf_22 rfl rfl rfl ?_
  refine mw_iload (n := 25) (q := 0) dX6_columnsOf_23 rfl rfl ?_
  refine mw_iand (n := 26) dX6_columnsOf_25 rfl ?_
  refine mw_bipush (n := 28) (v := 31) dX6_columnsOf_26 rfl (by decide) ?_
  refine mw_iand (n := 29) dX6_columnsOf_28 rfl ?_
  exact mw_iret dX6_columnsOf_29 rfl rfl
noncomputable def x_X6_giving (t : Nat) (p0 : Int32) (p1 : Int32) (p2 : Int32) (h : mH) : Option (Int32) :=
  (x_X6_columnsOf t (mgi h t 4) p1 h).bind fun q1 =>
  (x_X6_columnsOf t (mgi h t 4) p2 h).bind fun q2 =>
  mlet (q1 ||| q2) fun u3 =>
  (x_X6_columnsOf t p0 p1 h).bind fun q4 =>
  (x_X6_columnsOf t p0 p2 h).bind fun q5 =>
  some ((q4 &&& (q5 ^^^ (-1 : Int32))) &&& (u3 ^^^ (-1 : Int32)))
set_option maxRecDepth 20000 in
set_option maxHeartbeats 4000000 in
theorem t_X6_giving {g : mG} {l : Launch} (hg : mOK g) (t : Nat) (p0 : Int32) (p1 : Int32) (p2 : Int32) (ht : mkn g t 6) (h : mH) : mf g l 1 mX6_giving (fun r : Int32 => (some (Value.int r), h)) [.ref (mad g t), .int p0, .int p1, .int p2] h (x_X6_giving t p0 p1 p2 h) := by
  refine mf_of (by decide) (Nat.le_of_ble_eq_true rfl) ?_
  show mw g l 1 mX6_giving (fun r : Int32 => (some (Value.int r), h)) 0 [(0, .ref (mad g t)), (1, .int p0), (2, .int p1), (3, .int p2)] [] h _
  unfold x_X6_giving
  refine mw_aload_n (n := 1) (q := 0) dX6_giving_0 rfl rfl rfl ?_
  refine mw_aload_n (n := 2) (q := 0) dX6_giving_1 rfl rfl rfl ?_
  refine mw_geti (n := 5) (a := t) (k := 4) cl6 ht (by decide) rfl rfl fl_X6_31 dX6_giving_2 rfl ?_
  refine mw_iload_n (n := 6) (q := 2) dX6_giving_5 rfl rfl rfl ?_
  refine mw_callV (n := 9) (a := t) (As := [.int (mgi h t 4), .int p1]) cl6 ht (t_X6_columnsOf hg t (mgi h t 4) p1 ht h) (by decide) ok_X6_columnsOf rfl rfl lk_X6_62 im_X6_columnsOf se_X6_columnsOf dX6_giving_6 rfl rfl (Nat.le_of_ble_eq_true rfl) (fun q1 _ => ?_)
  show mw g l _ _ _ 9 _ [.int q1] h _
  refine mw_aload_n (n := 10) (q := 0) dX6_giving_9 rfl rfl rfl ?_
  refine mw_aload_n (n := 11) (q := 0) dX6_giving_10 rfl rfl rfl ?_
  refine mw_geti (n := 14) (a := t) (k := 4) cl6 ht (by decide) rfl rfl fl_X6_31 dX6_giving_11 rfl ?_
  refine mw_iload_n (n := 15) (q := 3) dX6_giving_14 rfl rfl rfl ?_
  refine mw_callV (n := 18) (a := t) (As := [.int (mgi h t 4), .int p2]) cl6 ht (t_X6_columnsOf hg t (mgi h t 4) p2 ht h) (by decide) ok_X6_columnsOf rfl rfl lk_X6_62 im_X6_columnsOf se_X6_columnsOf dX6_giving_15 rfl rfl (Nat.le_of_ble_eq_true rfl) (fun q2 _ => ?_)
  show mw g l _ _ _ 18 _ [.int q2, .int q1] h _
  refine mw_ior (n := 19) dX6_giving_18 rfl ?_
  refine mw_letI (fun u3 => ?_)
  refine mw_istore (n := 21) dX6_giving_19 rfl (by decide) rfl ?_
  refine mw_aload_n (n := 22) (q := 1) dX6_giving_21 rfl rfl rfl ?_
  refine mw_iload_n (n := 23) (q := 2) dX6_giving_22 rfl rfl rfl ?_
  refine mw_iload_n (n := 24) (q := 3) dX6_giving_23 rfl rfl rfl ?_
  refine mw_callV (n := 27) (a := t) (As := [.int p0, .int p1]) cl6 ht (t_X6_columnsOf hg t p0 p1 ht h) (by decide) ok_X6_columnsOf rfl rfl lk_X6_62 im_X6_columnsOf se_X6_columnsOf dX6_giving_24 rfl rfl (Nat.le_of_ble_eq_true rfl) (fun q4 _ => ?_)
  show mw g l _ _ _ 27 _ [.int q4] h _
  refine mw_aload_n (n := 28) (q := 1) dX6_giving_27 rfl rfl rfl ?_
  refine mw_iload_n (n := 29) (q := 2) dX6_giving_28 rfl rfl rfl ?_
  refine mw_iload_n (n := 30) (q := 4) dX6_giving_29 rfl rfl rfl ?_
  refine mw_callV (n := 33) (a := t) (As := [.int p0, .int p2]) cl6 ht (t_X6_columnsOf hg t p0 p2 ht h) (by decide) ok_X6_columnsOf rfl rfl lk_X6_62 im_X6_columnsOf se_X6_columnsOf dX6_giving_30 rfl rfl (Nat.le_of_ble_eq_true rfl) (fun q5 _ => ?_)
  show mw g l _ _ _ 33 _ [.int q5, .int q4] h _
  refine mw_iconst (n := 34) (v := -1) dX6_giving_33 rfl (by decide) ?_
  refine mw_ixor (n := 35) dX6_giving_34 rfl ?_
  refine mw_iand (n := 36) dX6_giving_35 rfl ?_
  refine mw_iload (n := 38) (q := 0) dX6_giving_36 rfl rfl ?_
  refine mw_iconst (n := 39) (v := -1) dX6_giving_38 rfl (by decide) ?_
  refine mw_ixor (n := 40) dX6_giving_39 rfl ?_
  refine mw_iand (n := 41) dX6_giving_40 rfl ?_
  exact mw_iret dX6_giving_41 rfl rfl
noncomputable def x_X6_isSwitch (t : Nat) (p0 : Int32) (p1 : Int32) (p2 : Int32) (p3 : Int32) (p4 : Int32) (h : mH) : Option (Int32) :=
  (x_X6_giving t p0 p1 p2 h).bind fun q1 =>
  (x_X8_columnBit p3).bind fun q2 =>
  if (q1 &&& q2) = 0 then
    some (0 : Int32)
  else
    (x_X6_giving t p0 p2 p1 h).bind fun q4 =>
    (x_X8_columnBit p4).bind fun q5 =>
    some (if (q4 &&& q5) = 0 then (0 : Int32) else (1 : Int32))
set_option maxRecDepth 20000 in
set_option maxHeartbeats 4000000 in
theorem t_X6_isSwitch {g : mG} {l : Launch} (hg : mOK g) (t : Nat) (p0 : Int32) (p1 : Int32) (p2 : Int32) (p3 : Int32) (p4 : Int32) (ht : mkn g t 6) (h : mH) : mf g l 2 mX6_isSwitch (fun r : Int32 => (some (Value.int r), h)) [.ref (mad g t), .int p0, .int p1, .int p2, .int p3, .int p4] h (x_X6_isSwitch t p0 p1 p2 p3 p4 h) := by
  refine mf_of (by decide) (Nat.le_of_ble_eq_true rfl) ?_
  show mw g l 2 mX6_isSwitch (fun r : Int32 => (some (Value.int r), h)) 0 [(0, .ref (mad g t)), (1, .int p0), (2, .int p1), (3, .int p2), (4, .int p3), (5, .int p4)] [] h _
  unfold x_X6_isSwitch
  refine mw_aload_n (n := 1) (q := 0) dX6_isSwitch_0 rfl rfl rfl ?_
  refine mw_iload_n (n := 2) (q := 1) dX6_isSwitch_1 rfl rfl rfl ?_
  refine mw_iload_n (n := 3) (q := 2) dX6_isSwitch_2 rfl rfl rfl ?_
  refine mw_iload_n (n := 4) (q := 3) dX6_isSwitch_3 rfl rfl rfl ?_
  refine mw_callV (n := 7) (a := t) (As := [.int p0, .int p1, .int p2]) cl6 ht (t_X6_giving hg t p0 p1 p2 ht h) (by decide) ok_X6_giving rfl rfl lk_X6_65 im_X6_giving se_X6_giving dX6_isSwitch_4 rfl rfl (Nat.le_of_ble_eq_true rfl) (fun q1 _ => ?_)
  show mw g l _ _ _ 7 _ [.int q1] h _
  refine mw_iload (n := 9) (q := 4) dX6_isSwitch_7 rfl rfl ?_
  refine mw_callN (n := 12) (As := [.int p3]) (t_X8_columnBit hg p3 h) (by decide) ok_X8_columnBit rfl ln_X6_69 sm_X8_columnBit dX6_isSwitch_9 rfl rfl (Nat.le_of_ble_eq_true rfl) (fun q2 _ => ?_)
  show mw g l _ _ _ 12 _ [.int q2, .int q1] h _
  refine mw_iand (n := 13) dX6_isSwitch_12 rfl ?_
  refine mw_if_eq (n := 16) (t := 36) dX6_isSwitch_13 rfl (by decide) Iff.rfl (fun c3 => ?_) (fun c3 => ?_)
  · refine mw_iconst (n := 37) (v := 0) dX6_isSwitch_36 rfl (by decide) ?_
    exact mw_zret dX6_isSwitch_37 rfl (Or.inl rfl) rfl
  · refine mw_aload_n (n := 17) (q := 0) dX6_isSwitch_16 rfl rfl rfl ?_
    refine mw_iload_n (n := 18) (q := 1) dX6_isSwitch_17 rfl rfl rfl ?_
    refine mw_iload_n (n := 19) (q := 3) dX6_isSwitch_18 rfl rfl rfl ?_
    refine mw_iload_n (n := 20) (q := 2) dX6_isSwitch_19 rfl rfl rfl ?_
    refine mw_callV (n := 23) (a := t) (As := [.int p0, .int p2, .int p1]) cl6 ht (t_X6_giving hg t p0 p2 p1 ht h) (by decide) ok_X6_giving rfl rfl lk_X6_65 im_X6_giving se_X6_giving dX6_isSwitch_20 rfl rfl (Nat.le_of_ble_eq_true rfl) (fun q4 _ => ?_)
    show mw g l _ _ _ 23 _ [.int q4] h _
    refine mw_iload (n := 25) (q := 5) dX6_isSwitch_23 rfl rfl ?_
    refine mw_callN (n := 28) (As := [.int p4]) (t_X8_columnBit hg p4 h) (by decide) ok_X8_columnBit rfl ln_X6_69 sm_X8_columnBit dX6_isSwitch_25 rfl rfl (Nat.le_of_ble_eq_true rfl) (fun q5 _ => ?_)
    show mw g l _ _ _ 28 _ [.int q5, .int q4] h _
    refine mw_iand (n := 29) dX6_isSwitch_28 rfl ?_
    refine mw_cutJ (pc' := 37) (lv' := [(0, .ref (mad g t)), (1, .int p0), (2, .int p1), (3, .int p2), (4, .int p3), (5, .int p4)]) (st' := [.int (if (q4 &&& q5) = 0 then (0 : Int32) else (1 : Int32))]) (fun J => ?_) ?_
    · refine mw_if_eq_m (n := 32) (t := 36) dX6_isSwitch_29 rfl (by decide) (fun c6 => ?_) (fun c6 => ?_)
      · refine mw_iconst (n := 37) (v := 0) dX6_isSwitch_36 rfl (by decide) ?_
        exact mw_topeq (if_pos c6).symm J
      · refine mw_iconst (n := 33) (v := 1) dX6_isSwitch_32 rfl (by decide) ?_
        refine mw_goto (n := 37) dX6_isSwitch_33 (by decide) ?_
        exact mw_topeq (if_neg c6).symm J
    exact mw_zret dX6_isSwitch_37 rfl (mz01 (Or.inl rfl) (Or.inr rfl)) rfl
noncomputable def x_X6_switched (t : Nat) (p0 : Int32) (p1 : Int32) (p2 : Int32) (p3 : Int32) (p4 : Int32) (h : mH) : Option (Int32) :=
  (x_X6_bitAt t p1 p3 h).bind fun q1 =>
  (x_X6_bitAt t p2 p4 h).bind fun q2 =>
  (x_X6_bitAt t p1 p4 h).bind fun q3 =>
  (x_X6_bitAt t p2 p3 h).bind fun q4 =>
  some (p0 ^^^ (((q1 ||| q2) ||| q3) ||| q4))
set_option maxRecDepth 20000 in
set_option maxHeartbeats 4000000 in
theorem t_X6_switched {g : mG} {l : Launch} (hg : mOK g) (t : Nat) (p0 : Int32) (p1 : Int32) (p2 : Int32) (p3 : Int32) (p4 : Int32) (ht : mkn g t 6) (h : mH) : mf g l 2 mX6_switched (fun r : Int32 => (some (Value.int r), h)) [.ref (mad g t), .int p0, .int p1, .int p2, .int p3, .int p4] h (x_X6_switched t p0 p1 p2 p3 p4 h) := by
  refine mf_of (by decide) (Nat.le_of_ble_eq_true rfl) ?_
  show mw g l 2 mX6_switched (fun r : Int32 => (some (Value.int r), h)) 0 [(0, .ref (mad g t)), (1, .int p0), (2, .int p1), (3, .int p2), (4, .int p3), (5, .int p4)] [] h _
  unfold x_X6_switched
  refine mw_iload_n (n := 1) (q := 1) dX6_switched_0 rfl rfl rfl ?_
  refine mw_aload_n (n := 2) (q := 0) dX6_switched_1 rfl rfl rfl ?_
  refine mw_iload_n (n := 3) (q := 2) dX6_switched_2 rfl rfl rfl ?_
  refine mw_iload (n := 5) (q := 4) dX6_switched_3 rfl rfl ?_
  refine mw_callV (n := 8) (a := t) (As := [.int p1, .int p3]) cl6 ht (t_X6_bitAt hg t p1 p3 ht h) (by decide) ok_X6_bitAt rfl rfl lk_X6_72 im_X6_bitAt se_X6_bitAt dX6_switched_5 rfl rfl (Nat.le_of_ble_eq_true rfl) (fun q1 _ => ?_)
  show mw g l _ _ _ 8 _ [.int q1, .int p0] h _
  refine mw_aload_n (n := 9) (q := 0) dX6_switched_8 rfl rfl rfl ?_
  refine mw_iload_n (n := 10) (q := 3) dX6_switched_9 rfl rfl rfl ?_
  refine mw_iload (n := 12) (q := 5) dX6_switched_10 rfl rfl ?_
  refine mw_callV (n := 15) (a := t) (As := [.int p2, .int p4]) cl6 ht (t_X6_bitAt hg t p2 p4 ht h) (by decide) ok_X6_bitAt rfl rfl lk_X6_72 im_X6_bitAt se_X6_bitAt dX6_switched_12 rfl rfl (Nat.le_of_ble_eq_true rfl) (fun q2 _ => ?_)
  show mw g l _ _ _ 15 _ [.int q2, .int q1, .int p0] h _
  refine mw_ior (n := 16) dX6_switched_15 rfl ?_
  refine mw_aload_n (n := 17) (q := 0) dX6_switched_16 rfl rfl rfl ?_
  refine mw_iload_n (n := 18) (q := 2) dX6_switched_17 rfl rfl rfl ?_
  refine mw_iload (n := 20) (q := 5) dX6_switched_18 rfl rfl ?_
  refine mw_callV (n := 23) (a := t) (As := [.int p1, .int p4]) cl6 ht (t_X6_bitAt hg t p1 p4 ht h) (by decide) ok_X6_bitAt rfl rfl lk_X6_72 im_X6_bitAt se_X6_bitAt dX6_switched_20 rfl rfl (Nat.le_of_ble_eq_true rfl) (fun q3 _ => ?_)
  show mw g l _ _ _ 23 _ [.int q3, .int (q1 ||| q2), .int p0] h _
  refine mw_ior (n := 24) dX6_switched_23 rfl ?_
  refine mw_aload_n (n := 25) (q := 0) dX6_switched_24 rfl rfl rfl ?_
  refine mw_iload_n (n := 26) (q := 3) dX6_switched_25 rfl rfl rfl ?_
  refine mw_iload (n := 28) (q := 4) dX6_switched_26 rfl rfl ?_
  refine mw_callV (n := 31) (a := t) (As := [.int p2, .int p3]) cl6 ht (t_X6_bitAt hg t p2 p3 ht h) (by decide) ok_X6_bitAt rfl rfl lk_X6_72 im_X6_bitAt se_X6_bitAt dX6_switched_28 rfl rfl (Nat.le_of_ble_eq_true rfl) (fun q4 _ => ?_)
  show mw g l _ _ _ 31 _ [.int q4, .int ((q1 ||| q2) ||| q3), .int p0] h _
  refine mw_ior (n := 32) dX6_switched_31 rfl ?_
  refine mw_ixor (n := 33) dX6_switched_32 rfl ?_
  exact mw_iret dX6_switched_33 rfl rfl
noncomputable def x_X6_switchCount_26 (N : Nat) (self14 : Int32 → Int32 → Option (Int32)) (r0 : Nat) (v2 : Int32) (h : mH) (f : Nat) : Int32 → Int32 → Option (Int32) :=
  Nat.rec (motive := fun _ => Int32 → Int32 → Option (Int32)) (fun _ _ => none) (fun _ self26 => fun v1 v3 => 
    if (mgi h r0 0) ≤ v3 then
      self14 v1 (v2 + (1 : Int32))
    else
      (x_X6_giving r0 (mgi h r0 6) v2 v3 h).bind fun q2 =>
      (x_J6_bitCount_0f7a4 q2).bind fun q3 =>
      (x_X6_giving r0 (mgi h r0 6) v3 v2 h).bind fun q4 =>
      (x_J6_bitCount_0f7a4 q4).bind fun q5 =>
      mlet (v1 + (q3 * q5)) fun u6 =>
      self26 u6 (v3 + (1 : Int32))) f
theorem x_X6_switchCount_26_0 (N : Nat) (self14 : Int32 → Int32 → Option (Int32)) (r0 : Nat) (v2 : Int32) (h : mH) (v1 : Int32) (v3 : Int32) : x_X6_switchCount_26 N self14 r0 v2 h 0 v1 v3 = none := rfl
theorem x_X6_switchCount_26_s (N : Nat) (self14 : Int32 → Int32 → Option (Int32)) (r0 : Nat) (v2 : Int32) (h : mH) (f : Nat) (v1 : Int32) (v3 : Int32) : x_X6_switchCount_26 N self14 r0 v2 h (f + 1) v1 v3 = (
    if (mgi h r0 0) ≤ v3 then
      self14 v1 (v2 + (1 : Int32))
    else
      (x_X6_giving r0 (mgi h r0 6) v2 v3 h).bind fun q2 =>
      (x_J6_bitCount_0f7a4 q2).bind fun q3 =>
      (x_X6_giving r0 (mgi h r0 6) v3 v2 h).bind fun q4 =>
      (x_J6_bitCount_0f7a4 q4).bind fun q5 =>
      mlet (v1 + (q3 * q5)) fun u6 =>
      (x_X6_switchCount_26 N self14 r0 v2 h f) u6 (v3 + (1 : Int32))) := rfl
set_option maxRecDepth 20000 in
set_option maxHeartbeats 4000000 in
theorem b_X6_switchCount_26 {g : mG} {l : Launch} (hg : mOK g) (N : Nat) (r0 : Nat) (v2 : Int32) (h : mH) (self14 : Int32 → Int32 → Option (Int32)) (hself14 : ∀ (v1 : Int32) (v2 : Int32), mw g l 2 mX6_switchCount (fun r : Int32 => (some (Value.int r), h)) 14 [(0, .ref (mad g r0)), (1, .int v1), (2, .int v2)] [] h (self14 v1 v2)) (hr0 : mkn g r0 6) (f : Nat) : ∀ (v1 : Int32) (v3 : Int32), mw g l 2 mX6_switchCount (fun r : Int32 => (some (Value.int r), h)) 26 [(0, .ref (mad g r0)), (1, .int v1), (2, .int v2), (3, .int v3)] [] h (x_X6_switchCount_26 N self14 r0 v2 h f v1 v3) := by
  induction f with
  | zero => intros; exact mw_none
  | succ f hself26 =>
    intro v1 v3
    refine mw_eq (x_X6_switchCount_26_s N self14 r0 v2 h f v1 v3) ?_
    generalize x_X6_switchCount_26 N self14 r0 v2 h f = self26 at hself26 ⊢
    refine mw_iload_n (n := 27) (q := 3) dX6_switchCount_26 rfl rfl rfl ?_
    refine mw_aload_n (n := 28) (q := 0) dX6_switchCount_27 rfl rfl rfl ?_
    refine mw_geti (n := 31) (a := r0) (k := 0) cl6 hr0 (by decide) rfl rfl fl_X6_9 dX6_switchCount_28 rfl ?_
    refine mw_icmp_ge (n := 34) (t := 70) dX6_switchCount_31 rfl (by decide) Iff.rfl (fun c1 => ?_) (fun c1 => ?_)
    · refine mw_iinc (n := 73) (q := 2) (v := (v2 + (1 : Int32))) dX6_switchCount_70 rfl rfl rfl (by decide) rfl ?_
      refine mw_goto (n := 14) dX6_switchCount_73 (by decide) ?_
      refine mw_sub [1, 2, 0] rfl ?_
      exact hself14 v1 (v2 + (1 : Int32))
    · refine mw_iload_n (n := 35) (q := 1) dX6_switchCount_34 rfl rfl rfl ?_
      refine mw_aload_n (n := 36) (q := 0) dX6_switchCount_35 rfl rfl rfl ?_
      refine mw_aload_n (n := 37) (q := 0) dX6_switchCount_36 rfl rfl rfl ?_
      refine mw_geti (n := 40) (a := r0) (k := 6) cl6 hr0 (by decide) rfl rfl fl_X6_37 dX6_switchCount_37 rfl ?_
      refine mw_iload_n (n := 41) (q := 2) dX6_switchCount_40 rfl rfl rfl ?_
      refine mw_iload_n (n := 42) (q := 3) dX6_switchCount_41 rfl rfl rfl ?_
      refine mw_callV (n := 45) (a := r0) (As := [.int (mgi h r0 6), .int v2, .int v3]) cl6 hr0 (t_X6_giving hg r0 (mgi h r0 6) v2 v3 hr0 h) (by decide) ok_X6_giving rfl rfl lk_X6_65 im_X6_giving se_X6_giving dX6_switchCount_42 rfl rfl (Nat.le_of_ble_eq_true rfl) (fun q2 _ => ?_)
      show mw g l _ _ _ 45 _ [.int q2, .int v1] h _
      refine mw_callS (n := 48) (As := [.int q2]) (t_J6_bitCount_0f7a4 q2 h) (by decide) ok_J6_bitCount_0f7a4 rfl lk_X6_57 sm_J6_bitCount_0f7a4 dX6_switchCount_45 rfl rfl (Nat.le_of_ble_eq_true rfl) (fun q3 _ => ?_)
      show mw g l _ _ _ 48 _ [.int q3, .int v1] h _
      refine mw_aload_n (n := 49) (q := 0) dX6_switchCount_48 rfl rfl rfl ?_
      refine mw_aload_n (n := 50) (q := 0) dX6_switchCount_49 rfl rfl rfl ?_
      refine mw_geti (n := 53) (a := r0) (k := 6) cl6 hr0 (by decide) rfl rfl fl_X6_37 dX6_switchCount_50 rfl ?_
      refine mw_iload_n (n := 54) (q := 3) dX6_switchCount_53 rfl rfl rfl ?_
      refine mw_iload_n (n := 55) (q := 2) dX6_switchCount_54 rfl rfl rfl ?_
      refine mw_callV (n := 58) (a := r0) (As := [.int (mgi h r0 6), .int v3, .int v2]) cl6 hr0 (t_X6_giving hg r0 (mgi h r0 6) v3 v2 hr0 h) (by decide) ok_X6_giving rfl rfl lk_X6_65 im_X6_giving se_X6_giving dX6_switchCount_55 rfl rfl (Nat.le_of_ble_eq_true rfl) (fun q4 _ => ?_)
      show mw g l _ _ _ 58 _ [.int q4, .int q3, .int v1] h _
      refine mw_callS (n := 61) (As := [.int q4]) (t_J6_bitCount_0f7a4 q4 h) (by decide) ok_J6_bitCount_0f7a4 rfl lk_X6_57 sm_J6_bitCount_0f7a4 dX6_switchCount_58 rfl rfl (Nat.le_of_ble_eq_true rfl) (fun q5 _ => ?_)
      show mw g l _ _ _ 61 _ [.int q5, .int q3, .int v1] h _
      refine mw_imul (n := 62) dX6_switchCount_61 rfl ?_
      refine mw_iadd (n := 63) dX6_switchCount_62 rfl ?_
      refine mw_letI (fun u6 => ?_)
      refine mw_istore_n (n := 64) dX6_switchCount_63 rfl rfl (by decide) rfl ?_
      refine mw_iinc (n := 67) (q := 3) (v := (v3 + (1 : Int32))) dX6_switchCount_64 rfl rfl rfl (by decide) rfl ?_
      refine mw_goto (n := 26) dX6_switchCount_67 (by decide) ?_
      refine mw_sub [2, 1, 3, 0] rfl ?_
      exact hself26 u6 (v3 + (1 : Int32))
noncomputable def x_X6_switchCount_14 (N : Nat) (r0 : Nat) (h : mH) (f : Nat) : Int32 → Int32 → Option (Int32) :=
  Nat.rec (motive := fun _ => Int32 → Int32 → Option (Int32)) (fun _ _ => none) (fun _ self14 => fun v1 v2 => 
    if (mgi h r0 0) ≤ v2 then
      some v1
    else
      mlet (v2 + (1 : Int32)) fun u2 =>
      x_X6_switchCount_26 N self14 r0 v2 h N v1 u2) f
theorem x_X6_switchCount_14_0 (N : Nat) (r0 : Nat) (h : mH) (v1 : Int32) (v2 : Int32) : x_X6_switchCount_14 N r0 h 0 v1 v2 = none := rfl
theorem x_X6_switchCount_14_s (N : Nat) (r0 : Nat) (h : mH) (f : Nat) (v1 : Int32) (v2 : Int32) : x_X6_switchCount_14 N r0 h (f + 1) v1 v2 = (
    if (mgi h r0 0) ≤ v2 then
      some v1
    else
      mlet (v2 + (1 : Int32)) fun u2 =>
      x_X6_switchCount_26 N (x_X6_switchCount_14 N r0 h f) r0 v2 h N v1 u2) := rfl
set_option maxRecDepth 20000 in
set_option maxHeartbeats 4000000 in
theorem b_X6_switchCount_14 {g : mG} {l : Launch} (hg : mOK g) (N : Nat) (r0 : Nat) (h : mH) (hr0 : mkn g r0 6) (f : Nat) : ∀ (v1 : Int32) (v2 : Int32), mw g l 2 mX6_switchCount (fun r : Int32 => (some (Value.int r), h)) 14 [(0, .ref (mad g r0)), (1, .int v1), (2, .int v2)] [] h (x_X6_switchCount_14 N r0 h f v1 v2) := by
  induction f with
  | zero => intros; exact mw_none
  | succ f hself14 =>
    intro v1 v2
    refine mw_eq (x_X6_switchCount_14_s N r0 h f v1 v2) ?_
    generalize x_X6_switchCount_14 N r0 h f = self14 at hself14 ⊢
    refine mw_iload_n (n := 15) (q := 2) dX6_switchCount_14 rfl rfl rfl ?_
    refine mw_aload_n (n := 16) (q := 0) dX6_switchCount_15 rfl rfl rfl ?_
    refine mw_geti (n := 19) (a := r0) (k := 0) cl6 hr0 (by decide) rfl rfl fl_X6_9 dX6_switchCount_16 rfl ?_
    refine mw_icmp_ge (n := 22) (t := 76) dX6_switchCount_19 rfl (by decide) Iff.rfl (fun c1 => ?_) (fun c1 => ?_)
    · refine mw_iload_n (n := 77) (q := 1) dX6_switchCount_76 rfl rfl rfl ?_
      exact mw_iret dX6_switchCount_77 rfl rfl
    · refine mw_iload_n (n := 23) (q := 2) dX6_switchCount_22 rfl rfl rfl ?_
      refine mw_iconst (n := 24) (v := 1) dX6_switchCount_23 rfl (by decide) ?_
      refine mw_iadd (n := 25) dX6_switchCount_24 rfl ?_
      refine mw_letI (fun u2 => ?_)
      refine mw_istore_n (n := 26) dX6_switchCount_25 rfl rfl (by decide) rfl ?_
      refine mw_sub [1, 2, 3, 0] rfl ?_
      exact b_X6_switchCount_26 hg N r0 v2 h self14 hself14 hr0 N v1 u2
noncomputable def x_X6_switchCount (N : Nat) (t : Nat) (h : mH) : Option (Int32) :=
  if ¬ (mgi h t 6) = (-1 : Int32) then
    x_X6_switchCount_14 N t h N (0 : Int32) (0 : Int32)
  else
    some (0 : Int32)
set_option maxRecDepth 20000 in
set_option maxHeartbeats 4000000 in
theorem t_X6_switchCount {g : mG} {l : Launch} (hg : mOK g) (N : Nat) (t : Nat) (ht : mkn g t 6) (h : mH) : mf g l 2 mX6_switchCount (fun r : Int32 => (some (Value.int r), h)) [.ref (mad g t)] h (x_X6_switchCount N t h) := by
  refine mf_of (by decide) (Nat.le_of_ble_eq_true rfl) ?_
  show mw g l 2 mX6_switchCount (fun r : Int32 => (some (Value.int r), h)) 0 [(0, .ref (mad g t))] [] h _
  unfold x_X6_switchCount
  refine mw_aload_n (n := 1) (q := 0) dX6_switchCount_0 rfl rfl rfl ?_
  refine mw_geti (n := 4) (a := t) (k := 6) cl6 ht (by decide) rfl rfl fl_X6_37 dX6_switchCount_1 rfl ?_
  refine mw_iconst (n := 5) (v := -1) dX6_switchCount_4 rfl (by decide) ?_
  refine mw_icmp_ne (n := 8) (t := 10) dX6_switchCount_5 rfl (by decide) Iff.rfl (fun c1 => ?_) (fun c1 => ?_)
  · refine mw_iconst (n := 11) (v := 0) dX6_switchCount_10 rfl (by decide) ?_
    refine mw_istore_n (n := 12) dX6_switchCount_11 rfl rfl (by decide) rfl ?_
    refine mw_iconst (n := 13) (v := 0) dX6_switchCount_12 rfl (by decide) ?_
    refine mw_istore_n (n := 14) dX6_switchCount_13 rfl rfl (by decide) rfl ?_
    refine mw_sub [2, 1, 0] rfl ?_
    exact b_X6_switchCount_14 hg N t h ht N (0 : Int32) (0 : Int32)
  · refine mw_iconst (n := 9) (v := 0) dX6_switchCount_8 rfl (by decide) ?_
    exact mw_iret dX6_switchCount_9 rfl rfl
noncomputable def x_X6_firstColumn_2 (N : Nat) (r0 : Nat) (v1 : Int32) (h : mH) (f : Nat) : Int32 → Option (Int32) :=
  Nat.rec (motive := fun _ => Int32 → Option (Int32)) (fun _ => none) (fun _ self2 => fun v2 => 
    if (mgi h r0 1) ≤ v2 then
      some (-9 : Int32)
    else
      (x_X8_columnBit v2).bind fun q2 =>
      if (v1 &&& q2) = 0 then
        self2 (v2 + (1 : Int32))
      else
        some v2) f
theorem x_X6_firstColumn_2_0 (N : Nat) (r0 : Nat) (v1 : Int32) (h : mH) (v2 : Int32) : x_X6_firstColumn_2 N r0 v1 h 0 v2 = none := rfl
theorem x_X6_firstColumn_2_s (N : Nat) (r0 : Nat) (v1 : Int32) (h : mH) (f : Nat) (v2 : Int32) : x_X6_firstColumn_2 N r0 v1 h (f + 1) v2 = (
    if (mgi h r0 1) ≤ v2 then
      some (-9 : Int32)
    else
      (x_X8_columnBit v2).bind fun q2 =>
      if (v1 &&& q2) = 0 then
        (x_X6_firstColumn_2 N r0 v1 h f) (v2 + (1 : Int32))
      else
        some v2) := rfl
set_option maxRecDepth 20000 in
set_option maxHeartbeats 4000000 in
theorem b_X6_firstColumn_2 {g : mG} {l : Launch} (hg : mOK g) (N : Nat) (r0 : Nat) (v1 : Int32) (h : mH) (hr0 : mkn g r0 6) (f : Nat) : ∀ (v2 : Int32), mw g l 1 mX6_firstColumn (fun r : Int32 => (some (Value.int r), h)) 2 [(0, .ref (mad g r0)), (1, .int v1), (2, .int v2)] [] h (x_X6_firstColumn_2 N r0 v1 h f v2) := by
  induction f with
  | zero => intros; exact mw_none
  | succ f hself2 =>
    intro v2
    refine mw_eq (x_X6_firstColumn_2_s N r0 v1 h f v2) ?_
    generalize x_X6_firstColumn_2 N r0 v1 h f = self2 at hself2 ⊢
    refine mw_iload_n (n := 3) (q := 2) dX6_firstColumn_2 rfl rfl rfl ?_
    refine mw_aload_n (n := 4) (q := 0) dX6_firstColumn_3 rfl rfl rfl ?_
    refine mw_geti (n := 7) (a := r0) (k := 1) cl6 hr0 (by decide) rfl rfl fl_X6_15 dX6_firstColumn_4 rfl ?_
    refine mw_icmp_ge (n := 10) (t := 27) dX6_firstColumn_7 rfl (by decide) Iff.rfl (fun c1 => ?_) (fun c1 => ?_)
    · refine mw_bipush (n := 29) (v := -9) dX6_firstColumn_27 rfl (by decide) ?_
      exact mw_iret dX6_firstColumn_29 rfl rfl
    · refine mw_iload_n (n := 11) (q := 1) dX6_firstColumn_10 rfl rfl rfl ?_
      refine mw_iload_n (n := 12) (q := 2) dX6_firstColumn_11 rfl rfl rfl ?_
      refine mw_callN (n := 15) (As := [.int v2]) (t_X8_columnBit hg v2 h) (by decide) ok_X8_columnBit rfl ln_X6_69 sm_X8_columnBit dX6_firstColumn_12 rfl rfl (Nat.le_of_ble_eq_true rfl) (fun q2 _ => ?_)
      show mw g l _ _ _ 15 _ [.int q2, .int v1] h _
      refine mw_iand (n := 16) dX6_firstColumn_15 rfl ?_
      refine mw_if_eq (n := 19) (t := 21) dX6_firstColumn_16 rfl (by decide) Iff.rfl (fun c3 => ?_) (fun c3 => ?_)
      · refine mw_iinc (n := 24) (q := 2) (v := (v2 + (1 : Int32))) dX6_firstColumn_21 rfl rfl rfl (by decide) rfl ?_
        refine mw_goto (n := 2) dX6_firstColumn_24 (by decide) ?_
        refine mw_sub [1, 2, 0] rfl ?_
        exact hself2 (v2 + (1 : Int32))
      · refine mw_iload_n (n := 20) (q := 2) dX6_firstColumn_19 rfl rfl rfl ?_
        exact mw_iret dX6_firstColumn_20 rfl rfl
noncomputable def x_X6_firstColumn (N : Nat) (t : Nat) (p0 : Int32) (h : mH) : Option (Int32) :=
  x_X6_firstColumn_2 N t p0 h N (0 : Int32)
set_option maxRecDepth 20000 in
set_option maxHeartbeats 4000000 in
theorem t_X6_firstColumn {g : mG} {l : Launch} (hg : mOK g) (N : Nat) (t : Nat) (p0 : Int32) (ht : mkn g t 6) (h : mH) : mf g l 1 mX6_firstColumn (fun r : Int32 => (some (Value.int r), h)) [.ref (mad g t), .int p0] h (x_X6_firstColumn N t p0 h) := by
  refine mf_of (by decide) (Nat.le_of_ble_eq_true rfl) ?_
  show mw g l 1 mX6_firstColumn (fun r : Int32 => (some (Value.int r), h)) 0 [(0, .ref (mad g t)), (1, .int p0)] [] h _
  unfold x_X6_firstColumn
  refine mw_iconst (n := 1) (v := 0) dX6_firstColumn_0 rfl (by decide) ?_
  refine mw_istore_n (n := 2) dX6_firstColumn_1 rfl rfl (by decide) rfl ?_
  refine mw_sub [1, 2, 0] rfl ?_
  exact b_X6_firstColumn_2 hg N t p0 h ht N (0 : Int32)
noncomputable def x_X6_firstSwitch_96 (N : Nat) (self13 : Int32 → Option (Int32)) (self25 : Int32 → Option (Int32)) (r0 : Nat) (v1 : Int32) (v2 : Int32) (h : mH) : Option (Int32) :=
  self25 (v2 + (1 : Int32))
set_option maxRecDepth 20000 in
set_option maxHeartbeats 4000000 in
theorem b_X6_firstSwitch_96 {g : mG} {l : Launch} (hg : mOK g) (N : Nat) (r0 : Nat) (v1 : Int32) (v2 : Int32) (h : mH) (self13 : Int32 → Option (Int32)) (hself13 : ∀ (v1 : Int32), mw g l 2 mX6_firstSwitch (fun r : Int32 => (some (Value.int r), h)) 13 [(0, .ref (mad g r0)), (1, .int v1)] [] h (self13 v1)) (self25 : Int32 → Option (Int32)) (hself25 : ∀ (v2 : Int32), mw g l 2 mX6_firstSwitch (fun r : Int32 => (some (Value.int r), h)) 25 [(0, .ref (mad g r0)), (1, .int v1), (2, .int v2)] [] h (self25 v2)) (hr0 : mkn g r0 6) : mw g l 2 mX6_firstSwitch (fun r : Int32 => (some (Value.int r), h)) 96 [(0, .ref (mad g r0)), (1, .int v1), (2, .int v2)] [] h (x_X6_firstSwitch_96 N self13 self25 r0 v1 v2 h) := by
  unfold x_X6_firstSwitch_96
  refine mw_iinc (n := 99) (q := 2) (v := (v2 + (1 : Int32))) dX6_firstSwitch_96 rfl rfl rfl (by decide) rfl ?_
  refine mw_goto (n := 25) dX6_firstSwitch_99 (by decide) ?_
  refine mw_sub [1, 2, 0] rfl ?_
  exact hself25 (v2 + (1 : Int32))
noncomputable def x_X6_firstSwitch_25 (N : Nat) (self13 : Int32 → Option (Int32)) (r0 : Nat) (v1 : Int32) (h : mH) (f : Nat) : Int32 → Option (Int32) :=
  Nat.rec (motive := fun _ => Int32 → Option (Int32)) (fun _ => none) (fun _ self25 => fun v2 => 
    if (mgi h r0 0) ≤ v2 then
      self13 (v1 + (1 : Int32))
    else
      (x_X6_giving r0 (mgi h r0 6) v1 v2 h).bind fun q2 =>
      (x_X6_firstColumn N r0 q2 h).bind fun q3 =>
      (x_X6_giving r0 (mgi h r0 6) v2 v1 h).bind fun q4 =>
      (x_X6_firstColumn N r0 q4 h).bind fun q5 =>
      if q3 = (-9 : Int32) then
        x_X6_firstSwitch_96 N self13 self25 r0 v1 v2 h
      else
        if q5 = (-9 : Int32) then
          x_X6_firstSwitch_96 N self13 self25 r0 v1 v2 h
        else
          some (((((1000 : Int32) * v1) + ((100 : Int32) * v2)) + ((10 : Int32) * q3)) + q5)) f
theorem x_X6_firstSwitch_25_0 (N : Nat) (self13 : Int32 → Option (Int32)) (r0 : Nat) (v1 : Int32) (h : mH) (v2 : Int32) : x_X6_firstSwitch_25 N self13 r0 v1 h 0 v2 = none := rfl
theorem x_X6_firstSwitch_25_s (N : Nat) (self13 : Int32 → Option (Int32)) (r0 : Nat) (v1 : Int32) (h : mH) (f : Nat) (v2 : Int32) : x_X6_firstSwitch_25 N self13 r0 v1 h (f + 1) v2 = (
    if (mgi h r0 0) ≤ v2 then
      self13 (v1 + (1 : Int32))
    else
      (x_X6_giving r0 (mgi h r0 6) v1 v2 h).bind fun q2 =>
      (x_X6_firstColumn N r0 q2 h).bind fun q3 =>
      (x_X6_giving r0 (mgi h r0 6) v2 v1 h).bind fun q4 =>
      (x_X6_firstColumn N r0 q4 h).bind fun q5 =>
      if q3 = (-9 : Int32) then
        x_X6_firstSwitch_96 N self13 (x_X6_firstSwitch_25 N self13 r0 v1 h f) r0 v1 v2 h
      else
        if q5 = (-9 : Int32) then
          x_X6_firstSwitch_96 N self13 (x_X6_firstSwitch_25 N self13 r0 v1 h f) r0 v1 v2 h
        else
          some (((((1000 : Int32) * v1) + ((100 : Int32) * v2)) + ((10 : Int32) * q3)) + q5)) := rfl
set_option maxRecDepth 20000 in
set_option maxHeartbeats 4000000 in
theorem b_X6_firstSwitch_25 {g : mG} {l : Launch} (hg : mOK g) (N : Nat) (r0 : Nat) (v1 : Int32) (h : mH) (self13 : Int32 → Option (Int32)) (hself13 : ∀ (v1 : Int32), mw g l 2 mX6_firstSwitch (fun r : Int32 => (some (Value.int r), h)) 13 [(0, .ref (mad g r0)), (1, .int v1)] [] h (self13 v1)) (hr0 : mkn g r0 6) (f : Nat) : ∀ (v2 : Int32), mw g l 2 mX6_firstSwitch (fun r : Int32 => (some (Value.int r), h)) 25 [(0, .ref (mad g r0)), (1, .int v1), (2, .int v2)] [] h (x_X6_firstSwitch_25 N self13 r0 v1 h f v2) := by
  induction f with
  | zero => intros; exact mw_none
  | succ f hself25 =>
    intro v2
    refine mw_eq (x_X6_firstSwitch_25_s N self13 r0 v1 h f v2) ?_
    generalize x_X6_firstSwitch_25 N self13 r0 v1 h f = self25 at hself25 ⊢
    refine mw_iload_n (n := 26) (q := 2) dX6_firstSwitch_25 rfl rfl rfl ?_
    refine mw_aload_n (n := 27) (q := 0) dX6_firstSwitch_26 rfl rfl rfl ?_
    refine mw_geti (n := 30) (a := r0) (k := 0) cl6 hr0 (by decide) rfl rfl fl_X6_9 dX6_firstSwitch_27 rfl ?_
    refine mw_icmp_ge (n := 33) (t := 102) dX6_firstSwitch_30 rfl (by decide) Iff.rfl (fun c1 => ?_) (fun c1 => ?_)
    · refine mw_iinc (n := 105) (q := 1) (v := (v1 + (1 : Int32))) dX6_firstSwitch_102 rfl rfl rfl (by decide) rfl ?_
      refine mw_goto (n := 13) dX6_firstSwitch_105 (by decide) ?_
      refine mw_sub [1, 0] rfl ?_
      exact hself13 (v1 + (1 : Int32))
    · refine mw_aload_n (n := 34) (q := 0) dX6_firstSwitch_33 rfl rfl rfl ?_
      refine mw_aload_n (n := 35) (q := 0) dX6_firstSwitch_34 rfl rfl rfl ?_
      refine mw_aload_n (n := 36) (q := 0) dX6_firstSwitch_35 rfl rfl rfl ?_
      refine mw_geti (n := 39) (a := r0) (k := 6) cl6 hr0 (by decide) rfl rfl fl_X6_37 dX6_firstSwitch_36 rfl ?_
      refine mw_iload_n (n := 40) (q := 1) dX6_firstSwitch_39 rfl rfl rfl ?_
      refine mw_iload_n (n := 41) (q := 2) dX6_firstSwitch_40 rfl rfl rfl ?_
      refine mw_callV (n := 44) (a := r0) (As := [.int (mgi h r0 6), .int v1, .int v2]) cl6 hr0 (t_X6_giving hg r0 (mgi h r0 6) v1 v2 hr0 h) (by decide) ok_X6_giving rfl rfl lk_X6_65 im_X6_giving se_X6_giving dX6_firstSwitch_41 rfl rfl (Nat.le_of_ble_eq_true rfl) (fun q2 _ => ?_)
      show mw g l _ _ _ 44 _ [.int q2, .ref (mad g r0)] h _
      refine mw_callV (n := 47) (a := r0) (As := [.int q2]) cl6 hr0 (t_X6_firstColumn hg N r0 q2 hr0 h) (by decide) ok_X6_firstColumn rfl rfl lk_X6_75 im_X6_firstColumn se_X6_firstColumn dX6_firstSwitch_44 rfl rfl (Nat.le_of_ble_eq_true rfl) (fun q3 _ => ?_)
      show mw g l _ _ _ 47 _ [.int q3] h _
      refine mw_istore_n (n := 48) dX6_firstSwitch_47 rfl rfl (by decide) rfl ?_
      refine mw_aload_n (n := 49) (q := 1) dX6_firstSwitch_48 rfl rfl rfl ?_
      refine mw_aload_n (n := 50) (q := 1) dX6_firstSwitch_49 rfl rfl rfl ?_
      refine mw_aload_n (n := 51) (q := 1) dX6_firstSwitch_50 rfl rfl rfl ?_
      refine mw_geti (n := 54) (a := r0) (k := 6) cl6 hr0 (by decide) rfl rfl fl_X6_37 dX6_firstSwitch_51 rfl ?_
      refine mw_iload_n (n := 55) (q := 3) dX6_firstSwitch_54 rfl rfl rfl ?_
      refine mw_iload_n (n := 56) (q := 2) dX6_firstSwitch_55 rfl rfl rfl ?_
      refine mw_callV (n := 59) (a := r0) (As := [.int (mgi h r0 6), .int v2, .int v1]) cl6 hr0 (t_X6_giving hg r0 (mgi h r0 6) v2 v1 hr0 h) (by decide) ok_X6_giving rfl rfl lk_X6_65 im_X6_giving se_X6_giving dX6_firstSwitch_56 rfl rfl (Nat.le_of_ble_eq_true rfl) (fun q4 _ => ?_)
      show mw g l _ _ _ 59 _ [.int q4, .ref (mad g r0)] h _
      refine mw_callV (n := 62) (a := r0) (As := [.int q4]) cl6 hr0 (t_X6_firstColumn hg N r0 q4 hr0 h) (by decide) ok_X6_firstColumn rfl rfl lk_X6_75 im_X6_firstColumn se_X6_firstColumn dX6_firstSwitch_59 rfl rfl (Nat.le_of_ble_eq_true rfl) (fun q5 _ => ?_)
      show mw g l _ _ _ 62 _ [.int q5] h _
      refine mw_istore (n := 64) dX6_firstSwitch_62 rfl (by decide) rfl ?_
      refine mw_iload_n (n := 65) (q := 1) dX6_firstSwitch_64 rfl rfl rfl ?_
      refine mw_bipush (n := 67) (v := -9) dX6_firstSwitch_65 rfl (by decide) ?_
      refine mw_icmp_eq (n := 70) (t := 96) dX6_firstSwitch_67 rfl (by decide) Iff.rfl (fun c6 => ?_) (fun c6 => ?_)
      · refine mw_sub [2, 3, 4] rfl ?_
        exact b_X6_firstSwitch_96 hg N r0 v1 v2 h self13 hself13 self25 hself25 hr0
      · refine mw_iload (n := 72) (q := 0) dX6_firstSwitch_70 rfl rfl ?_
        refine mw_bipush (n := 74) (v := -9) dX6_firstSwitch_72 rfl (by decide) ?_
        refine mw_icmp_eq (n := 77) (t := 96) dX6_firstSwitch_74 rfl (by decide) Iff.rfl (fun c7 => ?_) (fun c7 => ?_)
        · refine mw_sub [2, 3, 4] rfl ?_
          exact b_X6_firstSwitch_96 hg N r0 v1 v2 h self13 hself13 self25 hself25 hr0
        · refine mw_sipush (n := 80) (v := 1000) dX6_firstSwitch_77 rfl (by decide) ?_
          refine mw_iload_n (n := 81) (q := 3) dX6_firstSwitch_80 rfl rfl rfl ?_
          refine mw_imul (n := 82) dX6_firstSwitch_81 rfl ?_
          refine mw_bipush (n := 84) (v := 100) dX6_firstSwitch_82 rfl (by decide) ?_
          refine mw_iload_n (n := 85) (q := 4) dX6_firstSwitch_84 rfl rfl rfl ?_
          refine mw_imul (n := 86) dX6_firstSwitch_85 rfl ?_
          refine mw_iadd (n := 87) dX6_firstSwitch_86 rfl ?_
          refine mw_bipush (n := 89) (v := 10) dX6_firstSwitch_87 rfl (by decide) ?_
          refine mw_iload_n (n := 90) (q := 1) dX6_firstSwitch_89 rfl rfl rfl ?_
          refine mw_imul (n := 91) dX6_firstSwitch_90 rfl ?_
          refine mw_iadd (n := 92) dX6_firstSwitch_91 rfl ?_
          refine mw_iload (n := 94) (q := 0) dX6_firstSwitch_92 rfl rfl ?_
          refine mw_iadd (n := 95) dX6_firstSwitch_94 rfl ?_
          exact mw_iret dX6_firstSwitch_95 rfl rfl
noncomputable def x_X6_firstSwitch_13 (N : Nat) (r0 : Nat) (h : mH) (f : Nat) : Int32 → Option (Int32) :=
  Nat.rec (motive := fun _ => Int32 → Option (Int32)) (fun _ => none) (fun _ self13 => fun v1 => 
    if (mgi h r0 0) ≤ v1 then
      some (-9 : Int32)
    else
      mlet (v1 + (1 : Int32)) fun u2 =>
      x_X6_firstSwitch_25 N self13 r0 v1 h N u2) f
theorem x_X6_firstSwitch_13_0 (N : Nat) (r0 : Nat) (h : mH) (v1 : Int32) : x_X6_firstSwitch_13 N r0 h 0 v1 = none := rfl
theorem x_X6_firstSwitch_13_s (N : Nat) (r0 : Nat) (h : mH) (f : Nat) (v1 : Int32) : x_X6_firstSwitch_13 N r0 h (f + 1) v1 = (
    if (mgi h r0 0) ≤ v1 then
      some (-9 : Int32)
    else
      mlet (v1 + (1 : Int32)) fun u2 =>
      x_X6_firstSwitch_25 N (x_X6_firstSwitch_13 N r0 h f) r0 v1 h N u2) := rfl
set_option maxRecDepth 20000 in
set_option maxHeartbeats 4000000 in
theorem b_X6_firstSwitch_13 {g : mG} {l : Launch} (hg : mOK g) (N : Nat) (r0 : Nat) (h : mH) (hr0 : mkn g r0 6) (f : Nat) : ∀ (v1 : Int32), mw g l 2 mX6_firstSwitch (fun r : Int32 => (some (Value.int r), h)) 13 [(0, .ref (mad g r0)), (1, .int v1)] [] h (x_X6_firstSwitch_13 N r0 h f v1) := by
  induction f with
  | zero => intros; exact mw_none
  | succ f hself13 =>
    intro v1
    refine mw_eq (x_X6_firstSwitch_13_s N r0 h f v1) ?_
    generalize x_X6_firstSwitch_13 N r0 h f = self13 at hself13 ⊢
    refine mw_iload_n (n := 14) (q := 1) dX6_firstSwitch_13 rfl rfl rfl ?_
    refine mw_aload_n (n := 15) (q := 0) dX6_firstSwitch_14 rfl rfl rfl ?_
    refine mw_geti (n := 18) (a := r0) (k := 0) cl6 hr0 (by decide) rfl rfl fl_X6_9 dX6_firstSwitch_15 rfl ?_
    refine mw_icmp_ge (n := 21) (t := 108) dX6_firstSwitch_18 rfl (by decide) Iff.rfl (fun c1 => ?_) (fun c1 => ?_)
    · refine mw_bipush (n := 110) (v := -9) dX6_firstSwitch_108 rfl (by decide) ?_
      exact mw_iret dX6_firstSwitch_110 rfl rfl
    · refine mw_iload_n (n := 22) (q := 1) dX6_firstSwitch_21 rfl rfl rfl ?_
      refine mw_iconst (n := 23) (v := 1) dX6_firstSwitch_22 rfl (by decide) ?_
      refine mw_iadd (n := 24) dX6_firstSwitch_23 rfl ?_
      refine mw_letI (fun u2 => ?_)
      refine mw_istore_n (n := 25) dX6_firstSwitch_24 rfl rfl (by decide) rfl ?_
      refine mw_sub [1, 2, 0] rfl ?_
      exact b_X6_firstSwitch_25 hg N r0 v1 h self13 hself13 hr0 N u2
noncomputable def x_X6_firstSwitch (N : Nat) (t : Nat) (h : mH) : Option (Int32) :=
  if ¬ (mgi h t 6) = (-1 : Int32) then
    x_X6_firstSwitch_13 N t h N (0 : Int32)
  else
    some (-9 : Int32)
set_option maxRecDepth 20000 in
set_option maxHeartbeats 4000000 in
theorem t_X6_firstSwitch {g : mG} {l : Launch} (hg : mOK g) (N : Nat) (t : Nat) (ht : mkn g t 6) (h : mH) : mf g l 2 mX6_firstSwitch (fun r : Int32 => (some (Value.int r), h)) [.ref (mad g t)] h (x_X6_firstSwitch N t h) := by
  refine mf_of (by decide) (Nat.le_of_ble_eq_true rfl) ?_
  show mw g l 2 mX6_firstSwitch (fun r : Int32 => (some (Value.int r), h)) 0 [(0, .ref (mad g t))] [] h _
  unfold x_X6_firstSwitch
  refine mw_aload_n (n := 1) (q := 0) dX6_firstSwitch_0 rfl rfl rfl ?_
  refine mw_geti (n := 4) (a := t) (k := 6) cl6 ht (by decide) rfl rfl fl_X6_37 dX6_firstSwitch_1 rfl ?_
  refine mw_iconst (n := 5) (v := -1) dX6_firstSwitch_4 rfl (by decide) ?_
  refine mw_icmp_ne (n := 8) (t := 11) dX6_firstSwitch_5 rfl (by decide) Iff.rfl (fun c1 => ?_) (fun c1 => ?_)
  · refine mw_iconst (n := 12) (v := 0) dX6_firstSwitch_11 rfl (by decide) ?_
    refine mw_istore_n (n := 13) dX6_firstSwitch_12 rfl rfl (by decide) rfl ?_
    refine mw_sub [1, 0] rfl ?_
    exact b_X6_firstSwitch_13 hg N t h ht N (0 : Int32)
  · refine mw_bipush (n := 10) (v := -9) dX6_firstSwitch_8 rfl (by decide) ?_
    exact mw_iret dX6_firstSwitch_10 rfl rfl
