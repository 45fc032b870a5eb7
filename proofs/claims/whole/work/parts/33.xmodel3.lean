noncomputable def x_X9_cellBit (p0 : Int32) (h : mH) : Option (Int32) :=
  (x_X9_cells 85 h).bind fun q1 =>
  some ((1 : Int32) <<< (((q1 - (1 : Int32)) - p0) &&& 31))
set_option maxRecDepth 20000 in
set_option maxHeartbeats 4000000 in
theorem t_X9_cellBit {g : mG} {l : Launch} (hg : mnn g = 101) (p0 : Int32) (h : mH) : mf g l 1 mX9_cellBit (fun r : Int32 => (some (Value.int r), h)) [.ref (mad g 82), .int p0] h (x_X9_cellBit p0 h) := by
  refine mf_of (by decide) (Nat.le_of_ble_eq_true rfl) ?_
  show mw g l 1 mX9_cellBit (fun r : Int32 => (some (Value.int r), h)) 0 [(0, .ref (mad g 82)), (1, .int p0)] [] h _
  unfold x_X9_cellBit
  refine mw_iconst (n := 1) (v := 1) dX9_cellBit_0 rfl (by decide) ?_
  refine mw_aload_n (n := 2) (q := 0) dX9_cellBit_1 rfl rfl rfl ?_
  refine mw_getr (n := 5) (a := 82) (k := 4) cl9 (mkm hg (by decide) (by rfl)) (by decide) rfl rfl fl_X9_16 dX9_cellBit_2 rfl ?_
  refine mw_callS (n := 8) (As := [.ref (mad g 85)]) (t_X9_cells hg 85 (mkm hg (by decide) (by rfl)) h) (by decide) ok_X9_cells rfl lk_X9_69 sm_X9_cells dX9_cellBit_5 rfl rfl (Nat.le_of_ble_eq_true rfl) (fun q1 _ => ?_)
  show mw g l _ _ _ 8 _ [.int q1, .int (1 : Int32)] h _
  refine mw_iconst (n := 9) (v := 1) dX9_cellBit_8 rfl (by decide) ?_
  refine mw_isub (n := 10) dX9_cellBit_9 rfl ?_
  refine mw_iload_n (n := 11) (q := 1) dX9_cellBit_10 rfl rfl rfl ?_
  refine mw_isub (n := 12) dX9_cellBit_11 rfl ?_
  refine mw_ishl (n := 13) dX9_cellBit_12 rfl ?_
  exact mw_iret dX9_cellBit_13 rfl rfl
noncomputable def x_X9_findKey_269 (N : Nat) (self165 : Int32 → mH → Option (mH)) (v1 : Int32) (v2 : Int32) (h : mH) : Option (mH) :=
  self165 (v2 + (1 : Int32)) h
set_option maxRecDepth 20000 in
set_option maxHeartbeats 4000000 in
theorem b_X9_findKey_269 {g : mG} {l : Launch} (hg : mnn g = 101) (N : Nat) (v1 : Int32) (v2 : Int32) (self165 : Int32 → mH → Option (mH)) (hself165 : ∀ (v2 : Int32) (h : mH), mw g l 2 mX9_findKey (fun r : mH => ((none : Option Value), r)) 165 [(0, .ref (mad g 82)), (1, .int v1), (2, .int v2)] [] h (self165 v2 h)) (h : mH) : mw g l 2 mX9_findKey (fun r : mH => ((none : Option Value), r)) 269 [(0, .ref (mad g 82)), (1, .int v1), (2, .int v2)] [] h (x_X9_findKey_269 N self165 v1 v2 h) := by
  unfold x_X9_findKey_269
  refine mw_iinc (n := 272) (q := 2) (v := (v2 + (1 : Int32))) dX9_findKey_269 rfl rfl rfl (by decide) rfl ?_
  refine mw_goto (n := 165) dX9_findKey_272 (by decide) ?_
  refine mw_sub [1, 2, 0] rfl ?_
  exact hself165 (v2 + (1 : Int32)) h
noncomputable def x_X9_findKey_165 (N : Nat) (v1 : Int32) (f : Nat) : Int32 → mH → Option (mH) :=
  Nat.rec (motive := fun _ => Int32 → mH → Option (mH)) (fun _ _ => none) (fun _ self165 => fun v2 h => 
    if ((v1 * v1) * v1) ≤ v2 then
      some h
    else
      if ¬ (mgi h 82 24) = (-9 : Int32) then
        some h
      else
        mzd (v1 * v1) <|
        mlet (v2 / (v1 * v1)) fun u3 =>
        mzd v1 <|
        mzd v1 <|
        mlet (xrem (v2 / v1) v1) fun u4 =>
        mzd v1 <|
        mlet (xrem v2 v1) fun u5 =>
        if u4 ≤ u3 then
          x_X9_findKey_269 N self165 v1 v2 h
        else
          if u5 ≤ u4 then
            x_X9_findKey_269 N self165 v1 v2 h
          else
            (x_X9_cellBit u3 h).bind fun q8 =>
            (x_X9_cellBit u4 h).bind fun q9 =>
            (x_X9_cellBit u5 h).bind fun q10 =>
            (x_X9_tells N ((q8 ||| q9) ||| q10) h).bind fun q11 =>
            if q11 = 0 then
              x_X9_findKey_269 N self165 v1 v2 h
            else
              mlet (msi h 82 24 (3 : Int32)) fun h13 =>
              mlet (msi h13 82 25 (((((10000 : Int32) * (u3 + (1 : Int32))) + ((100 : Int32) * (u4 + (1 : Int32)))) + u5) + (1 : Int32))) fun h14 =>
              x_X9_findKey_269 N self165 v1 v2 h14) f
theorem x_X9_findKey_165_0 (N : Nat) (v1 : Int32) (v2 : Int32) (h : mH) : x_X9_findKey_165 N v1 0 v2 h = none := rfl
theorem x_X9_findKey_165_s (N : Nat) (v1 : Int32) (f : Nat) (v2 : Int32) (h : mH) : x_X9_findKey_165 N v1 (f + 1) v2 h = (
    if ((v1 * v1) * v1) ≤ v2 then
      some h
    else
      if ¬ (mgi h 82 24) = (-9 : Int32) then
        some h
      else
        mzd (v1 * v1) <|
        mlet (v2 / (v1 * v1)) fun u3 =>
        mzd v1 <|
        mzd v1 <|
        mlet (xrem (v2 / v1) v1) fun u4 =>
        mzd v1 <|
        mlet (xrem v2 v1) fun u5 =>
        if u4 ≤ u3 then
          x_X9_findKey_269 N (x_X9_findKey_165 N v1 f) v1 v2 h
        else
          if u5 ≤ u4 then
            x_X9_findKey_269 N (x_X9_findKey_165 N v1 f) v1 v2 h
          else
            (x_X9_cellBit u3 h).bind fun q8 =>
            (x_X9_cellBit u4 h).bind fun q9 =>
            (x_X9_cellBit u5 h).bind fun q10 =>
            (x_X9_tells N ((q8 ||| q9) ||| q10) h).bind fun q11 =>
            if q11 = 0 then
              x_X9_findKey_269 N (x_X9_findKey_165 N v1 f) v1 v2 h
            else
              mlet (msi h 82 24 (3 : Int32)) fun h13 =>
              mlet (msi h13 82 25 (((((10000 : Int32) * (u3 + (1 : Int32))) + ((100 : Int32) * (u4 + (1 : Int32)))) + u5) + (1 : Int32))) fun h14 =>
              x_X9_findKey_269 N (x_X9_findKey_165 N v1 f) v1 v2 h14) := rfl
set_option maxRecDepth 20000 in
set_option maxHeartbeats 4000000 in
theorem b_X9_findKey_165 {g : mG} {l : Launch} (hg : mnn g = 101) (N : Nat) (v1 : Int32) (f : Nat) : ∀ (v2 : Int32) (h : mH), mw g l 2 mX9_findKey (fun r : mH => ((none : Option Value), r)) 165 [(0, .ref (mad g 82)), (1, .int v1), (2, .int v2)] [] h (x_X9_findKey_165 N v1 f v2 h) := by
  induction f with
  | zero => intros; exact mw_none
  | succ f hself165 =>
    intro v2 h
    refine mw_eq (x_X9_findKey_165_s N v1 f v2 h) ?_
    generalize x_X9_findKey_165 N v1 f = self165 at hself165 ⊢
    refine mw_iload_n (n := 166) (q := 2) dX9_findKey_165 rfl rfl rfl ?_
    refine mw_iload_n (n := 167) (q := 1) dX9_findKey_166 rfl rfl rfl ?_
    refine mw_iload_n (n := 168) (q := 1) dX9_findKey_167 rfl rfl rfl ?_
    refine mw_imul (n := 169) dX9_findKey_168 rfl ?_
    refine mw_iload_n (n := 170) (q := 1) dX9_findKey_169 rfl rfl rfl ?_
    refine mw_imul (n := 171) dX9_findKey_170 rfl ?_
    refine mw_icmp_ge (n := 174) (t := 275) dX9_findKey_171 rfl (by decide) Iff.rfl (fun c1 => ?_) (fun c1 => ?_)
    · exact mw_vret dX9_findKey_275 rfl rfl
    · refine mw_aload_n (n := 175) (q := 0) dX9_findKey_174 rfl rfl rfl ?_
      refine mw_geti (n := 178) (a := 82) (k := 24) cl9 (mkm hg (by decide) (by rfl)) (by decide) rfl rfl fl_X9_214 dX9_findKey_175 rfl ?_
      refine mw_bipush (n := 180) (v := -9) dX9_findKey_178 rfl (by decide) ?_
      refine mw_icmp_ne (n := 183) (t := 275) dX9_findKey_180 rfl (by decide) Iff.rfl (fun c2 => ?_) (fun c2 => ?_)
      · exact mw_vret dX9_findKey_275 rfl rfl
      · refine mw_iload_n (n := 184) (q := 2) dX9_findKey_183 rfl rfl rfl ?_
        refine mw_iload_n (n := 185) (q := 1) dX9_findKey_184 rfl rfl rfl ?_
        refine mw_iload_n (n := 186) (q := 1) dX9_findKey_185 rfl rfl rfl ?_
        refine mw_imul (n := 187) dX9_findKey_186 rfl ?_
        refine mw_idivC (n := 188) dX9_findKey_187 rfl ?_
        refine mw_letI (fun u3 => ?_)
        refine mw_istore_n (n := 189) dX9_findKey_188 rfl rfl (by decide) rfl ?_
        refine mw_iload_n (n := 190) (q := 3) dX9_findKey_189 rfl rfl rfl ?_
        refine mw_iload_n (n := 191) (q := 2) dX9_findKey_190 rfl rfl rfl ?_
        refine mw_idivC (n := 192) dX9_findKey_191 rfl ?_
        refine mw_iload_n (n := 193) (q := 2) dX9_findKey_192 rfl rfl rfl ?_
        refine mw_iremC (n := 194) dX9_findKey_193 rfl ?_
        refine mw_letI (fun u4 => ?_)
        refine mw_istore (n := 196) dX9_findKey_194 rfl (by decide) rfl ?_
        refine mw_iload_n (n := 197) (q := 4) dX9_findKey_196 rfl rfl rfl ?_
        refine mw_iload_n (n := 198) (q := 3) dX9_findKey_197 rfl rfl rfl ?_
        refine mw_iremC (n := 199) dX9_findKey_198 rfl ?_
        refine mw_letI (fun u5 => ?_)
        refine mw_istore (n := 201) dX9_findKey_199 rfl (by decide) rfl ?_
        refine mw_iload_n (n := 202) (q := 2) dX9_findKey_201 rfl rfl rfl ?_
        refine mw_iload (n := 204) (q := 1) dX9_findKey_202 rfl rfl ?_
        refine mw_icmp_ge (n := 207) (t := 269) dX9_findKey_204 rfl (by decide) Iff.rfl (fun c6 => ?_) (fun c6 => ?_)
        · refine mw_sub [3, 4, 5] rfl ?_
          exact b_X9_findKey_269 hg N v1 v2 self165 hself165 h
        · refine mw_iload (n := 209) (q := 1) dX9_findKey_207 rfl rfl ?_
          refine mw_iload (n := 211) (q := 0) dX9_findKey_209 rfl rfl ?_
          refine mw_icmp_ge (n := 214) (t := 269) dX9_findKey_211 rfl (by decide) Iff.rfl (fun c7 => ?_) (fun c7 => ?_)
          · refine mw_sub [3, 4, 5] rfl ?_
            exact b_X9_findKey_269 hg N v1 v2 self165 hself165 h
          · refine mw_aload_n (n := 215) (q := 3) dX9_findKey_214 rfl rfl rfl ?_
            refine mw_aload_n (n := 216) (q := 3) dX9_findKey_215 rfl rfl rfl ?_
            refine mw_iload_n (n := 217) (q := 2) dX9_findKey_216 rfl rfl rfl ?_
            refine mw_callV (n := 220) (a := 82) (As := [.int u3]) cl9 (mkm hg (by decide) (by rfl)) (t_X9_cellBit hg u3 h) (by decide) ok_X9_cellBit rfl rfl lk_X9_220 im_X9_cellBit se_X9_cellBit dX9_findKey_217 rfl rfl (Nat.le_of_ble_eq_true rfl) (fun q8 _ => ?_)
            show mw g l _ _ _ 220 _ [.int q8, .ref (mad g 82)] h _
            refine mw_aload_n (n := 221) (q := 3) dX9_findKey_220 rfl rfl rfl ?_
            refine mw_iload (n := 223) (q := 1) dX9_findKey_221 rfl rfl ?_
            refine mw_callV (n := 226) (a := 82) (As := [.int u4]) cl9 (mkm hg (by decide) (by rfl)) (t_X9_cellBit hg u4 h) (by decide) ok_X9_cellBit rfl rfl lk_X9_220 im_X9_cellBit se_X9_cellBit dX9_findKey_223 rfl rfl (Nat.le_of_ble_eq_true rfl) (fun q9 _ => ?_)
            show mw g l _ _ _ 226 _ [.int q9, .int q8, .ref (mad g 82)] h _
            refine mw_ior (n := 227) dX9_findKey_226 rfl ?_
            refine mw_aload_n (n := 228) (q := 3) dX9_findKey_227 rfl rfl rfl ?_
            refine mw_iload (n := 230) (q := 0) dX9_findKey_228 rfl rfl ?_
            refine mw_callV (n := 233) (a := 82) (As := [.int u5]) cl9 (mkm hg (by decide) (by rfl)) (t_X9_cellBit hg u5 h) (by decide) ok_X9_cellBit rfl rfl lk_X9_220 im_X9_cellBit se_X9_cellBit dX9_findKey_230 rfl rfl (Nat.le_of_ble_eq_true rfl) (fun q10 _ => ?_)
            show mw g l _ _ _ 233 _ [.int q10, .int (q8 ||| q9), .ref (mad g 82)] h _
            refine mw_ior (n := 234) dX9_findKey_233 rfl ?_
            refine mw_callV (n := 237) (a := 82) (As := [.int ((q8 ||| q9) ||| q10)]) cl9 (mkm hg (by decide) (by rfl)) (t_X9_tells hg N ((q8 ||| q9) ||| q10) h) (by decide) ok_X9_tells rfl rfl lk_X9_211 im_X9_tells se_X9_tells dX9_findKey_234 rfl rfl (Nat.le_of_ble_eq_true rfl) (fun q11 _ => ?_)
            show mw g l _ _ _ 237 _ [.int q11] h _
            refine mw_if_eq (n := 240) (t := 269) dX9_findKey_237 rfl (by decide) Iff.rfl (fun c12 => ?_) (fun c12 => ?_)
            · refine mw_sub [3, 4, 5] rfl ?_
              exact b_X9_findKey_269 hg N v1 v2 self165 hself165 h
            · refine mw_aload_n (n := 241) (q := 3) dX9_findKey_240 rfl rfl rfl ?_
              refine mw_iconst (n := 242) (v := 3) dX9_findKey_241 rfl (by decide) ?_
              refine mw_puti (n := 245) (a := 82) (k := 24) cl9 ct9 (mkm hg (by decide) (by rfl)) (by decide) rfl rfl rfl rfl fl_X9_214 dX9_findKey_242 rfl (mw_leth (fun h13 => ?_))
              refine mw_aload_n (n := 246) (q := 3) dX9_findKey_245 rfl rfl rfl ?_
              refine mw_sipush (n := 249) (v := 10000) dX9_findKey_246 rfl (by decide) ?_
              refine mw_iload_n (n := 250) (q := 2) dX9_findKey_249 rfl rfl rfl ?_
              refine mw_iconst (n := 251) (v := 1) dX9_findKey_250 rfl (by decide) ?_
              refine mw_iadd (n := 252) dX9_findKey_251 rfl ?_
              refine mw_imul (n := 253) dX9_findKey_252 rfl ?_
              refine mw_bipush (n := 255) (v := 100) dX9_findKey_253 rfl (by decide) ?_
              refine mw_iload (n := 257) (q := 1) dX9_findKey_255 rfl rfl ?_
              refine mw_iconst (n := 258) (v := 1) dX9_findKey_257 rfl (by decide) ?_
              refine mw_iadd (n := 259) dX9_findKey_258 rfl ?_
              refine mw_imul (n := 260) dX9_findKey_259 rfl ?_
              refine mw_iadd (n := 261) dX9_findKey_260 rfl ?_
              refine mw_iload (n := 263) (q := 0) dX9_findKey_261 rfl rfl ?_
              refine mw_iadd (n := 264) dX9_findKey_263 rfl ?_
              refine mw_iconst (n := 265) (v := 1) dX9_findKey_264 rfl (by decide) ?_
              refine mw_iadd (n := 266) dX9_findKey_265 rfl ?_
              refine mw_puti (n := 269) (a := 82) (k := 25) cl9 ct9 (mkm hg (by decide) (by rfl)) (by decide) rfl rfl rfl rfl fl_X9_217 dX9_findKey_266 rfl (mw_leth (fun h14 => ?_))
              refine mw_sub [3, 4, 5] rfl ?_
              exact b_X9_findKey_269 hg N v1 v2 self165 hself165 h14
noncomputable def x_X9_findKey_163 (N : Nat) (v1 : Int32) (h : mH) : Option (mH) :=
  x_X9_findKey_165 N v1 N (0 : Int32) h
set_option maxRecDepth 20000 in
set_option maxHeartbeats 4000000 in
theorem b_X9_findKey_163 {g : mG} {l : Launch} (hg : mnn g = 101) (N : Nat) (v1 : Int32) (h : mH) : mw g l 2 mX9_findKey (fun r : mH => ((none : Option Value), r)) 163 [(0, .ref (mad g 82)), (1, .int v1)] [] h (x_X9_findKey_163 N v1 h) := by
  unfold x_X9_findKey_163
  refine mw_iconst (n := 164) (v := 0) dX9_findKey_163 rfl (by decide) ?_
  refine mw_istore_n (n := 165) dX9_findKey_164 rfl rfl (by decide) rfl ?_
  refine mw_sub [1, 2, 0] rfl ?_
  exact b_X9_findKey_165 hg N v1 N (0 : Int32) h
noncomputable def x_X9_findKey_157 (N : Nat) (self82 : Int32 → mH → Option (mH)) (v1 : Int32) (v2 : Int32) (h : mH) : Option (mH) :=
  self82 (v2 + (1 : Int32)) h
set_option maxRecDepth 20000 in
set_option maxHeartbeats 4000000 in
theorem b_X9_findKey_157 {g : mG} {l : Launch} (hg : mnn g = 101) (N : Nat) (v1 : Int32) (v2 : Int32) (self82 : Int32 → mH → Option (mH)) (hself82 : ∀ (v2 : Int32) (h : mH), mw g l 2 mX9_findKey (fun r : mH => ((none : Option Value), r)) 82 [(0, .ref (mad g 82)), (1, .int v1), (2, .int v2)] [] h (self82 v2 h)) (h : mH) : mw g l 2 mX9_findKey (fun r : mH => ((none : Option Value), r)) 157 [(0, .ref (mad g 82)), (1, .int v1), (2, .int v2)] [] h (x_X9_findKey_157 N self82 v1 v2 h) := by
  unfold x_X9_findKey_157
  refine mw_iinc (n := 160) (q := 2) (v := (v2 + (1 : Int32))) dX9_findKey_157 rfl rfl rfl (by decide) rfl ?_
  refine mw_goto (n := 82) dX9_findKey_160 (by decide) ?_
  refine mw_sub [1, 2, 0] rfl ?_
  exact hself82 (v2 + (1 : Int32)) h
noncomputable def x_X9_findKey_151 (N : Nat) (self82 : Int32 → mH → Option (mH)) (self100 : Int32 → mH → Option (mH)) (v1 : Int32) (v2 : Int32) (v3 : Int32) (h : mH) : Option (mH) :=
  self100 (v3 + (1 : Int32)) h
set_option maxRecDepth 20000 in
set_option maxHeartbeats 4000000 in
theorem b_X9_findKey_151 {g : mG} {l : Launch} (hg : mnn g = 101) (N : Nat) (v1 : Int32) (v2 : Int32) (v3 : Int32) (self82 : Int32 → mH → Option (mH)) (hself82 : ∀ (v2 : Int32) (h : mH), mw g l 2 mX9_findKey (fun r : mH => ((none : Option Value), r)) 82 [(0, .ref (mad g 82)), (1, .int v1), (2, .int v2)] [] h (self82 v2 h)) (self100 : Int32 → mH → Option (mH)) (hself100 : ∀ (v3 : Int32) (h : mH), mw g l 2 mX9_findKey (fun r : mH => ((none : Option Value), r)) 100 [(0, .ref (mad g 82)), (1, .int v1), (2, .int v2), (3, .int v3)] [] h (self100 v3 h)) (h : mH) : mw g l 2 mX9_findKey (fun r : mH => ((none : Option Value), r)) 151 [(0, .ref (mad g 82)), (1, .int v1), (2, .int v2), (3, .int v3)] [] h (x_X9_findKey_151 N self82 self100 v1 v2 v3 h) := by
  unfold x_X9_findKey_151
  refine mw_iinc (n := 154) (q := 3) (v := (v3 + (1 : Int32))) dX9_findKey_151 rfl rfl rfl (by decide) rfl ?_
  refine mw_goto (n := 100) dX9_findKey_154 (by decide) ?_
  refine mw_sub [1, 2, 3, 0] rfl ?_
  exact hself100 (v3 + (1 : Int32)) h
noncomputable def x_X9_findKey_100 (N : Nat) (self82 : Int32 → mH → Option (mH)) (v1 : Int32) (v2 : Int32) (f : Nat) : Int32 → mH → Option (mH) :=
  Nat.rec (motive := fun _ => Int32 → mH → Option (mH)) (fun _ _ => none) (fun _ self100 => fun v3 h => 
    if v1 ≤ v3 then
      x_X9_findKey_157 N self82 v1 v2 h
    else
      if ¬ (mgi h 82 24) = (-9 : Int32) then
        x_X9_findKey_157 N self82 v1 v2 h
      else
        (x_X9_cellBit v2 h).bind fun q3 =>
        (x_X9_cellBit v3 h).bind fun q4 =>
        (x_X9_tells N (q3 ||| q4) h).bind fun q5 =>
        if q5 = 0 then
          x_X9_findKey_151 N self82 self100 v1 v2 v3 h
        else
          mlet (msi h 82 24 (2 : Int32)) fun h7 =>
          mlet (msi h7 82 25 ((((100 : Int32) * (v2 + (1 : Int32))) + v3) + (1 : Int32))) fun h8 =>
          x_X9_findKey_151 N self82 self100 v1 v2 v3 h8) f
theorem x_X9_findKey_100_0 (N : Nat) (self82 : Int32 → mH → Option (mH)) (v1 : Int32) (v2 : Int32) (v3 : Int32) (h : mH) : x_X9_findKey_100 N self82 v1 v2 0 v3 h = none := rfl
theorem x_X9_findKey_100_s (N : Nat) (self82 : Int32 → mH → Option (mH)) (v1 : Int32) (v2 : Int32) (f : Nat) (v3 : Int32) (h : mH) : x_X9_findKey_100 N self82 v1 v2 (f + 1) v3 h = (
    if v1 ≤ v3 then
      x_X9_findKey_157 N self82 v1 v2 h
    else
      if ¬ (mgi h 82 24) = (-9 : Int32) then
        x_X9_findKey_157 N self82 v1 v2 h
      else
        (x_X9_cellBit v2 h).bind fun q3 =>
        (x_X9_cellBit v3 h).bind fun q4 =>
        (x_X9_tells N (q3 ||| q4) h).bind fun q5 =>
        if q5 = 0 then
          x_X9_findKey_151 N self82 (x_X9_findKey_100 N self82 v1 v2 f) v1 v2 v3 h
        else
          mlet (msi h 82 24 (2 : Int32)) fun h7 =>
          mlet (msi h7 82 25 ((((100 : Int32) * (v2 + (1 : Int32))) + v3) + (1 : Int32))) fun h8 =>
          x_X9_findKey_151 N self82 (x_X9_findKey_100 N self82 v1 v2 f) v1 v2 v3 h8) := rfl
set_option maxRecDepth 20000 in
set_option maxHeartbeats 4000000 in
theorem b_X9_findKey_100 {g : mG} {l : Launch} (hg : mnn g = 101) (N : Nat) (v1 : Int32) (v2 : Int32) (self82 : Int32 → mH → Option (mH)) (hself82 : ∀ (v2 : Int32) (h : mH), mw g l 2 mX9_findKey (fun r : mH => ((none : Option Value), r)) 82 [(0, .ref (mad g 82)), (1, .int v1), (2, .int v2)] [] h (self82 v2 h)) (f : Nat) : ∀ (v3 : Int32) (h : mH), mw g l 2 mX9_findKey (fun r : mH => ((none : Option Value), r)) 100 [(0, .ref (mad g 82)), (1, .int v1), (2, .int v2), (3, .int v3)] [] h (x_X9_findKey_100 N self82 v1 v2 f v3 h) := by
  induction f with
  | zero => intros; exact mw_none
  | succ f hself100 =>
    intro v3 h
    refine mw_eq (x_X9_findKey_100_s N self82 v1 v2 f v3 h) ?_
    generalize x_X9_findKey_100 N self82 v1 v2 f = self100 at hself100 ⊢
    refine mw_iload_n (n := 101) (q := 3) dX9_findKey_100 rfl rfl rfl ?_
    refine mw_iload_n (n := 102) (q := 1) dX9_findKey_101 rfl rfl rfl ?_
    refine mw_icmp_ge (n := 105) (t := 157) dX9_findKey_102 rfl (by decide) Iff.rfl (fun c1 => ?_) (fun c1 => ?_)
    · refine mw_sub [0, 1, 2] rfl ?_
      exact b_X9_findKey_157 hg N v1 v2 self82 hself82 h
    · refine mw_aload_n (n := 106) (q := 0) dX9_findKey_105 rfl rfl rfl ?_
      refine mw_geti (n := 109) (a := 82) (k := 24) cl9 (mkm hg (by decide) (by rfl)) (by decide) rfl rfl fl_X9_214 dX9_findKey_106 rfl ?_
      refine mw_bipush (n := 111) (v := -9) dX9_findKey_109 rfl (by decide) ?_
      refine mw_icmp_ne (n := 114) (t := 157) dX9_findKey_111 rfl (by decide) Iff.rfl (fun c2 => ?_) (fun c2 => ?_)
      · refine mw_sub [0, 1, 2] rfl ?_
        exact b_X9_findKey_157 hg N v1 v2 self82 hself82 h
      · refine mw_aload_n (n := 115) (q := 0) dX9_findKey_114 rfl rfl rfl ?_
        refine mw_aload_n (n := 116) (q := 0) dX9_findKey_115 rfl rfl rfl ?_
        refine mw_iload_n (n := 117) (q := 2) dX9_findKey_116 rfl rfl rfl ?_
        refine mw_callV (n := 120) (a := 82) (As := [.int v2]) cl9 (mkm hg (by decide) (by rfl)) (t_X9_cellBit hg v2 h) (by decide) ok_X9_cellBit rfl rfl lk_X9_220 im_X9_cellBit se_X9_cellBit dX9_findKey_117 rfl rfl (Nat.le_of_ble_eq_true rfl) (fun q3 _ => ?_)
        show mw g l _ _ _ 120 _ [.int q3, .ref (mad g 82)] h _
        refine mw_aload_n (n := 121) (q := 0) dX9_findKey_120 rfl rfl rfl ?_
        refine mw_iload_n (n := 122) (q := 3) dX9_findKey_121 rfl rfl rfl ?_
        refine mw_callV (n := 125) (a := 82) (As := [.int v3]) cl9 (mkm hg (by decide) (by rfl)) (t_X9_cellBit hg v3 h) (by decide) ok_X9_cellBit rfl rfl lk_X9_220 im_X9_cellBit se_X9_cellBit dX9_findKey_122 rfl rfl (Nat.le_of_ble_eq_true rfl) (fun q4 _ => ?_)
        show mw g l _ _ _ 125 _ [.int q4, .int q3, .ref (mad g 82)] h _
        refine mw_ior (n := 126) dX9_findKey_125 rfl ?_
        refine mw_callV (n := 129) (a := 82) (As := [.int (q3 ||| q4)]) cl9 (mkm hg (by decide) (by rfl)) (t_X9_tells hg N (q3 ||| q4) h) (by decide) ok_X9_tells rfl rfl lk_X9_211 im_X9_tells se_X9_tells dX9_findKey_126 rfl rfl (Nat.le_of_ble_eq_true rfl) (fun q5 _ => ?_)
        show mw g l _ _ _ 129 _ [.int q5] h _
        refine mw_if_eq (n := 132) (t := 151) dX9_findKey_129 rfl (by decide) Iff.rfl (fun c6 => ?_) (fun c6 => ?_)
        · exact b_X9_findKey_151 hg N v1 v2 v3 self82 hself82 self100 hself100 h
        · refine mw_aload_n (n := 133) (q := 0) dX9_findKey_132 rfl rfl rfl ?_
          refine mw_iconst (n := 134) (v := 2) dX9_findKey_133 rfl (by decide) ?_
          refine mw_puti (n := 137) (a := 82) (k := 24) cl9 ct9 (mkm hg (by decide) (by rfl)) (by decide) rfl rfl rfl rfl fl_X9_214 dX9_findKey_134 rfl (mw_leth (fun h7 => ?_))
          refine mw_aload_n (n := 138) (q := 0) dX9_findKey_137 rfl rfl rfl ?_
          refine mw_bipush (n := 140) (v := 100) dX9_findKey_138 rfl (by decide) ?_
          refine mw_iload_n (n := 141) (q := 2) dX9_findKey_140 rfl rfl rfl ?_
          refine mw_iconst (n := 142) (v := 1) dX9_findKey_141 rfl (by decide) ?_
          refine mw_iadd (n := 143) dX9_findKey_142 rfl ?_
          refine mw_imul (n := 144) dX9_findKey_143 rfl ?_
          refine mw_iload_n (n := 145) (q := 3) dX9_findKey_144 rfl rfl rfl ?_
          refine mw_iadd (n := 146) dX9_findKey_145 rfl ?_
          refine mw_iconst (n := 147) (v := 1) dX9_findKey_146 rfl (by decide) ?_
          refine mw_iadd (n := 148) dX9_findKey_147 rfl ?_
          refine mw_puti (n := 151) (a := 82) (k := 25) cl9 ct9 (mkm hg (by decide) (by rfl)) (by decide) rfl rfl rfl rfl fl_X9_217 dX9_findKey_148 rfl (mw_leth (fun h8 => ?_))
          exact b_X9_findKey_151 hg N v1 v2 v3 self82 hself82 self100 hself100 h8
noncomputable def x_X9_findKey_82 (N : Nat) (v1 : Int32) (f : Nat) : Int32 → mH → Option (mH) :=
  Nat.rec (motive := fun _ => Int32 → mH → Option (mH)) (fun _ _ => none) (fun _ self82 => fun v2 h => 
    if v1 ≤ v2 then
      x_X9_findKey_163 N v1 h
    else
      if ¬ (mgi h 82 24) = (-9 : Int32) then
        x_X9_findKey_163 N v1 h
      else
        mlet (v2 + (1 : Int32)) fun u3 =>
        x_X9_findKey_100 N self82 v1 v2 N u3 h) f
theorem x_X9_findKey_82_0 (N : Nat) (v1 : Int32) (v2 : Int32) (h : mH) : x_X9_findKey_82 N v1 0 v2 h = none := rfl
theorem x_X9_findKey_82_s (N : Nat) (v1 : Int32) (f : Nat) (v2 : Int32) (h : mH) : x_X9_findKey_82 N v1 (f + 1) v2 h = (
    if v1 ≤ v2 then
      x_X9_findKey_163 N v1 h
    else
      if ¬ (mgi h 82 24) = (-9 : Int32) then
        x_X9_findKey_163 N v1 h
      else
        mlet (v2 + (1 : Int32)) fun u3 =>
        x_X9_findKey_100 N (x_X9_findKey_82 N v1 f) v1 v2 N u3 h) := rfl
set_option maxRecDepth 20000 in
set_option maxHeartbeats 4000000 in
theorem b_X9_findKey_82 {g : mG} {l : Launch} (hg : mnn g = 101) (N : Nat) (v1 : Int32) (f : Nat) : ∀ (v2 : Int32) (h : mH), mw g l 2 mX9_findKey (fun r : mH => ((none : Option Value), r)) 82 [(0, .ref (mad g 82)), (1, .int v1), (2, .int v2)] [] h (x_X9_findKey_82 N v1 f v2 h) := by
  induction f with
  | zero => intros; exact mw_none
  | succ f hself82 =>
    intro v2 h
    refine mw_eq (x_X9_findKey_82_s N v1 f v2 h) ?_
    generalize x_X9_findKey_82 N v1 f = self82 at hself82 ⊢
    refine mw_iload_n (n := 83) (q := 2) dX9_findKey_82 rfl rfl rfl ?_
    refine mw_iload_n (n := 84) (q := 1) dX9_findKey_83 rfl rfl rfl ?_
    refine mw_icmp_ge (n := 87) (t := 163) dX9_findKey_84 rfl (by decide) Iff.rfl (fun c1 => ?_) (fun c1 => ?_)
    · refine mw_sub [0, 1] rfl ?_
      exact b_X9_findKey_163 hg N v1 h
    · refine mw_aload_n (n := 88) (q := 0) dX9_findKey_87 rfl rfl rfl ?_
      refine mw_geti (n := 91) (a := 82) (k := 24) cl9 (mkm hg (by decide) (by rfl)) (by decide) rfl rfl fl_X9_214 dX9_findKey_88 rfl ?_
      refine mw_bipush (n := 93) (v := -9) dX9_findKey_91 rfl (by decide) ?_
      refine mw_icmp_ne (n := 96) (t := 163) dX9_findKey_93 rfl (by decide) Iff.rfl (fun c2 => ?_) (fun c2 => ?_)
      · refine mw_sub [0, 1] rfl ?_
        exact b_X9_findKey_163 hg N v1 h
      · refine mw_iload_n (n := 97) (q := 2) dX9_findKey_96 rfl rfl rfl ?_
        refine mw_iconst (n := 98) (v := 1) dX9_findKey_97 rfl (by decide) ?_
        refine mw_iadd (n := 99) dX9_findKey_98 rfl ?_
        refine mw_letI (fun u3 => ?_)
        refine mw_istore_n (n := 100) dX9_findKey_99 rfl rfl (by decide) rfl ?_
        refine mw_sub [1, 2, 3, 0] rfl ?_
        exact b_X9_findKey_100 hg N v1 v2 self82 hself82 N u3 h
noncomputable def x_X9_findKey_80 (N : Nat) (v1 : Int32) (h : mH) : Option (mH) :=
  x_X9_findKey_82 N v1 N (0 : Int32) h
set_option maxRecDepth 20000 in
set_option maxHeartbeats 4000000 in
theorem b_X9_findKey_80 {g : mG} {l : Launch} (hg : mnn g = 101) (N : Nat) (v1 : Int32) (h : mH) : mw g l 2 mX9_findKey (fun r : mH => ((none : Option Value), r)) 80 [(0, .ref (mad g 82)), (1, .int v1)] [] h (x_X9_findKey_80 N v1 h) := by
  unfold x_X9_findKey_80
  refine mw_iconst (n := 81) (v := 0) dX9_findKey_80 rfl (by decide) ?_
  refine mw_istore_n (n := 82) dX9_findKey_81 rfl rfl (by decide) rfl ?_
  refine mw_sub [1, 2, 0] rfl ?_
  exact b_X9_findKey_82 hg N v1 N (0 : Int32) h
noncomputable def x_X9_findKey_74 (N : Nat) (self36 : Int32 → mH → Option (mH)) (v1 : Int32) (v2 : Int32) (h : mH) : Option (mH) :=
  self36 (v2 + (1 : Int32)) h
set_option maxRecDepth 20000 in
set_option maxHeartbeats 4000000 in
theorem b_X9_findKey_74 {g : mG} {l : Launch} (hg : mnn g = 101) (N : Nat) (v1 : Int32) (v2 : Int32) (self36 : Int32 → mH → Option (mH)) (hself36 : ∀ (v2 : Int32) (h : mH), mw g l 2 mX9_findKey (fun r : mH => ((none : Option Value), r)) 36 [(0, .ref (mad g 82)), (1, .int v1), (2, .int v2)] [] h (self36 v2 h)) (h : mH) : mw g l 2 mX9_findKey (fun r : mH => ((none : Option Value), r)) 74 [(0, .ref (mad g 82)), (1, .int v1), (2, .int v2)] [] h (x_X9_findKey_74 N self36 v1 v2 h) := by
  unfold x_X9_findKey_74
  refine mw_iinc (n := 77) (q := 2) (v := (v2 + (1 : Int32))) dX9_findKey_74 rfl rfl rfl (by decide) rfl ?_
  refine mw_goto (n := 36) dX9_findKey_77 (by decide) ?_
  refine mw_sub [1, 2, 0] rfl ?_
  exact hself36 (v2 + (1 : Int32)) h
noncomputable def x_X9_findKey_36 (N : Nat) (v1 : Int32) (f : Nat) : Int32 → mH → Option (mH) :=
  Nat.rec (motive := fun _ => Int32 → mH → Option (mH)) (fun _ _ => none) (fun _ self36 => fun v2 h => 
    if v1 ≤ v2 then
      x_X9_findKey_80 N v1 h
    else
      if ¬ (mgi h 82 24) = (-9 : Int32) then
        x_X9_findKey_80 N v1 h
      else
        (x_X9_cellBit v2 h).bind fun q3 =>
        (x_X9_tells N q3 h).bind fun q4 =>
        if q4 = 0 then
          x_X9_findKey_74 N self36 v1 v2 h
        else
          mlet (msi h 82 24 (1 : Int32)) fun h6 =>
          mlet (msi h6 82 25 (v2 + (1 : Int32))) fun h7 =>
          x_X9_findKey_74 N self36 v1 v2 h7) f
theorem x_X9_findKey_36_0 (N : Nat) (v1 : Int32) (v2 : Int32) (h : mH) : x_X9_findKey_36 N v1 0 v2 h = none := rfl
theorem x_X9_findKey_36_s (N : Nat) (v1 : Int32) (f : Nat) (v2 : Int32) (h : mH) : x_X9_findKey_36 N v1 (f + 1) v2 h = (
    if v1 ≤ v2 then
      x_X9_findKey_80 N v1 h
    else
      if ¬ (mgi h 82 24) = (-9 : Int32) then
        x_X9_findKey_80 N v1 h
      else
        (x_X9_cellBit v2 h).bind fun q3 =>
        (x_X9_tells N q3 h).bind fun q4 =>
        if q4 = 0 then
          x_X9_findKey_74 N (x_X9_findKey_36 N v1 f) v1 v2 h
        else
          mlet (msi h 82 24 (1 : Int32)) fun h6 =>
          mlet (msi h6 82 25 (v2 + (1 : Int32))) fun h7 =>
          x_X9_findKey_74 N (x_X9_findKey_36 N v1 f) v1 v2 h7) := rfl
set_option maxRecDepth 20000 in
set_option maxHeartbeats 4000000 in
theorem b_X9_findKey_36 {g : mG} {l : Launch} (hg : mnn g = 101) (N : Nat) (v1 : Int32) (f : Nat) : ∀ (v2 : Int32) (h : mH), mw g l 2 mX9_findKey (fun r : mH => ((none : Option Value), r)) 36 [(0, .ref (mad g 82)), (1, .int v1), (2, .int v2)] [] h (x_X9_findKey_36 N v1 f v2 h) := by
  induction f with
  | zero => intros; exact mw_none
  | succ f hself36 =>
    intro v2 h
    refine mw_eq (x_X9_findKey_36_s N v1 f v2 h) ?_
    generalize x_X9_findKey_36 N v1 f = self36 at hself36 ⊢
    refine mw_iload_n (n := 37) (q := 2) dX9_findKey_36 rfl rfl rfl ?_
    refine mw_iload_n (n := 38) (q := 1) dX9_findKey_37 rfl rfl rfl ?_
    refine mw_icmp_ge (n := 41) (t := 80) dX9_findKey_38 rfl (by decide) Iff.rfl (fun c1 => ?_) (fun c1 => ?_)
    · refine mw_sub [0, 1] rfl ?_
      exact b_X9_findKey_80 hg N v1 h
    · refine mw_aload_n (n := 42) (q := 0) dX9_findKey_41 rfl rfl rfl ?_
      refine mw_geti (n := 45) (a := 82) (k := 24) cl9 (mkm hg (by decide) (by rfl)) (by decide) rfl rfl fl_X9_214 dX9_findKey_42 rfl ?_
      refine mw_bipush (n := 47) (v := -9) dX9_findKey_45 rfl (by decide) ?_
      refine mw_icmp_ne (n := 50) (t := 80) dX9_findKey_47 rfl (by decide) Iff.rfl (fun c2 => ?_) (fun c2 => ?_)
      · refine mw_sub [0, 1] rfl ?_
        exact b_X9_findKey_80 hg N v1 h
      · refine mw_aload_n (n := 51) (q := 0) dX9_findKey_50 rfl rfl rfl ?_
        refine mw_aload_n (n := 52) (q := 0) dX9_findKey_51 rfl rfl rfl ?_
        refine mw_iload_n (n := 53) (q := 2) dX9_findKey_52 rfl rfl rfl ?_
        refine mw_callV (n := 56) (a := 82) (As := [.int v2]) cl9 (mkm hg (by decide) (by rfl)) (t_X9_cellBit hg v2 h) (by decide) ok_X9_cellBit rfl rfl lk_X9_220 im_X9_cellBit se_X9_cellBit dX9_findKey_53 rfl rfl (Nat.le_of_ble_eq_true rfl) (fun q3 _ => ?_)
        show mw g l _ _ _ 56 _ [.int q3, .ref (mad g 82)] h _
        refine mw_callV (n := 59) (a := 82) (As := [.int q3]) cl9 (mkm hg (by decide) (by rfl)) (t_X9_tells hg N q3 h) (by decide) ok_X9_tells rfl rfl lk_X9_211 im_X9_tells se_X9_tells dX9_findKey_56 rfl rfl (Nat.le_of_ble_eq_true rfl) (fun q4 _ => ?_)
        show mw g l _ _ _ 59 _ [.int q4] h _
        refine mw_if_eq (n := 62) (t := 74) dX9_findKey_59 rfl (by decide) Iff.rfl (fun c5 => ?_) (fun c5 => ?_)
        · exact b_X9_findKey_74 hg N v1 v2 self36 hself36 h
        · refine mw_aload_n (n := 63) (q := 0) dX9_findKey_62 rfl rfl rfl ?_
          refine mw_iconst (n := 64) (v := 1) dX9_findKey_63 rfl (by decide) ?_
          refine mw_puti (n := 67) (a := 82) (k := 24) cl9 ct9 (mkm hg (by decide) (by rfl)) (by decide) rfl rfl rfl rfl fl_X9_214 dX9_findKey_64 rfl (mw_leth (fun h6 => ?_))
          refine mw_aload_n (n := 68) (q := 0) dX9_findKey_67 rfl rfl rfl ?_
          refine mw_iload_n (n := 69) (q := 2) dX9_findKey_68 rfl rfl rfl ?_
          refine mw_iconst (n := 70) (v := 1) dX9_findKey_69 rfl (by decide) ?_
          refine mw_iadd (n := 71) dX9_findKey_70 rfl ?_
          refine mw_puti (n := 74) (a := 82) (k := 25) cl9 ct9 (mkm hg (by decide) (by rfl)) (by decide) rfl rfl rfl rfl fl_X9_217 dX9_findKey_71 rfl (mw_leth (fun h7 => ?_))
          exact b_X9_findKey_74 hg N v1 v2 self36 hself36 h7
noncomputable def x_X9_findKey (N : Nat) (h : mH) : Option (mH) :=
  (x_X9_cells 85 h).bind fun q1 =>
  (x_X9_tells N (0 : Int32) h).bind fun q2 =>
  mlet (msi h 82 24 (if q2 = 0 then (-9 : Int32) else (0 : Int32))) fun h4 =>
  mlet (msi h4 82 25 (mgi h4 82 24)) fun h5 =>
  x_X9_findKey_36 N q1 N (0 : Int32) h5
set_option maxRecDepth 20000 in
set_option maxHeartbeats 4000000 in
theorem t_X9_findKey {g : mG} {l : Launch} (hg : mnn g = 101) (N : Nat) (h : mH) : mf g l 2 mX9_findKey (fun r : mH => ((none : Option Value), r)) [.ref (mad g 82)] h (x_X9_findKey N h) := by
  refine mf_of (by decide) (Nat.le_of_ble_eq_true rfl) ?_
  show mw g l 2 mX9_findKey (fun r : mH => ((none : Option Value), r)) 0 [(0, .ref (mad g 82))] [] h _
  unfold x_X9_findKey
  refine mw_aload_n (n := 1) (q := 0) dX9_findKey_0 rfl rfl rfl ?_
  refine mw_getr (n := 4) (a := 82) (k := 4) cl9 (mkm hg (by decide) (by rfl)) (by decide) rfl rfl fl_X9_16 dX9_findKey_1 rfl ?_
  refine mw_callS (n := 7) (As := [.ref (mad g 85)]) (t_X9_cells hg 85 (mkm hg (by decide) (by rfl)) h) (by decide) ok_X9_cells rfl lk_X9_69 sm_X9_cells dX9_findKey_4 rfl rfl (Nat.le_of_ble_eq_true rfl) (fun q1 _ => ?_)
  show mw g l _ _ _ 7 _ [.int q1] h _
  refine mw_istore_n (n := 8) dX9_findKey_7 rfl rfl (by decide) rfl ?_
  refine mw_aload_n (n := 9) (q := 1) dX9_findKey_8 rfl rfl rfl ?_
  refine mw_aload_n (n := 10) (q := 1) dX9_findKey_9 rfl rfl rfl ?_
  refine mw_iconst (n := 11) (v := 0) dX9_findKey_10 rfl (by decide) ?_
  refine mw_callV (n := 14) (a := 82) (As := [.int (0 : Int32)]) cl9 (mkm hg (by decide) (by rfl)) (t_X9_tells hg N (0 : Int32) h) (by decide) ok_X9_tells rfl rfl lk_X9_211 im_X9_tells se_X9_tells dX9_findKey_11 rfl rfl (Nat.le_of_ble_eq_true rfl) (fun q2 _ => ?_)
  show mw g l _ _ _ 14 _ [.int q2, .ref (mad g 82)] h _
  refine mw_cutJ (pc' := 23) (lv' := [(1, .int q1), (0, .ref (mad g 82))]) (st' := [.int (if q2 = 0 then (-9 : Int32) else (0 : Int32)), .ref (mad g 82)]) (fun J => ?_) ?_
  · refine mw_if_eq_m (n := 17) (t := 21) dX9_findKey_14 rfl (by decide) (fun c3 => ?_) (fun c3 => ?_)
    · refine mw_bipush (n := 23) (v := -9) dX9_findKey_21 rfl (by decide) ?_
      exact mw_topeq (if_pos c3).symm J
    · refine mw_iconst (n := 18) (v := 0) dX9_findKey_17 rfl (by decide) ?_
      refine mw_goto (n := 23) dX9_findKey_18 (by decide) ?_
      exact mw_topeq (if_neg c3).symm J
  refine mw_puti (n := 26) (a := 82) (k := 24) cl9 ct9 (mkm hg (by decide) (by rfl)) (by decide) rfl rfl rfl rfl fl_X9_214 dX9_findKey_23 rfl (mw_leth (fun h4 => ?_))
  refine mw_aload_n (n := 27) (q := 1) dX9_findKey_26 rfl rfl rfl ?_
  refine mw_aload_n (n := 28) (q := 1) dX9_findKey_27 rfl rfl rfl ?_
  refine mw_geti (n := 31) (a := 82) (k := 24) cl9 (mkm hg (by decide) (by rfl)) (by decide) rfl rfl fl_X9_214 dX9_findKey_28 rfl ?_
  refine mw_puti (n := 34) (a := 82) (k := 25) cl9 ct9 (mkm hg (by decide) (by rfl)) (by decide) rfl rfl rfl rfl fl_X9_217 dX9_findKey_31 rfl (mw_leth (fun h5 => ?_))
  refine mw_iconst (n := 35) (v := 0) dX9_findKey_34 rfl (by decide) ?_
  refine mw_istore_n (n := 36) dX9_findKey_35 rfl rfl (by decide) rfl ?_
  refine mw_sub [2, 1, 0] rfl ?_
  exact b_X9_findKey_36 hg N q1 N (0 : Int32) h5
noncomputable def x_X9_key (N : Nat) (p0 : Int32) (h : mH) : Option (Int32 × mH) :=
  mlet (msi h 82 0 (0 : Int32)) fun h1 =>
  (x_X9_in ((p0).toInt64) (0 : Int64) (1 : Int64)).bind fun q2 =>
  if ¬ q2 = 0 then
    (x_X9_list N 85 (1 : Int32) h1).bind fun q4 =>
    if ¬ (mgi q4 85 31) = (-9 : Int32) then
      (x_X9_findKey N q4).bind fun q6 =>
      some ((if ¬ p0 = 0 then (mgi q6 82 25) else (mgi q6 82 24)), q6)
    else
      some ((-9 : Int32), q4)
  else
    some ((-2 : Int32), h1)
set_option maxRecDepth 20000 in
set_option maxHeartbeats 4000000 in
theorem t_X9_key {g : mG} {l : Launch} (hg : mnn g = 101) (N : Nat) (p0 : Int32) (h : mH) : mf g l 3 mX9_key (fun r : Int32 × mH => (some (Value.int r.1), r.2)) [.ref (mad g 82), .int p0] h (x_X9_key N p0 h) := by
  refine mf_of (by decide) (Nat.le_of_ble_eq_true rfl) ?_
  show mw g l 3 mX9_key (fun r : Int32 × mH => (some (Value.int r.1), r.2)) 0 [(0, .ref (mad g 82)), (1, .int p0)] [] h _
  unfold x_X9_key
  refine mw_aload_n (n := 1) (q := 0) dX9_key_0 rfl rfl rfl ?_
  refine mw_iconst (n := 2) (v := 0) dX9_key_1 rfl (by decide) ?_
  refine mw_puti (n := 5) (a := 82) (k := 0) cl9 ct9 (mkm hg (by decide) (by rfl)) (by decide) rfl rfl rfl rfl fl_X9_65 dX9_key_2 rfl (mw_leth (fun h1 => ?_))
  refine mw_iload_n (n := 6) (q := 1) dX9_key_5 rfl rfl rfl ?_
  refine mw_i2l (n := 7) dX9_key_6 rfl ?_
  refine mw_lconst (n := 8) (v := 0) dX9_key_7 rfl (by decide) ?_
  refine mw_lconst (n := 9) (v := 1) dX9_key_8 rfl (by decide) ?_
  refine mw_callS (n := 12) (As := [.long (p0).toInt64, .long (0 : Int64), .long (1 : Int64)]) (t_X9_in hg ((p0).toInt64) (0 : Int64) (1 : Int64) h1) (by decide) ok_X9_in rfl lk_X9_77 sm_X9_in dX9_key_9 rfl rfl (Nat.le_of_ble_eq_true rfl) (fun q2 _ => ?_)
  show mw g l _ _ _ 12 _ [.int q2] h1 _
  refine mw_if_ne (n := 15) (t := 18) dX9_key_12 rfl (by decide) Iff.rfl (fun c3 => ?_) (fun c3 => ?_)
  · refine mw_aload_n (n := 19) (q := 0) dX9_key_18 rfl rfl rfl ?_
    refine mw_aload_n (n := 20) (q := 0) dX9_key_19 rfl rfl rfl ?_
    refine mw_getr (n := 23) (a := 82) (k := 4) cl9 (mkm hg (by decide) (by rfl)) (by decide) rfl rfl fl_X9_16 dX9_key_20 rfl ?_
    refine mw_iconst (n := 24) (v := 1) dX9_key_23 rfl (by decide) ?_
    refine mw_callV (n := 27) (a := 82) (As := [.ref (mad g 85), .int (1 : Int32)]) cl9 (mkm hg (by decide) (by rfl)) (t_X9_list hg N 85 (1 : Int32) (mkm hg (by decide) (by rfl)) h1) (by decide) ok_X9_list rfl rfl lk_X9_122 im_X9_list se_X9_list dX9_key_24 rfl rfl (Nat.le_of_ble_eq_true rfl) (fun q4 _ => ?_)
    show mw g l _ _ _ 27 _ [] q4 _
    refine mw_aload_n (n := 28) (q := 0) dX9_key_27 rfl rfl rfl ?_
    refine mw_getr (n := 31) (a := 82) (k := 4) cl9 (mkm hg (by decide) (by rfl)) (by decide) rfl rfl fl_X9_16 dX9_key_28 rfl ?_
    refine mw_bipush (n := 33) (v := 31) dX9_key_31 rfl (by decide) ?_
    refine mw_iaLd (n := 34) (a := 85) (j := 31) (N := 32) (mkm hg (by decide) (by rfl)) (by decide) (by decide) dX9_key_33 rfl ?_
    refine mw_bipush (n := 36) (v := -9) dX9_key_34 rfl (by decide) ?_
    refine mw_icmp_ne (n := 39) (t := 42) dX9_key_36 rfl (by decide) Iff.rfl (fun c5 => ?_) (fun c5 => ?_)
    · refine mw_aload_n (n := 43) (q := 0) dX9_key_42 rfl rfl rfl ?_
      refine mw_callV (n := 46) (a := 82) (As := []) cl9 (mkm hg (by decide) (by rfl)) (t_X9_findKey hg N q4) (by decide) ok_X9_findKey rfl rfl lk_X9_223 im_X9_findKey se_X9_findKey dX9_key_43 rfl rfl (Nat.le_of_ble_eq_true rfl) (fun q6 _ => ?_)
      show mw g l _ _ _ 46 _ [] q6 _
      refine mw_iload_n (n := 47) (q := 1) dX9_key_46 rfl rfl rfl ?_
      refine mw_cutJ (pc' := 61) (lv' := [(0, .ref (mad g 82)), (1, .int p0)]) (st' := [.int (if ¬ p0 = 0 then (mgi q6 82 25) else (mgi q6 82 24))]) (fun J => ?_) ?_
      · refine mw_if_ne_m (n := 50) (t := 57) dX9_key_47 rfl (by decide) (fun c7 => ?_) (fun c7 => ?_)
        · refine mw_aload_n (n := 58) (q := 0) dX9_key_57 rfl rfl rfl ?_
          refine mw_geti (n := 61) (a := 82) (k := 25) cl9 (mkm hg (by decide) (by rfl)) (by decide) rfl rfl fl_X9_217 dX9_key_58 rfl ?_
          exact mw_topeq (if_pos c7).symm J
        · refine mw_aload_n (n := 51) (q := 0) dX9_key_50 rfl rfl rfl ?_
          refine mw_geti (n := 54) (a := 82) (k := 24) cl9 (mkm hg (by decide) (by rfl)) (by decide) rfl rfl fl_X9_214 dX9_key_51 rfl ?_
          refine mw_goto (n := 61) dX9_key_54 (by decide) ?_
          exact mw_topeq (if_neg c7).symm J
      exact mw_iret dX9_key_61 rfl rfl
    · refine mw_bipush (n := 41) (v := -9) dX9_key_39 rfl (by decide) ?_
      exact mw_iret dX9_key_41 rfl rfl
  · refine mw_bipush (n := 17) (v := -2) dX9_key_15 rfl (by decide) ?_
    exact mw_iret dX9_key_17 rfl rfl
noncomputable def x_X9_longPower_5 (N : Nat) (v0 : Int64) (v2 : Int32) (f : Nat) : Int64 → Int32 → Option (Int64) :=
  Nat.rec (motive := fun _ => Int64 → Int32 → Option (Int64)) (fun _ _ => none) (fun _ self5 => fun v3 v5 => 
    if v2 ≤ v5 then
      some v3
    else
      mlet (v3 * v0) fun u2 =>
      self5 u2 (v5 + (1 : Int32))) f
theorem x_X9_longPower_5_0 (N : Nat) (v0 : Int64) (v2 : Int32) (v3 : Int64) (v5 : Int32) : x_X9_longPower_5 N v0 v2 0 v3 v5 = none := rfl
theorem x_X9_longPower_5_s (N : Nat) (v0 : Int64) (v2 : Int32) (f : Nat) (v3 : Int64) (v5 : Int32) : x_X9_longPower_5 N v0 v2 (f + 1) v3 v5 = (
    if v2 ≤ v5 then
      some v3
    else
      mlet (v3 * v0) fun u2 =>
      (x_X9_longPower_5 N v0 v2 f) u2 (v5 + (1 : Int32))) := rfl
set_option maxRecDepth 20000 in
set_option maxHeartbeats 4000000 in
theorem b_X9_longPower_5 {g : mG} {l : Launch} (hg : mnn g = 101) (N : Nat) (v0 : Int64) (v2 : Int32) (h : mH) (f : Nat) : ∀ (v3 : Int64) (v5 : Int32), mw g l 0 mX9_longPower (fun r : Int64 => (some (Value.long r), h)) 5 [(0, .long v0), (2, .int v2), (3, .long v3), (5, .int v5)] [] h (x_X9_longPower_5 N v0 v2 f v3 v5) := by
  induction f with
  | zero => intros; exact mw_none
  | succ f hself5 =>
    intro v3 v5
    refine mw_eq (x_X9_longPower_5_s N v0 v2 f v3 v5) ?_
    generalize x_X9_longPower_5 N v0 v2 f = self5 at hself5 ⊢
    refine mw_iload (n := 7) (q := 3) dX9_longPower_5 rfl rfl ?_
    refine mw_iload_n (n := 8) (q := 1) dX9_longPower_7 rfl rfl rfl ?_
    refine mw_icmp_ge (n := 11) (t := 21) dX9_longPower_8 rfl (by decide) Iff.rfl (fun c1 => ?_) (fun c1 => ?_)
    · refine mw_lload_n (n := 22) (q := 2) dX9_longPower_21 rfl rfl rfl ?_
      exact mw_lret dX9_longPower_22 rfl rfl
    · refine mw_lload_n (n := 12) (q := 2) dX9_longPower_11 rfl rfl rfl ?_
      refine mw_lload_n (n := 13) (q := 0) dX9_longPower_12 rfl rfl rfl ?_
      refine mw_lmul (n := 14) dX9_longPower_13 rfl ?_
      refine mw_letJ (fun u2 => ?_)
      refine mw_lstore_n (n := 15) dX9_longPower_14 rfl rfl (by decide) rfl ?_
      refine mw_iinc (n := 18) (q := 3) (v := (v5 + (1 : Int32))) dX9_longPower_15 rfl rfl rfl (by decide) rfl ?_
      refine mw_goto (n := 5) dX9_longPower_18 (by decide) ?_
      refine mw_sub [2, 3, 1, 0] rfl ?_
      exact hself5 u2 (v5 + (1 : Int32))
noncomputable def x_X9_longPower (N : Nat) (p0 : Int64) (p1 : Int32) : Option (Int64) :=
  x_X9_longPower_5 N p0 p1 N (1 : Int64) (0 : Int32)
set_option maxRecDepth 20000 in
set_option maxHeartbeats 4000000 in
theorem t_X9_longPower {g : mG} {l : Launch} (hg : mnn g = 101) (N : Nat) (p0 : Int64) (p1 : Int32) (h : mH) : mf g l 0 mX9_longPower (fun r : Int64 => (some (Value.long r), h)) [.long p0, .int p1] h (x_X9_longPower N p0 p1) := by
  refine mf_of (by decide) (Nat.le_of_ble_eq_true rfl) ?_
  show mw g l 0 mX9_longPower (fun r : Int64 => (some (Value.long r), h)) 0 [(0, .long p0), (2, .int p1)] [] h _
  unfold x_X9_longPower
  refine mw_lconst (n := 1) (v := 1) dX9_longPower_0 rfl (by decide) ?_
  refine mw_lstore_n (n := 2) dX9_longPower_1 rfl rfl (by decide) rfl ?_
  refine mw_iconst (n := 3) (v := 0) dX9_longPower_2 rfl (by decide) ?_
  refine mw_istore (n := 5) dX9_longPower_3 rfl (by decide) rfl ?_
  refine mw_sub [2, 3, 1, 0] rfl ?_
  exact b_X9_longPower_5 hg N p0 p1 h N (1 : Int64) (0 : Int32)
noncomputable def x_X9_putTotal_50 (N : Nat) (v1 : Int32) (v2 : Int32) (v3 : Int32) (s0 : Int32) (h : mH) : Option (Int32 × mH) :=
  if s0 = 0 then
    mzc s0 (some (s0, h))
  else
    (x_X9_totalAt v1 v2).bind fun q2 =>
    mck q2 32 <|
    mlet (msi h 86 (q2).toNatClampNeg v3) fun h3 =>
    (x_X9_settle N 86 h3).bind fun q4 =>
    mzc s0 (some (s0, q4))
set_option maxRecDepth 20000 in
set_option maxHeartbeats 4000000 in
theorem b_X9_putTotal_50 {g : mG} {l : Launch} (hg : mnn g = 101) (N : Nat) (v1 : Int32) (v2 : Int32) (v3 : Int32) (s0 : Int32) (h : mH) : mw g l 4 mX9_putTotal (fun r : Int32 × mH => (some (Value.int r.1), r.2)) 50 [(0, .ref (mad g 82)), (1, .int v1), (2, .int v2), (3, .int v3)] [.int s0] h (x_X9_putTotal_50 N v1 v2 v3 s0 h) := by
  unfold x_X9_putTotal_50
  refine mw_istore (n := 52) dX9_putTotal_50 rfl (by decide) rfl ?_
  refine mw_iload (n := 54) (q := 0) dX9_putTotal_52 rfl rfl ?_
  refine mw_if_eq (n := 57) (t := 76) dX9_putTotal_54 rfl (by decide) Iff.rfl (fun c1 => ?_) (fun c1 => ?_)
  · refine mw_iload (n := 78) (q := 0) dX9_putTotal_76 rfl rfl ?_
    exact mw_zretC dX9_putTotal_78 rfl rfl
  · refine mw_aload_n (n := 58) (q := 1) dX9_putTotal_57 rfl rfl rfl ?_
    refine mw_getr (n := 61) (a := 82) (k := 5) cl9 (mkm hg (by decide) (by rfl)) (by decide) rfl rfl fl_X9_19 dX9_putTotal_58 rfl ?_
    refine mw_iload_n (n := 62) (q := 2) dX9_putTotal_61 rfl rfl rfl ?_
    refine mw_iload_n (n := 63) (q := 3) dX9_putTotal_62 rfl rfl rfl ?_
    refine mw_callS (n := 66) (As := [.int v1, .int v2]) (t_X9_totalAt hg v1 v2 h) (by decide) ok_X9_totalAt rfl lk_X9_143 sm_X9_totalAt dX9_putTotal_63 rfl rfl (Nat.le_of_ble_eq_true rfl) (fun q2 _ => ?_)
    show mw g l _ _ _ 66 _ [.int q2, .ref (mad g 86)] h _
    refine mw_iload_n (n := 67) (q := 4) dX9_putTotal_66 rfl rfl rfl ?_
    refine mw_iast (n := 68) (a := 86) (N := 32) (mkm hg (by decide) (by rfl)) dX9_putTotal_67 rfl (mw_leth (fun h3 => ?_))
    refine mw_aload_n (n := 69) (q := 1) dX9_putTotal_68 rfl rfl rfl ?_
    refine mw_aload_n (n := 70) (q := 1) dX9_putTotal_69 rfl rfl rfl ?_
    refine mw_getr (n := 73) (a := 82) (k := 5) cl9 (mkm hg (by decide) (by rfl)) (by decide) rfl rfl fl_X9_19 dX9_putTotal_70 rfl ?_
    refine mw_callV (n := 76) (a := 82) (As := [.ref (mad g 86)]) cl9 (mkm hg (by decide) (by rfl)) (t_X9_settle hg N 86 (mkm hg (by decide) (by rfl)) h3) (by decide) ok_X9_settle rfl rfl lk_X9_133 im_X9_settle se_X9_settle dX9_putTotal_73 rfl rfl (Nat.le_of_ble_eq_true rfl) (fun q4 _ => ?_)
    show mw g l _ _ _ 76 _ [] q4 _
    refine mw_iload (n := 78) (q := 0) dX9_putTotal_76 rfl rfl ?_
    exact mw_zretC dX9_putTotal_78 rfl rfl
noncomputable def x_X9_putTotal_49 (N : Nat) (v1 : Int32) (v2 : Int32) (v3 : Int32) (h : mH) : Option (Int32 × mH) :=
  x_X9_putTotal_50 N v1 v2 v3 (0 : Int32) h
set_option maxRecDepth 20000 in
set_option maxHeartbeats 4000000 in
theorem b_X9_putTotal_49 {g : mG} {l : Launch} (hg : mnn g = 101) (N : Nat) (v1 : Int32) (v2 : Int32) (v3 : Int32) (h : mH) : mw g l 4 mX9_putTotal (fun r : Int32 × mH => (some (Value.int r.1), r.2)) 49 [(0, .ref (mad g 82)), (1, .int v1), (2, .int v2), (3, .int v3)] [] h (x_X9_putTotal_49 N v1 v2 v3 h) := by
  unfold x_X9_putTotal_49
  refine mw_iconst (n := 50) (v := 0) dX9_putTotal_49 rfl (by decide) ?_
  exact b_X9_putTotal_50 hg N v1 v2 v3 (0 : Int32) h
noncomputable def x_X9_putTotal (N : Nat) (p0 : Int32) (p1 : Int32) (p2 : Int32) (h : mH) : Option (Int32 × mH) :=
  if (2 : Int32) ≤ p0 then
    x_X9_putTotal_49 N p0 p1 p2 h
  else
    mck (if (2 : Int32) ≤ p0 then (0 : Int32) else p0) 32 <|
    if (mgi h 86 ((if (2 : Int32) ≤ p0 then (0 : Int32) else p0)).toNatClampNeg) ≤ p1 then
      x_X9_putTotal_49 N p0 p1 p2 h
    else
      mck (if (2 : Int32) ≤ p0 then (0 : Int32) else ((1 : Int32) - p0)) 32 <|
      mlet (if (mgi h 86 ((if (2 : Int32) ≤ p0 then (0 : Int32) else ((1 : Int32) - p0))).toNatClampNeg) < p2 then (0 : Int32) else (1 : Int32)) fun u6 =>
      if u6 = 0 then
        mzc u6 (some (u6, h))
      else
        (x_X9_totalAt p0 p1).bind fun q8 =>
        mck q8 32 <|
        mlet (msi h 86 (q8).toNatClampNeg p2) fun h9 =>
        (x_X9_settle N 86 h9).bind fun q10 =>
        mzc u6 (some (u6, q10))
set_option maxRecDepth 20000 in
set_option maxHeartbeats 4000000 in
theorem t_X9_putTotal {g : mG} {l : Launch} (hg : mnn g = 101) (N : Nat) (p0 : Int32) (p1 : Int32) (p2 : Int32) (h : mH) : mf g l 4 mX9_putTotal (fun r : Int32 × mH => (some (Value.int r.1), r.2)) [.ref (mad g 82), .int p0, .int p1, .int p2] h (x_X9_putTotal N p0 p1 p2 h) := by
  refine mf_of (by decide) (Nat.le_of_ble_eq_true rfl) ?_
  show mw g l 4 mX9_putTotal (fun r : Int32 × mH => (some (Value.int r.1), r.2)) 0 [(0, .ref (mad g 82)), (1, .int p0), (2, .int p1), (3, .int p2)] [] h _
  unfold x_X9_putTotal
  refine mw_iload_n (n := 1) (q := 1) dX9_putTotal_0 rfl rfl rfl ?_
  refine mw_iconst (n := 2) (v := 2) dX9_putTotal_1 rfl (by decide) ?_
  refine mw_icmp_ge (n := 5) (t := 49) dX9_putTotal_2 rfl (by decide) Iff.rfl (fun c1 => ?_) (fun c1 => ?_)
  · exact b_X9_putTotal_49 hg N p0 p1 p2 h
  · refine mw_iload_n (n := 6) (q := 2) dX9_putTotal_5 rfl rfl rfl ?_
    refine mw_aload_n (n := 7) (q := 0) dX9_putTotal_6 rfl rfl rfl ?_
    refine mw_getr (n := 10) (a := 82) (k := 5) cl9 (mkm hg (by decide) (by rfl)) (by decide) rfl rfl fl_X9_19 dX9_putTotal_7 rfl ?_
    refine mw_iload_n (n := 11) (q := 1) dX9_putTotal_10 rfl rfl rfl ?_
    refine mw_iconst (n := 12) (v := 2) dX9_putTotal_11 rfl (by decide) ?_
    refine mw_cutJ (pc' := 20) (lv' := [(0, .ref (mad g 82)), (1, .int p0), (2, .int p1), (3, .int p2)]) (st' := [.int (if (2 : Int32) ≤ p0 then (0 : Int32) else p0), .ref (mad g 86), .int p1]) (fun J => ?_) ?_
    · refine mw_icmp_ge_m (n := 15) (t := 19) dX9_putTotal_12 rfl (by decide) (fun c2 => ?_) (fun c2 => ?_)
      · refine mw_iconst (n := 20) (v := 0) dX9_putTotal_19 rfl (by decide) ?_
        exact mw_topeq (if_pos c2).symm J
      · refine mw_iload_n (n := 16) (q := 1) dX9_putTotal_15 rfl rfl rfl ?_
        refine mw_goto (n := 20) dX9_putTotal_16 (by decide) ?_
        exact mw_topeq (if_neg c2).symm J
    refine mw_iald (n := 21) (a := 86) (N := 32) (mkm hg (by decide) (by rfl)) dX9_putTotal_20 rfl ?_
    refine mw_icmp_ge (n := 24) (t := 49) dX9_putTotal_21 rfl (by decide) Iff.rfl (fun c3 => ?_) (fun c3 => ?_)
    · exact b_X9_putTotal_49 hg N p0 p1 p2 h
    · refine mw_iload_n (n := 25) (q := 3) dX9_putTotal_24 rfl rfl rfl ?_
      refine mw_aload_n (n := 26) (q := 0) dX9_putTotal_25 rfl rfl rfl ?_
      refine mw_getr (n := 29) (a := 82) (k := 5) cl9 (mkm hg (by decide) (by rfl)) (by decide) rfl rfl fl_X9_19 dX9_putTotal_26 rfl ?_
      refine mw_iload_n (n := 30) (q := 1) dX9_putTotal_29 rfl rfl rfl ?_
      refine mw_iconst (n := 31) (v := 2) dX9_putTotal_30 rfl (by decide) ?_
      refine mw_cutJ (pc' := 41) (lv' := [(0, .ref (mad g 82)), (1, .int p0), (2, .int p1), (3, .int p2)]) (st' := [.int (if (2 : Int32) ≤ p0 then (0 : Int32) else ((1 : Int32) - p0)), .ref (mad g 86), .int p2]) (fun J => ?_) ?_
      · refine mw_icmp_ge_m (n := 34) (t := 40) dX9_putTotal_31 rfl (by decide) (fun c4 => ?_) (fun c4 => ?_)
        · refine mw_iconst (n := 41) (v := 0) dX9_putTotal_40 rfl (by decide) ?_
          exact mw_topeq (if_pos c4).symm J
        · refine mw_iconst (n := 35) (v := 1) dX9_putTotal_34 rfl (by decide) ?_
          refine mw_iload_n (n := 36) (q := 1) dX9_putTotal_35 rfl rfl rfl ?_
          refine mw_isub (n := 37) dX9_putTotal_36 rfl ?_
          refine mw_goto (n := 41) dX9_putTotal_37 (by decide) ?_
          exact mw_topeq (if_neg c4).symm J
      refine mw_iald (n := 42) (a := 86) (N := 32) (mkm hg (by decide) (by rfl)) dX9_putTotal_41 rfl ?_
      refine mw_cutJ (pc' := 50) (lv' := [(0, .ref (mad g 82)), (1, .int p0), (2, .int p1), (3, .int p2)]) (st' := [.int (if (mgi h 86 ((if (2 : Int32) ≤ p0 then (0 : Int32) else ((1 : Int32) - p0))).toNatClampNeg) < p2 then (0 : Int32) else (1 : Int32))]) (fun J => ?_) ?_
      · refine mw_icmp_gt_m (n := 45) (t := 49) dX9_putTotal_42 rfl (by decide) (fun c5 => ?_) (fun c5 => ?_)
        · refine mw_iconst (n := 50) (v := 0) dX9_putTotal_49 rfl (by decide) ?_
          exact mw_topeq (if_pos c5).symm J
        · refine mw_iconst (n := 46) (v := 1) dX9_putTotal_45 rfl (by decide) ?_
          refine mw_goto (n := 50) dX9_putTotal_46 (by decide) ?_
          exact mw_topeq (if_neg c5).symm J
      refine mw_letI (fun u6 => ?_)
      refine mw_istore (n := 52) dX9_putTotal_50 rfl (by decide) rfl ?_
      refine mw_iload (n := 54) (q := 0) dX9_putTotal_52 rfl rfl ?_
      refine mw_if_eq (n := 57) (t := 76) dX9_putTotal_54 rfl (by decide) Iff.rfl (fun c7 => ?_) (fun c7 => ?_)
      · refine mw_iload (n := 78) (q := 0) dX9_putTotal_76 rfl rfl ?_
        exact mw_zretC dX9_putTotal_78 rfl rfl
      · refine mw_aload_n (n := 58) (q := 1) dX9_putTotal_57 rfl rfl rfl ?_
        refine mw_getr (n := 61) (a := 82) (k := 5) cl9 (mkm hg (by decide) (by rfl)) (by decide) rfl rfl fl_X9_19 dX9_putTotal_58 rfl ?_
        refine mw_iload_n (n := 62) (q := 2) dX9_putTotal_61 rfl rfl rfl ?_
        refine mw_iload_n (n := 63) (q := 3) dX9_putTotal_62 rfl rfl rfl ?_
        refine mw_callS (n := 66) (As := [.int p0, .int p1]) (t_X9_totalAt hg p0 p1 h) (by decide) ok_X9_totalAt rfl lk_X9_143 sm_X9_totalAt dX9_putTotal_63 rfl rfl (Nat.le_of_ble_eq_true rfl) (fun q8 _ => ?_)
        show mw g l _ _ _ 66 _ [.int q8, .ref (mad g 86)] h _
        refine mw_iload_n (n := 67) (q := 4) dX9_putTotal_66 rfl rfl rfl ?_
        refine mw_iast (n := 68) (a := 86) (N := 32) (mkm hg (by decide) (by rfl)) dX9_putTotal_67 rfl (mw_leth (fun h9 => ?_))
        refine mw_aload_n (n := 69) (q := 1) dX9_putTotal_68 rfl rfl rfl ?_
        refine mw_aload_n (n := 70) (q := 1) dX9_putTotal_69 rfl rfl rfl ?_
        refine mw_getr (n := 73) (a := 82) (k := 5) cl9 (mkm hg (by decide) (by rfl)) (by decide) rfl rfl fl_X9_19 dX9_putTotal_70 rfl ?_
        refine mw_callV (n := 76) (a := 82) (As := [.ref (mad g 86)]) cl9 (mkm hg (by decide) (by rfl)) (t_X9_settle hg N 86 (mkm hg (by decide) (by rfl)) h9) (by decide) ok_X9_settle rfl rfl lk_X9_133 im_X9_settle se_X9_settle dX9_putTotal_73 rfl rfl (Nat.le_of_ble_eq_true rfl) (fun q10 _ => ?_)
        show mw g l _ _ _ 76 _ [] q10 _
        refine mw_iload (n := 78) (q := 0) dX9_putTotal_76 rfl rfl ?_
        exact mw_zretC dX9_putTotal_78 rfl rfl
noncomputable def x_X9_putPin_33 (N : Nat) (v1 : Int32) (v2 : Int32) (s0 : Int32) (h : mH) : Option (Int32 × mH) :=
  if s0 = 0 then
    mzc s0 (some (s0, h))
  else
    mck ((11 : Int32) + v1) 32 <|
    mlet (msi h 86 (((11 : Int32) + v1)).toNatClampNeg v2) fun h2 =>
    (x_X9_settle N 86 h2).bind fun q3 =>
    mzc s0 (some (s0, q3))
set_option maxRecDepth 20000 in
set_option maxHeartbeats 4000000 in
theorem b_X9_putPin_33 {g : mG} {l : Launch} (hg : mnn g = 101) (N : Nat) (v1 : Int32) (v2 : Int32) (s0 : Int32) (h : mH) : mw g l 4 mX9_putPin (fun r : Int32 × mH => (some (Value.int r.1), r.2)) 33 [(0, .ref (mad g 82)), (1, .int v1), (2, .int v2)] [.int s0] h (x_X9_putPin_33 N v1 v2 s0 h) := by
  unfold x_X9_putPin_33
  refine mw_istore_n (n := 34) dX9_putPin_33 rfl rfl (by decide) rfl ?_
  refine mw_iload_n (n := 35) (q := 0) dX9_putPin_34 rfl rfl rfl ?_
  refine mw_if_eq (n := 38) (t := 56) dX9_putPin_35 rfl (by decide) Iff.rfl (fun c1 => ?_) (fun c1 => ?_)
  · refine mw_iload_n (n := 57) (q := 0) dX9_putPin_56 rfl rfl rfl ?_
    exact mw_zretC dX9_putPin_57 rfl rfl
  · refine mw_aload_n (n := 39) (q := 1) dX9_putPin_38 rfl rfl rfl ?_
    refine mw_getr (n := 42) (a := 82) (k := 5) cl9 (mkm hg (by decide) (by rfl)) (by decide) rfl rfl fl_X9_19 dX9_putPin_39 rfl ?_
    refine mw_bipush (n := 44) (v := 11) dX9_putPin_42 rfl (by decide) ?_
    refine mw_iload_n (n := 45) (q := 2) dX9_putPin_44 rfl rfl rfl ?_
    refine mw_iadd (n := 46) dX9_putPin_45 rfl ?_
    refine mw_iload_n (n := 47) (q := 3) dX9_putPin_46 rfl rfl rfl ?_
    refine mw_iast (n := 48) (a := 86) (N := 32) (mkm hg (by decide) (by rfl)) dX9_putPin_47 rfl (mw_leth (fun h2 => ?_))
    refine mw_aload_n (n := 49) (q := 1) dX9_putPin_48 rfl rfl rfl ?_
    refine mw_aload_n (n := 50) (q := 1) dX9_putPin_49 rfl rfl rfl ?_
    refine mw_getr (n := 53) (a := 82) (k := 5) cl9 (mkm hg (by decide) (by rfl)) (by decide) rfl rfl fl_X9_19 dX9_putPin_50 rfl ?_
    refine mw_callV (n := 56) (a := 82) (As := [.ref (mad g 86)]) cl9 (mkm hg (by decide) (by rfl)) (t_X9_settle hg N 86 (mkm hg (by decide) (by rfl)) h2) (by decide) ok_X9_settle rfl rfl lk_X9_133 im_X9_settle se_X9_settle dX9_putPin_53 rfl rfl (Nat.le_of_ble_eq_true rfl) (fun q3 _ => ?_)
    show mw g l _ _ _ 56 _ [] q3 _
    refine mw_iload_n (n := 57) (q := 0) dX9_putPin_56 rfl rfl rfl ?_
    exact mw_zretC dX9_putPin_57 rfl rfl
noncomputable def x_X9_putPin_32 (N : Nat) (v1 : Int32) (v2 : Int32) (h : mH) : Option (Int32 × mH) :=
  x_X9_putPin_33 N v1 v2 (0 : Int32) h
set_option maxRecDepth 20000 in
set_option maxHeartbeats 4000000 in
theorem b_X9_putPin_32 {g : mG} {l : Launch} (hg : mnn g = 101) (N : Nat) (v1 : Int32) (v2 : Int32) (h : mH) : mw g l 4 mX9_putPin (fun r : Int32 × mH => (some (Value.int r.1), r.2)) 32 [(0, .ref (mad g 82)), (1, .int v1), (2, .int v2)] [] h (x_X9_putPin_32 N v1 v2 h) := by
  unfold x_X9_putPin_32
  refine mw_iconst (n := 33) (v := 0) dX9_putPin_32 rfl (by decide) ?_
  exact b_X9_putPin_33 hg N v1 v2 (0 : Int32) h
noncomputable def x_X9_putPin (N : Nat) (p0 : Int32) (p1 : Int32) (h : mH) : Option (Int32 × mH) :=
  (x_X9_cells 86 h).bind fun q1 =>
  if q1 ≤ p0 then
    x_X9_putPin_32 N p0 p1 h
  else
    if (3 : Int32) ≤ p1 then
      x_X9_putPin_32 N p0 p1 h
    else
      (x_X9_tooMany N 86 p0 p1 h).bind fun q4 =>
      mlet (if ¬ q4 = 0 then (0 : Int32) else (1 : Int32)) fun u6 =>
      if u6 = 0 then
        mzc u6 (some (u6, h))
      else
        mck ((11 : Int32) + p0) 32 <|
        mlet (msi h 86 (((11 : Int32) + p0)).toNatClampNeg p1) fun h8 =>
        (x_X9_settle N 86 h8).bind fun q9 =>
        mzc u6 (some (u6, q9))
set_option maxRecDepth 20000 in
set_option maxHeartbeats 4000000 in
theorem t_X9_putPin {g : mG} {l : Launch} (hg : mnn g = 101) (N : Nat) (p0 : Int32) (p1 : Int32) (h : mH) : mf g l 4 mX9_putPin (fun r : Int32 × mH => (some (Value.int r.1), r.2)) [.ref (mad g 82), .int p0, .int p1] h (x_X9_putPin N p0 p1 h) := by
  refine mf_of (by decide) (Nat.le_of_ble_eq_true rfl) ?_
  show mw g l 4 mX9_putPin (fun r : Int32 × mH => (some (Value.int r.1), r.2)) 0 [(0, .ref (mad g 82)), (1, .int p0), (2, .int p1)] [] h _
  unfold x_X9_putPin
  refine mw_iload_n (n := 1) (q := 1) dX9_putPin_0 rfl rfl rfl ?_
  refine mw_aload_n (n := 2) (q := 0) dX9_putPin_1 rfl rfl rfl ?_
  refine mw_getr (n := 5) (a := 82) (k := 5) cl9 (mkm hg (by decide) (by rfl)) (by decide) rfl rfl fl_X9_19 dX9_putPin_2 rfl ?_
  refine mw_callS (n := 8) (As := [.ref (mad g 86)]) (t_X9_cells hg 86 (mkm hg (by decide) (by rfl)) h) (by decide) ok_X9_cells rfl lk_X9_69 sm_X9_cells dX9_putPin_5 rfl rfl (Nat.le_of_ble_eq_true rfl) (fun q1 _ => ?_)
  show mw g l _ _ _ 8 _ [.int q1, .int p0] h _
  refine mw_icmp_ge (n := 11) (t := 32) dX9_putPin_8 rfl (by decide) Iff.rfl (fun c2 => ?_) (fun c2 => ?_)
  · exact b_X9_putPin_32 hg N p0 p1 h
  · refine mw_iload_n (n := 12) (q := 2) dX9_putPin_11 rfl rfl rfl ?_
    refine mw_iconst (n := 13) (v := 3) dX9_putPin_12 rfl (by decide) ?_
    refine mw_icmp_ge (n := 16) (t := 32) dX9_putPin_13 rfl (by decide) Iff.rfl (fun c3 => ?_) (fun c3 => ?_)
    · exact b_X9_putPin_32 hg N p0 p1 h
    · refine mw_aload_n (n := 17) (q := 0) dX9_putPin_16 rfl rfl rfl ?_
      refine mw_getr (n := 20) (a := 82) (k := 5) cl9 (mkm hg (by decide) (by rfl)) (by decide) rfl rfl fl_X9_19 dX9_putPin_17 rfl ?_
      refine mw_iload_n (n := 21) (q := 1) dX9_putPin_20 rfl rfl rfl ?_
      refine mw_iload_n (n := 22) (q := 2) dX9_putPin_21 rfl rfl rfl ?_
      refine mw_callS (n := 25) (As := [.ref (mad g 86), .int p0, .int p1]) (t_X9_tooMany hg N 86 p0 p1 (mkm hg (by decide) (by rfl)) h) (by decide) ok_X9_tooMany rfl lk_X9_202 sm_X9_tooMany dX9_putPin_22 rfl rfl (Nat.le_of_ble_eq_true rfl) (fun q4 _ => ?_)
      show mw g l _ _ _ 25 _ [.int q4] h _
      refine mw_cutJ (pc' := 33) (lv' := [(0, .ref (mad g 82)), (1, .int p0), (2, .int p1)]) (st' := [.int (if ¬ q4 = 0 then (0 : Int32) else (1 : Int32))]) (fun J => ?_) ?_
      · refine mw_if_ne_m (n := 28) (t := 32) dX9_putPin_25 rfl (by decide) (fun c5 => ?_) (fun c5 => ?_)
        · refine mw_iconst (n := 33) (v := 0) dX9_putPin_32 rfl (by decide) ?_
          exact mw_topeq (if_pos c5).symm J
        · refine mw_iconst (n := 29) (v := 1) dX9_putPin_28 rfl (by decide) ?_
          refine mw_goto (n := 33) dX9_putPin_29 (by decide) ?_
          exact mw_topeq (if_neg c5).symm J
      refine mw_letI (fun u6 => ?_)
      refine mw_istore_n (n := 34) dX9_putPin_33 rfl rfl (by decide) rfl ?_
      refine mw_iload_n (n := 35) (q := 0) dX9_putPin_34 rfl rfl rfl ?_
      refine mw_if_eq (n := 38) (t := 56) dX9_putPin_35 rfl (by decide) Iff.rfl (fun c7 => ?_) (fun c7 => ?_)
      · refine mw_iload_n (n := 57) (q := 0) dX9_putPin_56 rfl rfl rfl ?_
        exact mw_zretC dX9_putPin_57 rfl rfl
      · refine mw_aload_n (n := 39) (q := 1) dX9_putPin_38 rfl rfl rfl ?_
        refine mw_getr (n := 42) (a := 82) (k := 5) cl9 (mkm hg (by decide) (by rfl)) (by decide) rfl rfl fl_X9_19 dX9_putPin_39 rfl ?_
        refine mw_bipush (n := 44) (v := 11) dX9_putPin_42 rfl (by decide) ?_
        refine mw_iload_n (n := 45) (q := 2) dX9_putPin_44 rfl rfl rfl ?_
        refine mw_iadd (n := 46) dX9_putPin_45 rfl ?_
        refine mw_iload_n (n := 47) (q := 3) dX9_putPin_46 rfl rfl rfl ?_
        refine mw_iast (n := 48) (a := 86) (N := 32) (mkm hg (by decide) (by rfl)) dX9_putPin_47 rfl (mw_leth (fun h8 => ?_))
        refine mw_aload_n (n := 49) (q := 1) dX9_putPin_48 rfl rfl rfl ?_
        refine mw_aload_n (n := 50) (q := 1) dX9_putPin_49 rfl rfl rfl ?_
        refine mw_getr (n := 53) (a := 82) (k := 5) cl9 (mkm hg (by decide) (by rfl)) (by decide) rfl rfl fl_X9_19 dX9_putPin_50 rfl ?_
        refine mw_callV (n := 56) (a := 82) (As := [.ref (mad g 86)]) cl9 (mkm hg (by decide) (by rfl)) (t_X9_settle hg N 86 (mkm hg (by decide) (by rfl)) h8) (by decide) ok_X9_settle rfl rfl lk_X9_133 im_X9_settle se_X9_settle dX9_putPin_53 rfl rfl (Nat.le_of_ble_eq_true rfl) (fun q9 _ => ?_)
        show mw g l _ _ _ 56 _ [] q9 _
        refine mw_iload_n (n := 57) (q := 0) dX9_putPin_56 rfl rfl rfl ?_
        exact mw_zretC dX9_putPin_57 rfl rfl
noncomputable def x_X9_putSwitch_69 (s0 : Int32) (h : mH) : Option (Int32 × mH) :=
  mlet (msi h 86 31 (if ¬ s0 = 0 then ((mgi h 86 31) ^^^ s0) else (mgi h 86 31))) fun h2 =>
  some ((if s0 = 0 then (0 : Int32) else (1 : Int32)), h2)
set_option maxRecDepth 20000 in
set_option maxHeartbeats 4000000 in
theorem b_X9_putSwitch_69 {g : mG} {l : Launch} (hg : mnn g = 101) (s0 : Int32) (h : mH) : mw g l 3 mX9_putSwitch (fun r : Int32 × mH => (some (Value.int r.1), r.2)) 69 [(0, .ref (mad g 82))] [.int s0] h (x_X9_putSwitch_69 s0 h) := by
  unfold x_X9_putSwitch_69
  refine mw_istore (n := 71) dX9_putSwitch_69 rfl (by decide) rfl ?_
  refine mw_aload_n (n := 72) (q := 1) dX9_putSwitch_71 rfl rfl rfl ?_
  refine mw_getr (n := 75) (a := 82) (k := 5) cl9 (mkm hg (by decide) (by rfl)) (by decide) rfl rfl fl_X9_19 dX9_putSwitch_72 rfl ?_
  refine mw_bipush (n := 77) (v := 31) dX9_putSwitch_75 rfl (by decide) ?_
  refine mw_iload (n := 79) (q := 0) dX9_putSwitch_77 rfl rfl ?_
  refine mw_cutJ (pc' := 102) (lv' := [(6, .int s0), (0, .ref (mad g 82))]) (st' := [.int (if ¬ s0 = 0 then ((mgi h 86 31) ^^^ s0) else (mgi h 86 31)), .int (31 : Int32), .ref (mad g 86)]) (fun J => ?_) ?_
  · refine mw_if_ne_m (n := 82) (t := 92) dX9_putSwitch_79 rfl (by decide) (fun c1 => ?_) (fun c1 => ?_)
    · refine mw_aload_n (n := 93) (q := 1) dX9_putSwitch_92 rfl rfl rfl ?_
      refine mw_getr (n := 96) (a := 82) (k := 5) cl9 (mkm hg (by decide) (by rfl)) (by decide) rfl rfl fl_X9_19 dX9_putSwitch_93 rfl ?_
      refine mw_bipush (n := 98) (v := 31) dX9_putSwitch_96 rfl (by decide) ?_
      refine mw_iaLd (n := 99) (a := 86) (j := 31) (N := 32) (mkm hg (by decide) (by rfl)) (by decide) (by decide) dX9_putSwitch_98 rfl ?_
      refine mw_iload (n := 101) (q := 0) dX9_putSwitch_99 rfl rfl ?_
      refine mw_ixor (n := 102) dX9_putSwitch_101 rfl ?_
      exact mw_topeq (if_pos c1).symm J
    · refine mw_aload_n (n := 83) (q := 1) dX9_putSwitch_82 rfl rfl rfl ?_
      refine mw_getr (n := 86) (a := 82) (k := 5) cl9 (mkm hg (by decide) (by rfl)) (by decide) rfl rfl fl_X9_19 dX9_putSwitch_83 rfl ?_
      refine mw_bipush (n := 88) (v := 31) dX9_putSwitch_86 rfl (by decide) ?_
      refine mw_iaLd (n := 89) (a := 86) (j := 31) (N := 32) (mkm hg (by decide) (by rfl)) (by decide) (by decide) dX9_putSwitch_88 rfl ?_
      refine mw_goto (n := 102) dX9_putSwitch_89 (by decide) ?_
      exact mw_topeq (if_neg c1).symm J
  refine mw_iaSt (n := 103) (a := 86) (j := 31) (N := 32) (mkm hg (by decide) (by rfl)) (by decide) (by decide) dX9_putSwitch_102 rfl (mw_leth (fun h2 => ?_))
  refine mw_iload (n := 105) (q := 0) dX9_putSwitch_103 rfl rfl ?_
  refine mw_cutJ (pc' := 113) (lv' := [(6, .int s0), (0, .ref (mad g 82))]) (st' := [.int (if s0 = 0 then (0 : Int32) else (1 : Int32))]) (fun J => ?_) ?_
  · refine mw_if_eq_m (n := 108) (t := 112) dX9_putSwitch_105 rfl (by decide) (fun c3 => ?_) (fun c3 => ?_)
    · refine mw_iconst (n := 113) (v := 0) dX9_putSwitch_112 rfl (by decide) ?_
      exact mw_topeq (if_pos c3).symm J
    · refine mw_iconst (n := 109) (v := 1) dX9_putSwitch_108 rfl (by decide) ?_
      refine mw_goto (n := 113) dX9_putSwitch_109 (by decide) ?_
      exact mw_topeq (if_neg c3).symm J
  exact mw_zret dX9_putSwitch_113 rfl (mz01 (Or.inl rfl) (Or.inr rfl)) rfl
noncomputable def x_X9_putSwitch (p0 : Int32) (p1 : Int32) (p2 : Int32) (p3 : Int32) (h : mH) : Option (Int32 × mH) :=
  mlet (if (mgi h 86 0) ≤ p0 then (0 : Int32) else (if (mgi h 86 0) ≤ p1 then (0 : Int32) else (if (mgi h 86 1) ≤ p2 then (0 : Int32) else (if (mgi h 86 1) ≤ p3 then (0 : Int32) else (1 : Int32))))) fun u5 =>
  if u5 = 0 then
    x_X9_putSwitch_69 (0 : Int32) h
  else
    (x_X9_four 86 p0 p1 p2 p3 h).bind fun q7 =>
    x_X9_putSwitch_69 q7 h
set_option maxRecDepth 20000 in
set_option maxHeartbeats 4000000 in
theorem t_X9_putSwitch {g : mG} {l : Launch} (hg : mnn g = 101) (p0 : Int32) (p1 : Int32) (p2 : Int32) (p3 : Int32) (h : mH) : mf g l 3 mX9_putSwitch (fun r : Int32 × mH => (some (Value.int r.1), r.2)) [.ref (mad g 82), .int p0, .int p1, .int p2, .int p3] h (x_X9_putSwitch p0 p1 p2 p3 h) := by
  refine mf_of (by decide) (Nat.le_of_ble_eq_true rfl) ?_
  show mw g l 3 mX9_putSwitch (fun r : Int32 × mH => (some (Value.int r.1), r.2)) 0 [(0, .ref (mad g 82)), (1, .int p0), (2, .int p1), (3, .int p2), (4, .int p3)] [] h _
  unfold x_X9_putSwitch
  refine mw_iload_n (n := 1) (q := 1) dX9_putSwitch_0 rfl rfl rfl ?_
  refine mw_aload_n (n := 2) (q := 0) dX9_putSwitch_1 rfl rfl rfl ?_
  refine mw_getr (n := 5) (a := 82) (k := 5) cl9 (mkm hg (by decide) (by rfl)) (by decide) rfl rfl fl_X9_19 dX9_putSwitch_2 rfl ?_
  refine mw_iconst (n := 6) (v := 0) dX9_putSwitch_5 rfl (by decide) ?_
  refine mw_iaLd (n := 7) (a := 86) (j := 0) (N := 32) (mkm hg (by decide) (by rfl)) (by decide) (by decide) dX9_putSwitch_6 rfl ?_
  refine mw_cutJ (pc' := 46) (lv' := [(0, .ref (mad g 82)), (1, .int p0), (2, .int p1), (3, .int p2), (4, .int p3)]) (st' := [.int (if (mgi h 86 0) ≤ p0 then (0 : Int32) else (if (mgi h 86 0) ≤ p1 then (0 : Int32) else (if (mgi h 86 1) ≤ p2 then (0 : Int32) else (if (mgi h 86 1) ≤ p3 then (0 : Int32) else (1 : Int32)))))]) (fun J => ?_) ?_
  · refine mw_icmp_ge_m (n := 10) (t := 45) dX9_putSwitch_7 rfl (by decide) (fun c1 => ?_) (fun c1 => ?_)
    · refine mw_iconst (n := 46) (v := 0) dX9_putSwitch_45 rfl (by decide) ?_
      exact mw_topeq (if_pos c1).symm J
    · refine mw_iload_n (n := 11) (q := 2) dX9_putSwitch_10 rfl rfl rfl ?_
      refine mw_aload_n (n := 12) (q := 0) dX9_putSwitch_11 rfl rfl rfl ?_
      refine mw_getr (n := 15) (a := 82) (k := 5) cl9 (mkm hg (by decide) (by rfl)) (by decide) rfl rfl fl_X9_19 dX9_putSwitch_12 rfl ?_
      refine mw_iconst (n := 16) (v := 0) dX9_putSwitch_15 rfl (by decide) ?_
      refine mw_iaLd (n := 17) (a := 86) (j := 0) (N := 32) (mkm hg (by decide) (by rfl)) (by decide) (by decide) dX9_putSwitch_16 rfl ?_
      refine mw_icmp_ge_m (n := 20) (t := 45) dX9_putSwitch_17 rfl (by decide) (fun c2 => ?_) (fun c2 => ?_)
      · refine mw_iconst (n := 46) (v := 0) dX9_putSwitch_45 rfl (by decide) ?_
        exact mw_topeq ((if_neg c1).trans (if_pos c2)).symm J
      · refine mw_iload_n (n := 21) (q := 3) dX9_putSwitch_20 rfl rfl rfl ?_
        refine mw_aload_n (n := 22) (q := 0) dX9_putSwitch_21 rfl rfl rfl ?_
        refine mw_getr (n := 25) (a := 82) (k := 5) cl9 (mkm hg (by decide) (by rfl)) (by decide) rfl rfl fl_X9_19 dX9_putSwitch_22 rfl ?_
        refine mw_iconst (n := 26) (v := 1) dX9_putSwitch_25 rfl (by decide) ?_
        refine mw_iaLd (n := 27) (a := 86) (j := 1) (N := 32) (mkm hg (by decide) (by rfl)) (by decide) (by decide) dX9_putSwitch_26 rfl ?_
        refine mw_icmp_ge_m (n := 30) (t := 45) dX9_putSwitch_27 rfl (by decide) (fun c3 => ?_) (fun c3 => ?_)
        · refine mw_iconst (n := 46) (v := 0) dX9_putSwitch_45 rfl (by decide) ?_
          exact mw_topeq (((if_neg c1).trans (if_neg c2)).trans (if_pos c3)).symm J
        · refine mw_iload (n := 32) (q := 4) dX9_putSwitch_30 rfl rfl ?_
          refine mw_aload_n (n := 33) (q := 0) dX9_putSwitch_32 rfl rfl rfl ?_
          refine mw_getr (n := 36) (a := 82) (k := 5) cl9 (mkm hg (by decide) (by rfl)) (by decide) rfl rfl fl_X9_19 dX9_putSwitch_33 rfl ?_
          refine mw_iconst (n := 37) (v := 1) dX9_putSwitch_36 rfl (by decide) ?_
          refine mw_iaLd (n := 38) (a := 86) (j := 1) (N := 32) (mkm hg (by decide) (by rfl)) (by decide) (by decide) dX9_putSwitch_37 rfl ?_
          refine mw_icmp_ge_m (n := 41) (t := 45) dX9_putSwitch_38 rfl (by decide) (fun c4 => ?_) (fun c4 => ?_)
          · refine mw_iconst (n := 46) (v := 0) dX9_putSwitch_45 rfl (by decide) ?_
            exact mw_topeq ((((if_neg c1).trans (if_neg c2)).trans (if_neg c3)).trans (if_pos c4)).symm J
          · refine mw_iconst (n := 42) (v := 1) dX9_putSwitch_41 rfl (by decide) ?_
            refine mw_goto (n := 46) dX9_putSwitch_42 (by decide) ?_
            exact mw_topeq ((((if_neg c1).trans (if_neg c2)).trans (if_neg c3)).trans (if_neg c4)).symm J
  refine mw_letI (fun u5 => ?_)
  refine mw_istore (n := 48) dX9_putSwitch_46 rfl (by decide) rfl ?_
  refine mw_iload (n := 50) (q := 0) dX9_putSwitch_48 rfl rfl ?_
  refine mw_if_eq (n := 53) (t := 68) dX9_putSwitch_50 rfl (by decide) Iff.rfl (fun c6 => ?_) (fun c6 => ?_)
  · refine mw_iconst (n := 69) (v := 0) dX9_putSwitch_68 rfl (by decide) ?_
    refine mw_sub [1] rfl ?_
    exact b_X9_putSwitch_69 hg (0 : Int32) h
  · refine mw_aload_n (n := 54) (q := 1) dX9_putSwitch_53 rfl rfl rfl ?_
    refine mw_getr (n := 57) (a := 82) (k := 5) cl9 (mkm hg (by decide) (by rfl)) (by decide) rfl rfl fl_X9_19 dX9_putSwitch_54 rfl ?_
    refine mw_iload_n (n := 58) (q := 2) dX9_putSwitch_57 rfl rfl rfl ?_
    refine mw_iload_n (n := 59) (q := 3) dX9_putSwitch_58 rfl rfl rfl ?_
    refine mw_iload_n (n := 60) (q := 4) dX9_putSwitch_59 rfl rfl rfl ?_
    refine mw_iload (n := 62) (q := 5) dX9_putSwitch_60 rfl rfl ?_
    refine mw_callS (n := 65) (As := [.ref (mad g 86), .int p0, .int p1, .int p2, .int p3]) (t_X9_four hg 86 p0 p1 p2 p3 (mkm hg (by decide) (by rfl)) h) (by decide) ok_X9_four rfl lk_X9_195 sm_X9_four dX9_putSwitch_62 rfl rfl (Nat.le_of_ble_eq_true rfl) (fun q7 _ => ?_)
    show mw g l _ _ _ 65 _ [.int q7] h _
    refine mw_goto (n := 69) dX9_putSwitch_65 (by decide) ?_
    refine mw_sub [1] rfl ?_
    exact b_X9_putSwitch_69 hg q7 h
noncomputable def x_X9_does (N : Nat) (p0 : Int32) (h : mH) : Option (Int32 × mH) :=
  mlet (xrem (p0 / (1000 : Int32)) (10 : Int32)) fun u1 =>
  mlet (xrem (p0 / (100 : Int32)) (10 : Int32)) fun u2 =>
  mlet (xrem (p0 / (10 : Int32)) (10 : Int32)) fun u3 =>
  mlet (xrem p0 (10 : Int32)) fun u4 =>
  mlet (((10 : Int32) * u1) + u2) fun u5 =>
  (x_X9_cells 86 h).bind fun q6 =>
  mlet (if q6 ≤ u5 then (0 : Int32) else (1 : Int32)) fun u8 =>
  mlet (p0 / (10000 : Int32)) fun u9 =>
  if u9 = (1 : Int32) then
    (x_X9_putSwitch u1 u2 u3 u4 h).bind fun q11 =>
    mzc q11.1 (some (q11.1, q11.2))
  else if u9 = (2 : Int32) then
    if ¬ u3 = 0 then
      some ((0 : Int32), h)
    else
      if u8 = 0 then
        some ((0 : Int32), h)
      else
        (x_X9_putPin N u5 u4 h).bind fun q15 =>
        some ((if q15.1 = 0 then (0 : Int32) else (1 : Int32)), q15.2)
  else if u9 = (3 : Int32) then
    if ¬ u3 = 0 then
      some ((0 : Int32), h)
    else
      (x_X9_putTotal N u1 u2 u4 h).bind fun q19 =>
      some ((if q19.1 = 0 then (0 : Int32) else (1 : Int32)), q19.2)
  else if u9 = (4 : Int32) then
    if ¬ u3 = 0 then
      some ((0 : Int32), h)
    else
      if u8 = 0 then
        some ((0 : Int32), h)
      else
        if (mgi h 86 31) = (-9 : Int32) then
          some ((0 : Int32), h)
        else
          (x_X9_isYes 86 (mgi h 86 31) u5 h).bind fun q25 =>
          some ((if ¬ (if q25 = 0 then (0 : Int32) else (1 : Int32)) = u4 then (0 : Int32) else (1 : Int32)), h)
  else if u9 = (5 : Int32) then
    (x_X9_list N 86 (1 : Int32) h).bind fun q29 =>
    if ¬ u3 = 0 then
      some ((0 : Int32), q29)
    else
      if u8 = 0 then
        some ((0 : Int32), q29)
      else
        (x_X9_sure N 86 u5 q29).bind fun q32 =>
        some ((if ¬ q32 = u4 then (0 : Int32) else (1 : Int32)), q29)
  else if u9 = (6 : Int32) then
    (x_X9_list N 86 (1 : Int32) h).bind fun q35 =>
    some ((if ¬ u1 = 0 then (0 : Int32) else (if (mgi q35 82 17) < (xrem p0 (1000 : Int32)) then (0 : Int32) else (1 : Int32))), q35)
  else some ((0 : Int32), h)
set_option maxRecDepth 20000 in
set_option maxHeartbeats 4000000 in
theorem t_X9_does {g : mG} {l : Launch} (hg : mnn g = 101) (N : Nat) (p0 : Int32) (h : mH) : mf g l 5 mX9_does (fun r : Int32 × mH => (some (Value.int r.1), r.2)) [.ref (mad g 82), .int p0] h (x_X9_does N p0 h) := by
  refine mf_of (by decide) (Nat.le_of_ble_eq_true rfl) ?_
  show mw g l 5 mX9_does (fun r : Int32 × mH => (some (Value.int r.1), r.2)) 0 [(0, .ref (mad g 82)), (1, .int p0)] [] h _
  unfold x_X9_does
  refine mw_iload_n (n := 1) (q := 1) dX9_does_0 rfl rfl rfl ?_
  refine mw_sipush (n := 4) (v := 1000) dX9_does_1 rfl (by decide) ?_
  refine mw_idiv (n := 5) dX9_does_4 rfl (by decide) ?_
  refine mw_bipush (n := 7) (v := 10) dX9_does_5 rfl (by decide) ?_
  refine mw_irem (n := 8) dX9_does_7 rfl (by decide) ?_
  refine mw_letI (fun u1 => ?_)
  refine mw_istore_n (n := 9) dX9_does_8 rfl rfl (by decide) rfl ?_
  refine mw_iload_n (n := 10) (q := 2) dX9_does_9 rfl rfl rfl ?_
  refine mw_bipush (n := 12) (v := 100) dX9_does_10 rfl (by decide) ?_
  refine mw_idiv (n := 13) dX9_does_12 rfl (by decide) ?_
  refine mw_bipush (n := 15) (v := 10) dX9_does_13 rfl (by decide) ?_
  refine mw_irem (n := 16) dX9_does_15 rfl (by decide) ?_
  refine mw_letI (fun u2 => ?_)
  refine mw_istore_n (n := 17) dX9_does_16 rfl rfl (by decide) rfl ?_
  refine mw_iload_n (n := 18) (q := 3) dX9_does_17 rfl rfl rfl ?_
  refine mw_bipush (n := 20) (v := 10) dX9_does_18 rfl (by decide) ?_
  refine mw_idiv (n := 21) dX9_does_20 rfl (by decide) ?_
  refine mw_bipush (n := 23) (v := 10) dX9_does_21 rfl (by decide) ?_
  refine mw_irem (n := 24) dX9_does_23 rfl (by decide) ?_
  refine mw_letI (fun u3 => ?_)
  refine mw_istore (n := 26) dX9_does_24 rfl (by decide) rfl ?_
  refine mw_iload_n (n := 27) (q := 4) dX9_does_26 rfl rfl rfl ?_
  refine mw_bipush (n := 29) (v := 10) dX9_does_27 rfl (by decide) ?_
  refine mw_irem (n := 30) dX9_does_29 rfl (by decide) ?_
  refine mw_letI (fun u4 => ?_)
  refine mw_istore (n := 32) dX9_does_30 rfl (by decide) rfl ?_
  refine mw_bipush (n := 34) (v := 10) dX9_does_32 rfl (by decide) ?_
  refine mw_iload_n (n := 35) (q := 3) dX9_does_34 rfl rfl rfl ?_
  refine mw_imul (n := 36) dX9_does_35 rfl ?_
  refine mw_iload_n (n := 37) (q := 2) dX9_does_36 rfl rfl rfl ?_
  refine mw_iadd (n := 38) dX9_does_37 rfl ?_
  refine mw_letI (fun u5 => ?_)
  refine mw_istore (n := 40) dX9_does_38 rfl (by decide) rfl ?_
  refine mw_iload (n := 42) (q := 0) dX9_does_40 rfl rfl ?_
  refine mw_aload_n (n := 43) (q := 5) dX9_does_42 rfl rfl rfl ?_
  refine mw_getr (n := 46) (a := 82) (k := 5) cl9 (mkm hg (by decide) (by rfl)) (by decide) rfl rfl fl_X9_19 dX9_does_43 rfl ?_
  refine mw_callS (n := 49) (As := [.ref (mad g 86)]) (t_X9_cells hg 86 (mkm hg (by decide) (by rfl)) h) (by decide) ok_X9_cells rfl lk_X9_69 sm_X9_cells dX9_does_46 rfl rfl (Nat.le_of_ble_eq_true rfl) (fun q6 _ => ?_)
  show mw g l _ _ _ 49 _ [.int q6, .int u5] h _
  refine mw_cutJ (pc' := 57) (lv' := [(6, .int u5), (5, .int u4), (4, .int u3), (3, .int u2), (2, .int u1), (0, .ref (mad g 82)), (1, .int p0)]) (st' := [.int (if q6 ≤ u5 then (0 : Int32) else (1 : Int32))]) (fun J => ?_) ?_
  · refine mw_icmp_ge_m (n := 52) (t := 56) dX9_does_49 rfl (by decide) (fun c7 => ?_) (fun c7 => ?_)
    · refine mw_iconst (n := 57) (v := 0) dX9_does_56 rfl (by decide) ?_
      exact mw_topeq (if_pos c7).symm J
    · refine mw_iconst (n := 53) (v := 1) dX9_does_52 rfl (by decide) ?_
      refine mw_goto (n := 57) dX9_does_53 (by decide) ?_
      exact mw_topeq (if_neg c7).symm J
  refine mw_letI (fun u8 => ?_)
  refine mw_istore (n := 59) dX9_does_57 rfl (by decide) rfl ?_
  refine mw_iload_n (n := 60) (q := 7) dX9_does_59 rfl rfl rfl ?_
  refine mw_sipush (n := 63) (v := 10000) dX9_does_60 rfl (by decide) ?_
  refine mw_idiv (n := 64) dX9_does_63 rfl (by decide) ?_
  refine mw_letI (fun u9 => ?_)
  refine mw_tcase (v := 1) (t := 104) dX9_does_64 (by decide) (by decide) rfl (by decide) (fun c10 => ?_) (fun c10 => ?_)
  · refine mw_aload_n (n := 105) (q := 6) dX9_does_104 rfl rfl rfl ?_
    refine mw_iload_n (n := 106) (q := 5) dX9_does_105 rfl rfl rfl ?_
    refine mw_iload_n (n := 107) (q := 4) dX9_does_106 rfl rfl rfl ?_
    refine mw_iload (n := 109) (q := 3) dX9_does_107 rfl rfl ?_
    refine mw_iload (n := 111) (q := 2) dX9_does_109 rfl rfl ?_
    refine mw_callV (n := 114) (a := 82) (As := [.int u1, .int u2, .int u3, .int u4]) cl9 (mkm hg (by decide) (by rfl)) (t_X9_putSwitch hg u1 u2 u3 u4 h) (by decide) ok_X9_putSwitch rfl rfl lk_X9_226 im_X9_putSwitch se_X9_putSwitch dX9_does_111 rfl rfl (Nat.le_of_ble_eq_true rfl) (fun q11 _ => ?_)
    show mw g l _ _ _ 114 _ [.int q11.1] q11.2 _
    exact mw_zretC dX9_does_114 rfl rfl
  refine mw_tcase (v := 2) (t := 115) dX9_does_64 (by decide) (by decide) rfl (by decide) (fun c12 => ?_) (fun c12 => ?_)
  · refine mw_iload (n := 117) (q := 3) dX9_does_115 rfl rfl ?_
    refine mw_if_ne (n := 120) (t := 140) dX9_does_117 rfl (by decide) Iff.rfl (fun c13 => ?_) (fun c13 => ?_)
    · refine mw_iconst (n := 141) (v := 0) dX9_does_140 rfl (by decide) ?_
      exact mw_zret dX9_does_141 rfl (Or.inl rfl) rfl
    · refine mw_iload (n := 122) (q := 0) dX9_does_120 rfl rfl ?_
      refine mw_if_eq (n := 125) (t := 140) dX9_does_122 rfl (by decide) Iff.rfl (fun c14 => ?_) (fun c14 => ?_)
      · refine mw_iconst (n := 141) (v := 0) dX9_does_140 rfl (by decide) ?_
        exact mw_zret dX9_does_141 rfl (Or.inl rfl) rfl
      · refine mw_aload_n (n := 126) (q := 6) dX9_does_125 rfl rfl rfl ?_
        refine mw_iload (n := 128) (q := 1) dX9_does_126 rfl rfl ?_
        refine mw_iload (n := 130) (q := 2) dX9_does_128 rfl rfl ?_
        refine mw_callV (n := 133) (a := 82) (As := [.int u5, .int u4]) cl9 (mkm hg (by decide) (by rfl)) (t_X9_putPin hg N u5 u4 h) (by decide) ok_X9_putPin rfl rfl lk_X9_230 im_X9_putPin se_X9_putPin dX9_does_130 rfl rfl (Nat.le_of_ble_eq_true rfl) (fun q15 _ => ?_)
        show mw g l _ _ _ 133 _ [.int q15.1] q15.2 _
        refine mw_cutJ (pc' := 141) (lv' := [(7, .int u8), (6, .int u5), (5, .int u4), (4, .int u3), (3, .int u2), (2, .int u1), (0, .ref (mad g 82)), (1, .int p0)]) (st' := [.int (if q15.1 = 0 then (0 : Int32) else (1 : Int32))]) (fun J => ?_) ?_
        · refine mw_if_eq_m (n := 136) (t := 140) dX9_does_133 rfl (by decide) (fun c16 => ?_) (fun c16 => ?_)
          · refine mw_iconst (n := 141) (v := 0) dX9_does_140 rfl (by decide) ?_
            exact mw_topeq (if_pos c16).symm J
          · refine mw_iconst (n := 137) (v := 1) dX9_does_136 rfl (by decide) ?_
            refine mw_goto (n := 141) dX9_does_137 (by decide) ?_
            exact mw_topeq (if_neg c16).symm J
        exact mw_zret dX9_does_141 rfl (mz01 (Or.inl rfl) (Or.inr rfl)) rfl
  refine mw_tcase (v := 3) (t := 142) dX9_does_64 (by decide) (by decide) rfl (by decide) (fun c17 => ?_) (fun c17 => ?_)
  · refine mw_iload (n := 144) (q := 3) dX9_does_142 rfl rfl ?_
    refine mw_if_ne (n := 147) (t := 162) dX9_does_144 rfl (by decide) Iff.rfl (fun c18 => ?_) (fun c18 => ?_)
    · refine mw_iconst (n := 163) (v := 0) dX9_does_162 rfl (by decide) ?_
      exact mw_zret dX9_does_163 rfl (Or.inl rfl) rfl
    · refine mw_aload_n (n := 148) (q := 6) dX9_does_147 rfl rfl rfl ?_
      refine mw_iload_n (n := 149) (q := 5) dX9_does_148 rfl rfl rfl ?_
      refine mw_iload_n (n := 150) (q := 4) dX9_does_149 rfl rfl rfl ?_
      refine mw_iload (n := 152) (q := 2) dX9_does_150 rfl rfl ?_
      refine mw_callV (n := 155) (a := 82) (As := [.int u1, .int u2, .int u4]) cl9 (mkm hg (by decide) (by rfl)) (t_X9_putTotal hg N u1 u2 u4 h) (by decide) ok_X9_putTotal rfl rfl lk_X9_233 im_X9_putTotal se_X9_putTotal dX9_does_152 rfl rfl (Nat.le_of_ble_eq_true rfl) (fun q19 _ => ?_)
      show mw g l _ _ _ 155 _ [.int q19.1] q19.2 _
      refine mw_cutJ (pc' := 163) (lv' := [(7, .int u8), (6, .int u5), (5, .int u4), (4, .int u3), (3, .int u2), (2, .int u1), (0, .ref (mad g 82)), (1, .int p0)]) (st' := [.int (if q19.1 = 0 then (0 : Int32) else (1 : Int32))]) (fun J => ?_) ?_
      · refine mw_if_eq_m (n := 158) (t := 162) dX9_does_155 rfl (by decide) (fun c20 => ?_) (fun c20 => ?_)
        · refine mw_iconst (n := 163) (v := 0) dX9_does_162 rfl (by decide) ?_
          exact mw_topeq (if_pos c20).symm J
        · refine mw_iconst (n := 159) (v := 1) dX9_does_158 rfl (by decide) ?_
          refine mw_goto (n := 163) dX9_does_159 (by decide) ?_
          exact mw_topeq (if_neg c20).symm J
      exact mw_zret dX9_does_163 rfl (mz01 (Or.inl rfl) (Or.inr rfl)) rfl
  refine mw_tcase (v := 4) (t := 164) dX9_does_64 (by decide) (by decide) rfl (by decide) (fun c21 => ?_) (fun c21 => ?_)
  · refine mw_iload (n := 166) (q := 3) dX9_does_164 rfl rfl ?_
    refine mw_if_ne (n := 169) (t := 219) dX9_does_166 rfl (by decide) Iff.rfl (fun c22 => ?_) (fun c22 => ?_)
    · refine mw_iconst (n := 220) (v := 0) dX9_does_219 rfl (by decide) ?_
      exact mw_zret dX9_does_220 rfl (Or.inl rfl) rfl
    · refine mw_iload (n := 171) (q := 0) dX9_does_169 rfl rfl ?_
      refine mw_if_eq (n := 174) (t := 219) dX9_does_171 rfl (by decide) Iff.rfl (fun c23 => ?_) (fun c23 => ?_)
      · refine mw_iconst (n := 220) (v := 0) dX9_does_219 rfl (by decide) ?_
        exact mw_zret dX9_does_220 rfl (Or.inl rfl) rfl
      · refine mw_aload_n (n := 175) (q := 6) dX9_does_174 rfl rfl rfl ?_
        refine mw_getr (n := 178) (a := 82) (k := 5) cl9 (mkm hg (by decide) (by rfl)) (by decide) rfl rfl fl_X9_19 dX9_does_175 rfl ?_
        refine mw_bipush (n := 180) (v := 31) dX9_does_178 rfl (by decide) ?_
        refine mw_iaLd (n := 181) (a := 86) (j := 31) (N := 32) (mkm hg (by decide) (by rfl)) (by decide) (by decide) dX9_does_180 rfl ?_
        refine mw_bipush (n := 183) (v := -9) dX9_does_181 rfl (by decide) ?_
        refine mw_icmp_eq (n := 186) (t := 219) dX9_does_183 rfl (by decide) Iff.rfl (fun c24 => ?_) (fun c24 => ?_)
        · refine mw_iconst (n := 220) (v := 0) dX9_does_219 rfl (by decide) ?_
          exact mw_zret dX9_does_220 rfl (Or.inl rfl) rfl
        · refine mw_aload_n (n := 187) (q := 6) dX9_does_186 rfl rfl rfl ?_
          refine mw_getr (n := 190) (a := 82) (k := 5) cl9 (mkm hg (by decide) (by rfl)) (by decide) rfl rfl fl_X9_19 dX9_does_187 rfl ?_
          refine mw_aload_n (n := 191) (q := 6) dX9_does_190 rfl rfl rfl ?_
          refine mw_getr (n := 194) (a := 82) (k := 5) cl9 (mkm hg (by decide) (by rfl)) (by decide) rfl rfl fl_X9_19 dX9_does_191 rfl ?_
          refine mw_bipush (n := 196) (v := 31) dX9_does_194 rfl (by decide) ?_
          refine mw_iaLd (n := 197) (a := 86) (j := 31) (N := 32) (mkm hg (by decide) (by rfl)) (by decide) (by decide) dX9_does_196 rfl ?_
          refine mw_iload (n := 199) (q := 1) dX9_does_197 rfl rfl ?_
          refine mw_callS (n := 202) (As := [.ref (mad g 86), .int (mgi h 86 31), .int u5]) (t_X9_isYes hg 86 (mgi h 86 31) u5 (mkm hg (by decide) (by rfl)) h) (by decide) ok_X9_isYes rfl lk_X9_170 sm_X9_isYes dX9_does_199 rfl rfl (Nat.le_of_ble_eq_true rfl) (fun q25 _ => ?_)
          show mw g l _ _ _ 202 _ [.int q25] h _
          refine mw_cutJ (pc' := 210) (lv' := [(7, .int u8), (6, .int u5), (5, .int u4), (4, .int u3), (3, .int u2), (2, .int u1), (0, .ref (mad g 82)), (1, .int p0)]) (st' := [.int (if q25 = 0 then (0 : Int32) else (1 : Int32))]) (fun J => ?_) ?_
          · refine mw_if_eq_m (n := 205) (t := 209) dX9_does_202 rfl (by decide) (fun c26 => ?_) (fun c26 => ?_)
            · refine mw_iconst (n := 210) (v := 0) dX9_does_209 rfl (by decide) ?_
              exact mw_topeq (if_pos c26).symm J
            · refine mw_iconst (n := 206) (v := 1) dX9_does_205 rfl (by decide) ?_
              refine mw_goto (n := 210) dX9_does_206 (by decide) ?_
              exact mw_topeq (if_neg c26).symm J
          refine mw_iload (n := 212) (q := 2) dX9_does_210 rfl rfl ?_
          refine mw_cutJ (pc' := 220) (lv' := [(7, .int u8), (6, .int u5), (5, .int u4), (4, .int u3), (3, .int u2), (2, .int u1), (0, .ref (mad g 82)), (1, .int p0)]) (st' := [.int (if ¬ (if q25 = 0 then (0 : Int32) else (1 : Int32)) = u4 then (0 : Int32) else (1 : Int32))]) (fun J => ?_) ?_
          · refine mw_icmp_ne_m (n := 215) (t := 219) dX9_does_212 rfl (by decide) (fun c27 => ?_) (fun c27 => ?_)
            · refine mw_iconst (n := 220) (v := 0) dX9_does_219 rfl (by decide) ?_
              exact mw_topeq (if_pos c27).symm J
            · refine mw_iconst (n := 216) (v := 1) dX9_does_215 rfl (by decide) ?_
              refine mw_goto (n := 220) dX9_does_216 (by decide) ?_
              exact mw_topeq (if_neg c27).symm J
          exact mw_zret dX9_does_220 rfl (mz01 (Or.inl rfl) (Or.inr rfl)) rfl
  refine mw_tcase (v := 5) (t := 221) dX9_does_64 (by decide) (by decide) rfl (by decide) (fun c28 => ?_) (fun c28 => ?_)
  · refine mw_aload_n (n := 222) (q := 6) dX9_does_221 rfl rfl rfl ?_
    refine mw_aload_n (n := 223) (q := 6) dX9_does_222 rfl rfl rfl ?_
    refine mw_getr (n := 226) (a := 82) (k := 5) cl9 (mkm hg (by decide) (by rfl)) (by decide) rfl rfl fl_X9_19 dX9_does_223 rfl ?_
    refine mw_iconst (n := 227) (v := 1) dX9_does_226 rfl (by decide) ?_
    refine mw_callV (n := 230) (a := 82) (As := [.ref (mad g 86), .int (1 : Int32)]) cl9 (mkm hg (by decide) (by rfl)) (t_X9_list hg N 86 (1 : Int32) (mkm hg (by decide) (by rfl)) h) (by decide) ok_X9_list rfl rfl lk_X9_122 im_X9_list se_X9_list dX9_does_227 rfl rfl (Nat.le_of_ble_eq_true rfl) (fun q29 _ => ?_)
    show mw g l _ _ _ 230 _ [] q29 _
    refine mw_iload (n := 232) (q := 3) dX9_does_230 rfl rfl ?_
    refine mw_if_ne (n := 235) (t := 259) dX9_does_232 rfl (by decide) Iff.rfl (fun c30 => ?_) (fun c30 => ?_)
    · refine mw_iconst (n := 260) (v := 0) dX9_does_259 rfl (by decide) ?_
      exact mw_zret dX9_does_260 rfl (Or.inl rfl) rfl
    · refine mw_iload (n := 237) (q := 0) dX9_does_235 rfl rfl ?_
      refine mw_if_eq (n := 240) (t := 259) dX9_does_237 rfl (by decide) Iff.rfl (fun c31 => ?_) (fun c31 => ?_)
      · refine mw_iconst (n := 260) (v := 0) dX9_does_259 rfl (by decide) ?_
        exact mw_zret dX9_does_260 rfl (Or.inl rfl) rfl
      · refine mw_aload_n (n := 241) (q := 6) dX9_does_240 rfl rfl rfl ?_
        refine mw_aload_n (n := 242) (q := 6) dX9_does_241 rfl rfl rfl ?_
        refine mw_getr (n := 245) (a := 82) (k := 5) cl9 (mkm hg (by decide) (by rfl)) (by decide) rfl rfl fl_X9_19 dX9_does_242 rfl ?_
        refine mw_iload (n := 247) (q := 1) dX9_does_245 rfl rfl ?_
        refine mw_callV (n := 250) (a := 82) (As := [.ref (mad g 86), .int u5]) cl9 (mkm hg (by decide) (by rfl)) (t_X9_sure hg N 86 u5 (mkm hg (by decide) (by rfl)) q29) (by decide) ok_X9_sure rfl rfl lk_X9_179 im_X9_sure se_X9_sure dX9_does_247 rfl rfl (Nat.le_of_ble_eq_true rfl) (fun q32 _ => ?_)
        show mw g l _ _ _ 250 _ [.int q32] q29 _
        refine mw_iload (n := 252) (q := 2) dX9_does_250 rfl rfl ?_
        refine mw_cutJ (pc' := 260) (lv' := [(7, .int u8), (6, .int u5), (5, .int u4), (4, .int u3), (3, .int u2), (2, .int u1), (0, .ref (mad g 82)), (1, .int p0)]) (st' := [.int (if ¬ q32 = u4 then (0 : Int32) else (1 : Int32))]) (fun J => ?_) ?_
        · refine mw_icmp_ne_m (n := 255) (t := 259) dX9_does_252 rfl (by decide) (fun c33 => ?_) (fun c33 => ?_)
          · refine mw_iconst (n := 260) (v := 0) dX9_does_259 rfl (by decide) ?_
            exact mw_topeq (if_pos c33).symm J
          · refine mw_iconst (n := 256) (v := 1) dX9_does_255 rfl (by decide) ?_
            refine mw_goto (n := 260) dX9_does_256 (by decide) ?_
            exact mw_topeq (if_neg c33).symm J
        exact mw_zret dX9_does_260 rfl (mz01 (Or.inl rfl) (Or.inr rfl)) rfl
  refine mw_tcase (v := 6) (t := 261) dX9_does_64 (by decide) (by decide) rfl (by decide) (fun c34 => ?_) (fun c34 => ?_)
  · refine mw_aload_n (n := 262) (q := 6) dX9_does_261 rfl rfl rfl ?_
    refine mw_aload_n (n := 263) (q := 6) dX9_does_262 rfl rfl rfl ?_
    refine mw_getr (n := 266) (a := 82) (k := 5) cl9 (mkm hg (by decide) (by rfl)) (by decide) rfl rfl fl_X9_19 dX9_does_263 rfl ?_
    refine mw_iconst (n := 267) (v := 1) dX9_does_266 rfl (by decide) ?_
    refine mw_callV (n := 270) (a := 82) (As := [.ref (mad g 86), .int (1 : Int32)]) cl9 (mkm hg (by decide) (by rfl)) (t_X9_list hg N 86 (1 : Int32) (mkm hg (by decide) (by rfl)) h) (by decide) ok_X9_list rfl rfl lk_X9_122 im_X9_list se_X9_list dX9_does_267 rfl rfl (Nat.le_of_ble_eq_true rfl) (fun q35 _ => ?_)
    show mw g l _ _ _ 270 _ [] q35 _
    refine mw_iload_n (n := 271) (q := 5) dX9_does_270 rfl rfl rfl ?_
    refine mw_cutJ (pc' := 291) (lv' := [(7, .int u8), (6, .int u5), (5, .int u4), (4, .int u3), (3, .int u2), (2, .int u1), (0, .ref (mad g 82)), (1, .int p0)]) (st' := [.int (if ¬ u1 = 0 then (0 : Int32) else (if (mgi q35 82 17) < (xrem p0 (1000 : Int32)) then (0 : Int32) else (1 : Int32)))]) (fun J => ?_) ?_
    · refine mw_if_ne_m (n := 274) (t := 290) dX9_does_271 rfl (by decide) (fun c36 => ?_) (fun c36 => ?_)
      · refine mw_iconst (n := 291) (v := 0) dX9_does_290 rfl (by decide) ?_
        exact mw_topeq (if_pos c36).symm J
      · refine mw_aload_n (n := 275) (q := 6) dX9_does_274 rfl rfl rfl ?_
        refine mw_geti (n := 278) (a := 82) (k := 17) cl9 (mkm hg (by decide) (by rfl)) (by decide) rfl rfl fl_X9_112 dX9_does_275 rfl ?_
        refine mw_iload_n (n := 279) (q := 7) dX9_does_278 rfl rfl rfl ?_
        refine mw_sipush (n := 282) (v := 1000) dX9_does_279 rfl (by decide) ?_
        refine mw_irem (n := 283) dX9_does_282 rfl (by decide) ?_
        refine mw_icmp_lt_m (n := 286) (t := 290) dX9_does_283 rfl (by decide) (fun c37 => ?_) (fun c37 => ?_)
        · refine mw_iconst (n := 291) (v := 0) dX9_does_290 rfl (by decide) ?_
          exact mw_topeq ((if_neg c36).trans (if_pos c37)).symm J
        · refine mw_iconst (n := 287) (v := 1) dX9_does_286 rfl (by decide) ?_
          refine mw_goto (n := 291) dX9_does_287 (by decide) ?_
          exact mw_topeq ((if_neg c36).trans (if_neg c37)).symm J
    exact mw_zret dX9_does_291 rfl (mz01 (Or.inl rfl) (mz01 (Or.inl rfl) (Or.inr rfl))) rfl
  refine mw_tdef (t := 292) dX9_does_64 (by have e0 : u9.toInt ≠ 1 := sw_ne c10 (by decide); have e1 : u9.toInt ≠ 2 := sw_ne c12 (by decide); have e2 : u9.toInt ≠ 3 := sw_ne c17 (by decide); have e3 : u9.toInt ≠ 4 := sw_ne c21 (by decide); have e4 : u9.toInt ≠ 5 := sw_ne c28 (by decide); have e5 : u9.toInt ≠ 6 := sw_ne c34 (by decide); omega) (by decide) ?_
  refine mw_iconst (n := 293) (v := 0) dX9_does_292 rfl (by decide) ?_
  exact mw_zret dX9_does_293 rfl (Or.inl rfl) rfl
noncomputable def x_X9_judge_51 (N : Nat) (v1 : Int32) (v2 : Int64) (f : Nat) : Int32 → mH → Option (Int32 × mH) :=
  Nat.rec (motive := fun _ => Int32 → mH → Option (Int32 × mH)) (fun _ _ => none) (fun _ self51 => fun v4 h => 
    if v1 ≤ v4 then
      some ((-9 : Int32), h)
    else
      (x_X9_longPower N (100000 : Int64) ((v1 - (1 : Int32)) - v4)).bind fun q2 =>
      mzdL q2 <|
      (x_X9_does N (((xlrem (v2 / q2) (100000 : Int64))).toInt32) h).bind fun q3 =>
      if ¬ q3.1 = 0 then
        self51 (v4 + (1 : Int32)) q3.2
      else
        some (v4, q3.2)) f
theorem x_X9_judge_51_0 (N : Nat) (v1 : Int32) (v2 : Int64) (v4 : Int32) (h : mH) : x_X9_judge_51 N v1 v2 0 v4 h = none := rfl
theorem x_X9_judge_51_s (N : Nat) (v1 : Int32) (v2 : Int64) (f : Nat) (v4 : Int32) (h : mH) : x_X9_judge_51 N v1 v2 (f + 1) v4 h = (
    if v1 ≤ v4 then
      some ((-9 : Int32), h)
    else
      (x_X9_longPower N (100000 : Int64) ((v1 - (1 : Int32)) - v4)).bind fun q2 =>
      mzdL q2 <|
      (x_X9_does N (((xlrem (v2 / q2) (100000 : Int64))).toInt32) h).bind fun q3 =>
      if ¬ q3.1 = 0 then
        (x_X9_judge_51 N v1 v2 f) (v4 + (1 : Int32)) q3.2
      else
        some (v4, q3.2)) := rfl
set_option maxRecDepth 20000 in
set_option maxHeartbeats 4000000 in
theorem b_X9_judge_51 {g : mG} {l : Launch} (hg : mnn g = 101) (N : Nat) (v1 : Int32) (v2 : Int64) (f : Nat) : ∀ (v4 : Int32) (h : mH), mw g l 6 mX9_judge (fun r : Int32 × mH => (some (Value.int r.1), r.2)) 51 [(0, .ref (mad g 82)), (1, .int v1), (2, .long v2), (4, .int v4)] [] h (x_X9_judge_51 N v1 v2 f v4 h) := by
  induction f with
  | zero => intros; exact mw_none
  | succ f hself51 =>
    intro v4 h
    refine mw_eq (x_X9_judge_51_s N v1 v2 f v4 h) ?_
    generalize x_X9_judge_51 N v1 v2 f = self51 at hself51 ⊢
    refine mw_iload (n := 53) (q := 3) dX9_judge_51 rfl rfl ?_
    refine mw_iload_n (n := 54) (q := 1) dX9_judge_53 rfl rfl rfl ?_
    refine mw_icmp_ge (n := 57) (t := 92) dX9_judge_54 rfl (by decide) Iff.rfl (fun c1 => ?_) (fun c1 => ?_)
    · refine mw_bipush (n := 94) (v := -9) dX9_judge_92 rfl (by decide) ?_
      exact mw_iret dX9_judge_94 rfl rfl
    · refine mw_aload_n (n := 58) (q := 0) dX9_judge_57 rfl rfl rfl ?_
      refine mw_lload_n (n := 59) (q := 2) dX9_judge_58 rfl rfl rfl ?_
      refine mw_ldc2 (n := 62) dX9_judge_59 rfl kl_X9_239 ?_
      refine mw_iload_n (n := 63) (q := 1) dX9_judge_62 rfl rfl rfl ?_
      refine mw_iconst (n := 64) (v := 1) dX9_judge_63 rfl (by decide) ?_
      refine mw_isub (n := 65) dX9_judge_64 rfl ?_
      refine mw_iload (n := 67) (q := 3) dX9_judge_65 rfl rfl ?_
      refine mw_isub (n := 68) dX9_judge_67 rfl ?_
      refine mw_callS (n := 71) (As := [.long (100000 : Int64), .int ((v1 - (1 : Int32)) - v4)]) (t_X9_longPower hg N (100000 : Int64) ((v1 - (1 : Int32)) - v4) h) (by decide) ok_X9_longPower rfl lk_X9_241 sm_X9_longPower dX9_judge_68 rfl rfl (Nat.le_of_ble_eq_true rfl) (fun q2 _ => ?_)
      show mw g l _ _ _ 71 _ [.long q2, .long v2, .ref (mad g 82)] h _
      refine mw_ldivC (n := 72) dX9_judge_71 rfl ?_
      refine mw_ldc2 (n := 75) dX9_judge_72 rfl kl_X9_239 ?_
      refine mw_lrem (n := 76) dX9_judge_75 rfl (by decide) ?_
      refine mw_l2i (n := 77) dX9_judge_76 rfl ?_
      refine mw_callV (n := 80) (a := 82) (As := [.int ((xlrem (v2 / q2) (100000 : Int64))).toInt32]) cl9 (mkm hg (by decide) (by rfl)) (t_X9_does hg N (((xlrem (v2 / q2) (100000 : Int64))).toInt32) h) (by decide) ok_X9_does rfl rfl lk_X9_245 im_X9_does se_X9_does dX9_judge_77 rfl rfl (Nat.le_of_ble_eq_true rfl) (fun q3 _ => ?_)
      show mw g l _ _ _ 80 _ [.int q3.1] q3.2 _
      refine mw_if_ne (n := 83) (t := 86) dX9_judge_80 rfl (by decide) Iff.rfl (fun c4 => ?_) (fun c4 => ?_)
      · refine mw_iinc (n := 89) (q := 3) (v := (v4 + (1 : Int32))) dX9_judge_86 rfl rfl rfl (by decide) rfl ?_
        refine mw_goto (n := 51) dX9_judge_89 (by decide) ?_
        refine mw_sub [1, 2, 3, 0] rfl ?_
        exact hself51 (v4 + (1 : Int32)) q3.2
      · refine mw_iload (n := 85) (q := 3) dX9_judge_83 rfl rfl ?_
        exact mw_iret dX9_judge_85 rfl rfl
noncomputable def x_X9_judge (N : Nat) (p0 : Int32) (p1 : Int64) (h : mH) : Option (Int32 × mH) :=
  mlet (msi h 82 0 (0 : Int32)) fun h1 =>
  (x_X9_in ((p0).toInt64) (1 : Int64) (3 : Int64)).bind fun q2 =>
  if q2 = 0 then
    some ((-2 : Int32), h1)
  else
    (x_X9_longPower N (100000 : Int64) p0).bind fun q4 =>
    (x_X9_in p1 (0 : Int64) (q4 - (1 : Int64))).bind fun q5 =>
    if ¬ q5 = 0 then
      (x_X9_lay N 86 85 h1).bind fun q7 =>
      x_X9_judge_51 N p0 p1 N (0 : Int32) q7
    else
      some ((-2 : Int32), h1)
set_option maxRecDepth 20000 in
set_option maxHeartbeats 4000000 in
theorem t_X9_judge {g : mG} {l : Launch} (hg : mnn g = 101) (N : Nat) (p0 : Int32) (p1 : Int64) (h : mH) : mf g l 6 mX9_judge (fun r : Int32 × mH => (some (Value.int r.1), r.2)) [.ref (mad g 82), .int p0, .long p1] h (x_X9_judge N p0 p1 h) := by
  refine mf_of (by decide) (Nat.le_of_ble_eq_true rfl) ?_
  show mw g l 6 mX9_judge (fun r : Int32 × mH => (some (Value.int r.1), r.2)) 0 [(0, .ref (mad g 82)), (1, .int p0), (2, .long p1)] [] h _
  unfold x_X9_judge
  refine mw_aload_n (n := 1) (q := 0) dX9_judge_0 rfl rfl rfl ?_
  refine mw_iconst (n := 2) (v := 0) dX9_judge_1 rfl (by decide) ?_
  refine mw_puti (n := 5) (a := 82) (k := 0) cl9 ct9 (mkm hg (by decide) (by rfl)) (by decide) rfl rfl rfl rfl fl_X9_65 dX9_judge_2 rfl (mw_leth (fun h1 => ?_))
  refine mw_iload_n (n := 6) (q := 1) dX9_judge_5 rfl rfl rfl ?_
  refine mw_i2l (n := 7) dX9_judge_6 rfl ?_
  refine mw_lconst (n := 8) (v := 1) dX9_judge_7 rfl (by decide) ?_
  refine mw_ldc2 (n := 11) dX9_judge_8 rfl kl_X9_237 ?_
  refine mw_callS (n := 14) (As := [.long (p0).toInt64, .long (1 : Int64), .long (3 : Int64)]) (t_X9_in hg ((p0).toInt64) (1 : Int64) (3 : Int64) h1) (by decide) ok_X9_in rfl lk_X9_77 sm_X9_in dX9_judge_11 rfl rfl (Nat.le_of_ble_eq_true rfl) (fun q2 _ => ?_)
  show mw g l _ _ _ 14 _ [.int q2] h1 _
  refine mw_if_eq (n := 17) (t := 34) dX9_judge_14 rfl (by decide) Iff.rfl (fun c3 => ?_) (fun c3 => ?_)
  · refine mw_bipush (n := 36) (v := -2) dX9_judge_34 rfl (by decide) ?_
    exact mw_iret dX9_judge_36 rfl rfl
  · refine mw_lload_n (n := 18) (q := 2) dX9_judge_17 rfl rfl rfl ?_
    refine mw_lconst (n := 19) (v := 0) dX9_judge_18 rfl (by decide) ?_
    refine mw_ldc2 (n := 22) dX9_judge_19 rfl kl_X9_239 ?_
    refine mw_iload_n (n := 23) (q := 1) dX9_judge_22 rfl rfl rfl ?_
    refine mw_callS (n := 26) (As := [.long (100000 : Int64), .int p0]) (t_X9_longPower hg N (100000 : Int64) p0 h1) (by decide) ok_X9_longPower rfl lk_X9_241 sm_X9_longPower dX9_judge_23 rfl rfl (Nat.le_of_ble_eq_true rfl) (fun q4 _ => ?_)
    show mw g l _ _ _ 26 _ [.long q4, .long (0 : Int64), .long p1] h1 _
    refine mw_lconst (n := 27) (v := 1) dX9_judge_26 rfl (by decide) ?_
    refine mw_lsub (n := 28) dX9_judge_27 rfl ?_
    refine mw_callS (n := 31) (As := [.long p1, .long (0 : Int64), .long (q4 - (1 : Int64))]) (t_X9_in hg p1 (0 : Int64) (q4 - (1 : Int64)) h1) (by decide) ok_X9_in rfl lk_X9_77 sm_X9_in dX9_judge_28 rfl rfl (Nat.le_of_ble_eq_true rfl) (fun q5 _ => ?_)
    show mw g l _ _ _ 31 _ [.int q5] h1 _
    refine mw_if_ne (n := 34) (t := 37) dX9_judge_31 rfl (by decide) Iff.rfl (fun c6 => ?_) (fun c6 => ?_)
    · refine mw_aload_n (n := 38) (q := 0) dX9_judge_37 rfl rfl rfl ?_
      refine mw_getr (n := 41) (a := 82) (k := 5) cl9 (mkm hg (by decide) (by rfl)) (by decide) rfl rfl fl_X9_19 dX9_judge_38 rfl ?_
      refine mw_aload_n (n := 42) (q := 0) dX9_judge_41 rfl rfl rfl ?_
      refine mw_getr (n := 45) (a := 82) (k := 4) cl9 (mkm hg (by decide) (by rfl)) (by decide) rfl rfl fl_X9_16 dX9_judge_42 rfl ?_
      refine mw_callS (n := 48) (As := [.ref (mad g 86), .ref (mad g 85)]) (t_X9_lay hg N 86 85 (mkm hg (by decide) (by rfl)) (mkm hg (by decide) (by rfl)) h1) (by decide) ok_X9_lay rfl lk_X9_129 sm_X9_lay dX9_judge_45 rfl rfl (Nat.le_of_ble_eq_true rfl) (fun q7 _ => ?_)
      show mw g l _ _ _ 48 _ [] q7 _
      refine mw_iconst (n := 49) (v := 0) dX9_judge_48 rfl (by decide) ?_
      refine mw_istore (n := 51) dX9_judge_49 rfl (by decide) rfl ?_
      refine mw_sub [1, 2, 3, 0] rfl ?_
      exact b_X9_judge_51 hg N p0 p1 N (0 : Int32) q7
    · refine mw_bipush (n := 36) (v := -2) dX9_judge_34 rfl (by decide) ?_
      exact mw_iret dX9_judge_36 rfl rfl
noncomputable def x_X9_see (p0 : Int32) (p1 : Int32) (h : mH) : Option (Int32 × mH) :=
  mlet (msi h 82 0 (0 : Int32)) fun h1 =>
  (x_X9_in ((p0).toInt64) (0 : Int64) (19 : Int64)).bind fun q2 =>
  if q2 = 0 then
    some ((-2 : Int32), h1)
  else
    (x_X9_in ((p1).toInt64) (0 : Int64) (1 : Int64)).bind fun q4 =>
    if ¬ q4 = 0 then
      if ¬ (mgi h1 82 10) = (6 : Int32) then
        mck (mgi h1 82 10) 6 <|
        mlet (msi h1 90 ((mgi h1 82 10)).toNatClampNeg p0) fun h7 =>
        mck (mgi h7 82 10) 6 <|
        mlet (msi h7 91 ((mgi h7 82 10)).toNatClampNeg p1) fun h8 =>
        mlet (msi h8 82 10 ((mgi h8 82 10) + (1 : Int32))) fun h9 =>
        some ((mgi h9 82 10), h9)
      else
        some ((-4 : Int32), h1)
    else
      some ((-2 : Int32), h1)
set_option maxRecDepth 20000 in
set_option maxHeartbeats 4000000 in
theorem t_X9_see {g : mG} {l : Launch} (hg : mnn g = 101) (p0 : Int32) (p1 : Int32) (h : mH) : mf g l 1 mX9_see (fun r : Int32 × mH => (some (Value.int r.1), r.2)) [.ref (mad g 82), .int p0, .int p1] h (x_X9_see p0 p1 h) := by
  refine mf_of (by decide) (Nat.le_of_ble_eq_true rfl) ?_
  show mw g l 1 mX9_see (fun r : Int32 × mH => (some (Value.int r.1), r.2)) 0 [(0, .ref (mad g 82)), (1, .int p0), (2, .int p1)] [] h _
  unfold x_X9_see
  refine mw_aload_n (n := 1) (q := 0) dX9_see_0 rfl rfl rfl ?_
  refine mw_iconst (n := 2) (v := 0) dX9_see_1 rfl (by decide) ?_
  refine mw_puti (n := 5) (a := 82) (k := 0) cl9 ct9 (mkm hg (by decide) (by rfl)) (by decide) rfl rfl rfl rfl fl_X9_65 dX9_see_2 rfl (mw_leth (fun h1 => ?_))
  refine mw_iload_n (n := 6) (q := 1) dX9_see_5 rfl rfl rfl ?_
  refine mw_i2l (n := 7) dX9_see_6 rfl ?_
  refine mw_lconst (n := 8) (v := 0) dX9_see_7 rfl (by decide) ?_
  refine mw_ldc2 (n := 11) dX9_see_8 rfl kl_X9_248 ?_
  refine mw_callS (n := 14) (As := [.long (p0).toInt64, .long (0 : Int64), .long (19 : Int64)]) (t_X9_in hg ((p0).toInt64) (0 : Int64) (19 : Int64) h1) (by decide) ok_X9_in rfl lk_X9_77 sm_X9_in dX9_see_11 rfl rfl (Nat.le_of_ble_eq_true rfl) (fun q2 _ => ?_)
  show mw g l _ _ _ 14 _ [.int q2] h1 _
  refine mw_if_eq (n := 17) (t := 27) dX9_see_14 rfl (by decide) Iff.rfl (fun c3 => ?_) (fun c3 => ?_)
  · refine mw_bipush (n := 29) (v := -2) dX9_see_27 rfl (by decide) ?_
    exact mw_iret dX9_see_29 rfl rfl
  · refine mw_iload_n (n := 18) (q := 2) dX9_see_17 rfl rfl rfl ?_
    refine mw_i2l (n := 19) dX9_see_18 rfl ?_
    refine mw_lconst (n := 20) (v := 0) dX9_see_19 rfl (by decide) ?_
    refine mw_lconst (n := 21) (v := 1) dX9_see_20 rfl (by decide) ?_
    refine mw_callS (n := 24) (As := [.long (p1).toInt64, .long (0 : Int64), .long (1 : Int64)]) (t_X9_in hg ((p1).toInt64) (0 : Int64) (1 : Int64) h1) (by decide) ok_X9_in rfl lk_X9_77 sm_X9_in dX9_see_21 rfl rfl (Nat.le_of_ble_eq_true rfl) (fun q4 _ => ?_)
    show mw g l _ _ _ 24 _ [.int q4] h1 _
    refine mw_if_ne (n := 27) (t := 30) dX9_see_24 rfl (by decide) Iff.rfl (fun c5 => ?_) (fun c5 => ?_)
    · refine mw_aload_n (n := 31) (q := 0) dX9_see_30 rfl rfl rfl ?_
      refine mw_geti (n := 34) (a := 82) (k := 10) cl9 (mkm hg (by decide) (by rfl)) (by decide) rfl rfl fl_X9_250 dX9_see_31 rfl ?_
      refine mw_bipush (n := 36) (v := 6) dX9_see_34 rfl (by decide) ?_
      refine mw_icmp_ne (n := 39) (t := 42) dX9_see_36 rfl (by decide) Iff.rfl (fun c6 => ?_) (fun c6 => ?_)
      · refine mw_aload_n (n := 43) (q := 0) dX9_see_42 rfl rfl rfl ?_
        refine mw_getr (n := 46) (a := 82) (k := 11) cl9 (mkm hg (by decide) (by rfl)) (by decide) rfl rfl fl_X9_32 dX9_see_43 rfl ?_
        refine mw_aload_n (n := 47) (q := 0) dX9_see_46 rfl rfl rfl ?_
        refine mw_geti (n := 50) (a := 82) (k := 10) cl9 (mkm hg (by decide) (by rfl)) (by decide) rfl rfl fl_X9_250 dX9_see_47 rfl ?_
        refine mw_iload_n (n := 51) (q := 1) dX9_see_50 rfl rfl rfl ?_
        refine mw_iast (n := 52) (a := 90) (N := 6) (mkm hg (by decide) (by rfl)) dX9_see_51 rfl (mw_leth (fun h7 => ?_))
        refine mw_aload_n (n := 53) (q := 0) dX9_see_52 rfl rfl rfl ?_
        refine mw_getr (n := 56) (a := 82) (k := 12) cl9 (mkm hg (by decide) (by rfl)) (by decide) rfl rfl fl_X9_35 dX9_see_53 rfl ?_
        refine mw_aload_n (n := 57) (q := 0) dX9_see_56 rfl rfl rfl ?_
        refine mw_geti (n := 60) (a := 82) (k := 10) cl9 (mkm hg (by decide) (by rfl)) (by decide) rfl rfl fl_X9_250 dX9_see_57 rfl ?_
        refine mw_iload_n (n := 61) (q := 2) dX9_see_60 rfl rfl rfl ?_
        refine mw_iast (n := 62) (a := 91) (N := 6) (mkm hg (by decide) (by rfl)) dX9_see_61 rfl (mw_leth (fun h8 => ?_))
        refine mw_aload_n (n := 63) (q := 0) dX9_see_62 rfl rfl rfl ?_
        refine mw_dup (n := 64) dX9_see_63 rfl rfl ?_
        refine mw_geti (n := 67) (a := 82) (k := 10) cl9 (mkm hg (by decide) (by rfl)) (by decide) rfl rfl fl_X9_250 dX9_see_64 rfl ?_
        refine mw_iconst (n := 68) (v := 1) dX9_see_67 rfl (by decide) ?_
        refine mw_iadd (n := 69) dX9_see_68 rfl ?_
        refine mw_puti (n := 72) (a := 82) (k := 10) cl9 ct9 (mkm hg (by decide) (by rfl)) (by decide) rfl rfl rfl rfl fl_X9_250 dX9_see_69 rfl (mw_leth (fun h9 => ?_))
        refine mw_aload_n (n := 73) (q := 0) dX9_see_72 rfl rfl rfl ?_
        refine mw_geti (n := 76) (a := 82) (k := 10) cl9 (mkm hg (by decide) (by rfl)) (by decide) rfl rfl fl_X9_250 dX9_see_73 rfl ?_
        exact mw_iret dX9_see_76 rfl rfl
      · refine mw_bipush (n := 41) (v := -4) dX9_see_39 rfl (by decide) ?_
        exact mw_iret dX9_see_41 rfl rfl
    · refine mw_bipush (n := 29) (v := -2) dX9_see_27 rfl (by decide) ?_
      exact mw_iret dX9_see_29 rfl rfl
noncomputable def x_X9_unsee (h : mH) : Option (Int32 × mH) :=
  mlet (msi h 82 0 (0 : Int32)) fun h1 =>
  mlet (mgi h1 82 10) fun u2 =>
  mlet (msi h1 82 10 (0 : Int32)) fun h3 =>
  some (u2, h3)
set_option maxRecDepth 20000 in
set_option maxHeartbeats 4000000 in
theorem t_X9_unsee {g : mG} {l : Launch} (hg : mnn g = 101) (h : mH) : mf g l 0 mX9_unsee (fun r : Int32 × mH => (some (Value.int r.1), r.2)) [.ref (mad g 82)] h (x_X9_unsee h) := by
  refine mf_of (by decide) (Nat.le_of_ble_eq_true rfl) ?_
  show mw g l 0 mX9_unsee (fun r : Int32 × mH => (some (Value.int r.1), r.2)) 0 [(0, .ref (mad g 82))] [] h _
  unfold x_X9_unsee
  refine mw_aload_n (n := 1) (q := 0) dX9_unsee_0 rfl rfl rfl ?_
  refine mw_iconst (n := 2) (v := 0) dX9_unsee_1 rfl (by decide) ?_
  refine mw_puti (n := 5) (a := 82) (k := 0) cl9 ct9 (mkm hg (by decide) (by rfl)) (by decide) rfl rfl rfl rfl fl_X9_65 dX9_unsee_2 rfl (mw_leth (fun h1 => ?_))
  refine mw_aload_n (n := 6) (q := 0) dX9_unsee_5 rfl rfl rfl ?_
  refine mw_geti (n := 9) (a := 82) (k := 10) cl9 (mkm hg (by decide) (by rfl)) (by decide) rfl rfl fl_X9_250 dX9_unsee_6 rfl ?_
  refine mw_letI (fun u2 => ?_)
  refine mw_istore_n (n := 10) dX9_unsee_9 rfl rfl (by decide) rfl ?_
  refine mw_aload_n (n := 11) (q := 1) dX9_unsee_10 rfl rfl rfl ?_
  refine mw_iconst (n := 12) (v := 0) dX9_unsee_11 rfl (by decide) ?_
  refine mw_puti (n := 15) (a := 82) (k := 10) cl9 ct9 (mkm hg (by decide) (by rfl)) (by decide) rfl rfl rfl rfl fl_X9_250 dX9_unsee_12 rfl (mw_leth (fun h3 => ?_))
  refine mw_iload_n (n := 16) (q := 0) dX9_unsee_15 rfl rfl rfl ?_
  exact mw_iret dX9_unsee_16 rfl rfl
noncomputable def x_X9_agrees_81 (N : Nat) (self4 : Int32 → Int32 → Option (Int32)) (v1 : Int32) (v3 : Int32) (s0 : Int32) (h : mH) : Option (Int32) :=
  self4 s0 (v3 + (1 : Int32))
set_option maxRecDepth 20000 in
set_option maxHeartbeats 4000000 in
theorem b_X9_agrees_81 {g : mG} {l : Launch} (hg : mnn g = 101) (N : Nat) (v1 : Int32) (v3 : Int32) (s0 : Int32) (h : mH) (self4 : Int32 → Int32 → Option (Int32)) (hself4 : ∀ (v2 : Int32) (v3 : Int32), mw g l 2 mX9_agrees (fun r : Int32 => (some (Value.int r), h)) 4 [(0, .ref (mad g 82)), (1, .int v1), (2, .int v2), (3, .int v3)] [] h (self4 v2 v3)) : mw g l 2 mX9_agrees (fun r : Int32 => (some (Value.int r), h)) 81 [(0, .ref (mad g 82)), (1, .int v1), (3, .int v3)] [.int s0] h (x_X9_agrees_81 N self4 v1 v3 s0 h) := by
  unfold x_X9_agrees_81
  refine mw_istore_n (n := 82) dX9_agrees_81 rfl rfl (by decide) rfl ?_
  refine mw_iinc (n := 85) (q := 3) (v := (v3 + (1 : Int32))) dX9_agrees_82 rfl rfl rfl (by decide) rfl ?_
  refine mw_goto (n := 4) dX9_agrees_85 (by decide) ?_
  refine mw_sub [2, 3, 1, 0] rfl ?_
  exact hself4 s0 (v3 + (1 : Int32))
noncomputable def x_X9_agrees_80 (N : Nat) (self4 : Int32 → Int32 → Option (Int32)) (v1 : Int32) (v3 : Int32) (h : mH) : Option (Int32) :=
  x_X9_agrees_81 N self4 v1 v3 (0 : Int32) h
set_option maxRecDepth 20000 in
set_option maxHeartbeats 4000000 in
theorem b_X9_agrees_80 {g : mG} {l : Launch} (hg : mnn g = 101) (N : Nat) (v1 : Int32) (v3 : Int32) (h : mH) (self4 : Int32 → Int32 → Option (Int32)) (hself4 : ∀ (v2 : Int32) (v3 : Int32), mw g l 2 mX9_agrees (fun r : Int32 => (some (Value.int r), h)) 4 [(0, .ref (mad g 82)), (1, .int v1), (2, .int v2), (3, .int v3)] [] h (self4 v2 v3)) : mw g l 2 mX9_agrees (fun r : Int32 => (some (Value.int r), h)) 80 [(0, .ref (mad g 82)), (1, .int v1), (3, .int v3)] [] h (x_X9_agrees_80 N self4 v1 v3 h) := by
  unfold x_X9_agrees_80
  refine mw_iconst (n := 81) (v := 0) dX9_agrees_80 rfl (by decide) ?_
  exact b_X9_agrees_81 hg N v1 v3 (0 : Int32) h self4 hself4
noncomputable def x_X9_agrees_50 (N : Nat) (self4 : Int32 → Int32 → Option (Int32)) (v1 : Int32) (v2 : Int32) (v3 : Int32) (s0 : Int32) (h : mH) : Option (Int32) :=
  if v2 = 0 then
    x_X9_agrees_80 N self4 v1 v3 h
  else
    mck v3 6 <|
    mlet (if ¬ s0 = (if ¬ (mgi h 91 (v3).toNatClampNeg) = (1 : Int32) then (0 : Int32) else (1 : Int32)) then (0 : Int32) else (1 : Int32)) fun u4 =>
    self4 u4 (v3 + (1 : Int32))
set_option maxRecDepth 20000 in
set_option maxHeartbeats 4000000 in
theorem b_X9_agrees_50 {g : mG} {l : Launch} (hg : mnn g = 101) (N : Nat) (v1 : Int32) (v2 : Int32) (v3 : Int32) (s0 : Int32) (h : mH) (self4 : Int32 → Int32 → Option (Int32)) (hself4 : ∀ (v2 : Int32) (v3 : Int32), mw g l 2 mX9_agrees (fun r : Int32 => (some (Value.int r), h)) 4 [(0, .ref (mad g 82)), (1, .int v1), (2, .int v2), (3, .int v3)] [] h (self4 v2 v3)) : mw g l 2 mX9_agrees (fun r : Int32 => (some (Value.int r), h)) 50 [(0, .ref (mad g 82)), (1, .int v1), (2, .int v2), (3, .int v3)] [.int s0] h (x_X9_agrees_50 N self4 v1 v2 v3 s0 h) := by
  unfold x_X9_agrees_50
  refine mw_istore (n := 52) dX9_agrees_50 rfl (by decide) rfl ?_
  refine mw_iload_n (n := 53) (q := 3) dX9_agrees_52 rfl rfl rfl ?_
  refine mw_if_eq (n := 56) (t := 80) dX9_agrees_53 rfl (by decide) Iff.rfl (fun c1 => ?_) (fun c1 => ?_)
  · refine mw_sub [1, 2, 4] rfl ?_
    exact b_X9_agrees_80 hg N v1 v3 h self4 hself4
  · refine mw_iload (n := 58) (q := 0) dX9_agrees_56 rfl rfl ?_
    refine mw_aload_n (n := 59) (q := 1) dX9_agrees_58 rfl rfl rfl ?_
    refine mw_getr (n := 62) (a := 82) (k := 12) cl9 (mkm hg (by decide) (by rfl)) (by decide) rfl rfl fl_X9_35 dX9_agrees_59 rfl ?_
    refine mw_iload_n (n := 63) (q := 4) dX9_agrees_62 rfl rfl rfl ?_
    refine mw_iald (n := 64) (a := 91) (N := 6) (mkm hg (by decide) (by rfl)) dX9_agrees_63 rfl ?_
    refine mw_iconst (n := 65) (v := 1) dX9_agrees_64 rfl (by decide) ?_
    refine mw_cutJ (pc' := 73) (lv' := [(4, .int s0), (0, .ref (mad g 82)), (1, .int v1), (2, .int v2), (3, .int v3)]) (st' := [.int (if ¬ (mgi h 91 (v3).toNatClampNeg) = (1 : Int32) then (0 : Int32) else (1 : Int32)), .int s0]) (fun J => ?_) ?_
    · refine mw_icmp_ne_m (n := 68) (t := 72) dX9_agrees_65 rfl (by decide) (fun c2 => ?_) (fun c2 => ?_)
      · refine mw_iconst (n := 73) (v := 0) dX9_agrees_72 rfl (by decide) ?_
        exact mw_topeq (if_pos c2).symm J
      · refine mw_iconst (n := 69) (v := 1) dX9_agrees_68 rfl (by decide) ?_
        refine mw_goto (n := 73) dX9_agrees_69 (by decide) ?_
        exact mw_topeq (if_neg c2).symm J
    refine mw_cutJ (pc' := 81) (lv' := [(4, .int s0), (0, .ref (mad g 82)), (1, .int v1), (2, .int v2), (3, .int v3)]) (st' := [.int (if ¬ s0 = (if ¬ (mgi h 91 (v3).toNatClampNeg) = (1 : Int32) then (0 : Int32) else (1 : Int32)) then (0 : Int32) else (1 : Int32))]) (fun J => ?_) ?_
    · refine mw_icmp_ne_m (n := 76) (t := 80) dX9_agrees_73 rfl (by decide) (fun c3 => ?_) (fun c3 => ?_)
      · refine mw_iconst (n := 81) (v := 0) dX9_agrees_80 rfl (by decide) ?_
        exact mw_topeq (if_pos c3).symm J
      · refine mw_iconst (n := 77) (v := 1) dX9_agrees_76 rfl (by decide) ?_
        refine mw_goto (n := 81) dX9_agrees_77 (by decide) ?_
        exact mw_topeq (if_neg c3).symm J
    refine mw_letI (fun u4 => ?_)
    refine mw_istore_n (n := 82) dX9_agrees_81 rfl rfl (by decide) rfl ?_
    refine mw_iinc (n := 85) (q := 4) (v := (v3 + (1 : Int32))) dX9_agrees_82 rfl rfl rfl (by decide) rfl ?_
    refine mw_goto (n := 4) dX9_agrees_85 (by decide) ?_
    refine mw_sub [3, 4, 1, 0] rfl ?_
    exact hself4 u4 (v3 + (1 : Int32))
noncomputable def x_X9_agrees_49 (N : Nat) (self4 : Int32 → Int32 → Option (Int32)) (v1 : Int32) (v2 : Int32) (v3 : Int32) (h : mH) : Option (Int32) :=
  x_X9_agrees_50 N self4 v1 v2 v3 (0 : Int32) h
set_option maxRecDepth 20000 in
set_option maxHeartbeats 4000000 in
theorem b_X9_agrees_49 {g : mG} {l : Launch} (hg : mnn g = 101) (N : Nat) (v1 : Int32) (v2 : Int32) (v3 : Int32) (h : mH) (self4 : Int32 → Int32 → Option (Int32)) (hself4 : ∀ (v2 : Int32) (v3 : Int32), mw g l 2 mX9_agrees (fun r : Int32 => (some (Value.int r), h)) 4 [(0, .ref (mad g 82)), (1, .int v1), (2, .int v2), (3, .int v3)] [] h (self4 v2 v3)) : mw g l 2 mX9_agrees (fun r : Int32 => (some (Value.int r), h)) 49 [(0, .ref (mad g 82)), (1, .int v1), (2, .int v2), (3, .int v3)] [] h (x_X9_agrees_49 N self4 v1 v2 v3 h) := by
  unfold x_X9_agrees_49
  refine mw_iconst (n := 50) (v := 0) dX9_agrees_49 rfl (by decide) ?_
  exact b_X9_agrees_50 hg N v1 v2 v3 (0 : Int32) h self4 hself4
noncomputable def x_X9_agrees_4 (N : Nat) (v1 : Int32) (h : mH) (f : Nat) : Int32 → Int32 → Option (Int32) :=
  Nat.rec (motive := fun _ => Int32 → Int32 → Option (Int32)) (fun _ _ => none) (fun _ self4 => fun v2 v3 => 
    if (mgi h 82 10) ≤ v3 then
      mzc v2 (some v2)
    else
      mck v3 6 <|
      (x_X9_cells 85 h).bind fun q2 =>
      if q2 ≤ (mgi h 90 (v3).toNatClampNeg) then
        x_X9_agrees_49 N self4 v1 v2 v3 h
      else
        mck v3 6 <|
        (x_X9_isYes 85 v1 (mgi h 90 (v3).toNatClampNeg) h).bind fun q4 =>
        mlet (if q4 = 0 then (0 : Int32) else (1 : Int32)) fun u6 =>
        if v2 = 0 then
          x_X9_agrees_80 N self4 v1 v3 h
        else
          mck v3 6 <|
          mlet (if ¬ u6 = (if ¬ (mgi h 91 (v3).toNatClampNeg) = (1 : Int32) then (0 : Int32) else (1 : Int32)) then (0 : Int32) else (1 : Int32)) fun u10 =>
          self4 u10 (v3 + (1 : Int32))) f
theorem x_X9_agrees_4_0 (N : Nat) (v1 : Int32) (h : mH) (v2 : Int32) (v3 : Int32) : x_X9_agrees_4 N v1 h 0 v2 v3 = none := rfl
theorem x_X9_agrees_4_s (N : Nat) (v1 : Int32) (h : mH) (f : Nat) (v2 : Int32) (v3 : Int32) : x_X9_agrees_4 N v1 h (f + 1) v2 v3 = (
    if (mgi h 82 10) ≤ v3 then
      mzc v2 (some v2)
    else
      mck v3 6 <|
      (x_X9_cells 85 h).bind fun q2 =>
      if q2 ≤ (mgi h 90 (v3).toNatClampNeg) then
        x_X9_agrees_49 N (x_X9_agrees_4 N v1 h f) v1 v2 v3 h
      else
        mck v3 6 <|
        (x_X9_isYes 85 v1 (mgi h 90 (v3).toNatClampNeg) h).bind fun q4 =>
        mlet (if q4 = 0 then (0 : Int32) else (1 : Int32)) fun u6 =>
        if v2 = 0 then
          x_X9_agrees_80 N (x_X9_agrees_4 N v1 h f) v1 v3 h
        else
          mck v3 6 <|
          mlet (if ¬ u6 = (if ¬ (mgi h 91 (v3).toNatClampNeg) = (1 : Int32) then (0 : Int32) else (1 : Int32)) then (0 : Int32) else (1 : Int32)) fun u10 =>
          (x_X9_agrees_4 N v1 h f) u10 (v3 + (1 : Int32))) := rfl
set_option maxRecDepth 20000 in
set_option maxHeartbeats 4000000 in
theorem b_X9_agrees_4 {g : mG} {l : Launch} (hg : mnn g = 101) (N : Nat) (v1 : Int32) (h : mH) (f : Nat) : ∀ (v2 : Int32) (v3 : Int32), mw g l 2 mX9_agrees (fun r : Int32 => (some (Value.int r), h)) 4 [(0, .ref (mad g 82)), (1, .int v1), (2, .int v2), (3, .int v3)] [] h (x_X9_agrees_4 N v1 h f v2 v3) := by
  induction f with
  | zero => intros; exact mw_none
  | succ f hself4 =>
    intro v2 v3
    refine mw_eq (x_X9_agrees_4_s N v1 h f v2 v3) ?_
    generalize x_X9_agrees_4 N v1 h f = self4 at hself4 ⊢
    refine mw_iload_n (n := 5) (q := 3) dX9_agrees_4 rfl rfl rfl ?_
    refine mw_aload_n (n := 6) (q := 0) dX9_agrees_5 rfl rfl rfl ?_
    refine mw_geti (n := 9) (a := 82) (k := 10) cl9 (mkm hg (by decide) (by rfl)) (by decide) rfl rfl fl_X9_250 dX9_agrees_6 rfl ?_
    refine mw_icmp_ge (n := 12) (t := 88) dX9_agrees_9 rfl (by decide) Iff.rfl (fun c1 => ?_) (fun c1 => ?_)
    · refine mw_iload_n (n := 89) (q := 2) dX9_agrees_88 rfl rfl rfl ?_
      exact mw_zretC dX9_agrees_89 rfl rfl
    · refine mw_aload_n (n := 13) (q := 0) dX9_agrees_12 rfl rfl rfl ?_
      refine mw_getr (n := 16) (a := 82) (k := 11) cl9 (mkm hg (by decide) (by rfl)) (by decide) rfl rfl fl_X9_32 dX9_agrees_13 rfl ?_
      refine mw_iload_n (n := 17) (q := 3) dX9_agrees_16 rfl rfl rfl ?_
      refine mw_iald (n := 18) (a := 90) (N := 6) (mkm hg (by decide) (by rfl)) dX9_agrees_17 rfl ?_
      refine mw_aload_n (n := 19) (q := 0) dX9_agrees_18 rfl rfl rfl ?_
      refine mw_getr (n := 22) (a := 82) (k := 4) cl9 (mkm hg (by decide) (by rfl)) (by decide) rfl rfl fl_X9_16 dX9_agrees_19 rfl ?_
      refine mw_callS (n := 25) (As := [.ref (mad g 85)]) (t_X9_cells hg 85 (mkm hg (by decide) (by rfl)) h) (by decide) ok_X9_cells rfl lk_X9_69 sm_X9_cells dX9_agrees_22 rfl rfl (Nat.le_of_ble_eq_true rfl) (fun q2 _ => ?_)
      show mw g l _ _ _ 25 _ [.int q2, .int (mgi h 90 (v3).toNatClampNeg)] h _
      refine mw_icmp_ge (n := 28) (t := 49) dX9_agrees_25 rfl (by decide) Iff.rfl (fun c3 => ?_) (fun c3 => ?_)
      · exact b_X9_agrees_49 hg N v1 v2 v3 h self4 hself4
      · refine mw_aload_n (n := 29) (q := 0) dX9_agrees_28 rfl rfl rfl ?_
        refine mw_getr (n := 32) (a := 82) (k := 4) cl9 (mkm hg (by decide) (by rfl)) (by decide) rfl rfl fl_X9_16 dX9_agrees_29 rfl ?_
        refine mw_iload_n (n := 33) (q := 1) dX9_agrees_32 rfl rfl rfl ?_
        refine mw_aload_n (n := 34) (q := 0) dX9_agrees_33 rfl rfl rfl ?_
        refine mw_getr (n := 37) (a := 82) (k := 11) cl9 (mkm hg (by decide) (by rfl)) (by decide) rfl rfl fl_X9_32 dX9_agrees_34 rfl ?_
        refine mw_iload_n (n := 38) (q := 3) dX9_agrees_37 rfl rfl rfl ?_
        refine mw_iald (n := 39) (a := 90) (N := 6) (mkm hg (by decide) (by rfl)) dX9_agrees_38 rfl ?_
        refine mw_callS (n := 42) (As := [.ref (mad g 85), .int v1, .int (mgi h 90 (v3).toNatClampNeg)]) (t_X9_isYes hg 85 v1 (mgi h 90 (v3).toNatClampNeg) (mkm hg (by decide) (by rfl)) h) (by decide) ok_X9_isYes rfl lk_X9_170 sm_X9_isYes dX9_agrees_39 rfl rfl (Nat.le_of_ble_eq_true rfl) (fun q4 _ => ?_)
        show mw g l _ _ _ 42 _ [.int q4] h _
        refine mw_cutJ (pc' := 50) (lv' := [(0, .ref (mad g 82)), (1, .int v1), (2, .int v2), (3, .int v3)]) (st' := [.int (if q4 = 0 then (0 : Int32) else (1 : Int32))]) (fun J => ?_) ?_
        · refine mw_if_eq_m (n := 45) (t := 49) dX9_agrees_42 rfl (by decide) (fun c5 => ?_) (fun c5 => ?_)
          · refine mw_iconst (n := 50) (v := 0) dX9_agrees_49 rfl (by decide) ?_
            exact mw_topeq (if_pos c5).symm J
          · refine mw_iconst (n := 46) (v := 1) dX9_agrees_45 rfl (by decide) ?_
            refine mw_goto (n := 50) dX9_agrees_46 (by decide) ?_
            exact mw_topeq (if_neg c5).symm J
        refine mw_letI (fun u6 => ?_)
        refine mw_istore (n := 52) dX9_agrees_50 rfl (by decide) rfl ?_
        refine mw_iload_n (n := 53) (q := 3) dX9_agrees_52 rfl rfl rfl ?_
        refine mw_if_eq (n := 56) (t := 80) dX9_agrees_53 rfl (by decide) Iff.rfl (fun c7 => ?_) (fun c7 => ?_)
        · refine mw_sub [1, 2, 4] rfl ?_
          exact b_X9_agrees_80 hg N v1 v3 h self4 hself4
        · refine mw_iload (n := 58) (q := 0) dX9_agrees_56 rfl rfl ?_
          refine mw_aload_n (n := 59) (q := 1) dX9_agrees_58 rfl rfl rfl ?_
          refine mw_getr (n := 62) (a := 82) (k := 12) cl9 (mkm hg (by decide) (by rfl)) (by decide) rfl rfl fl_X9_35 dX9_agrees_59 rfl ?_
          refine mw_iload_n (n := 63) (q := 4) dX9_agrees_62 rfl rfl rfl ?_
          refine mw_iald (n := 64) (a := 91) (N := 6) (mkm hg (by decide) (by rfl)) dX9_agrees_63 rfl ?_
          refine mw_iconst (n := 65) (v := 1) dX9_agrees_64 rfl (by decide) ?_
          refine mw_cutJ (pc' := 73) (lv' := [(4, .int u6), (0, .ref (mad g 82)), (1, .int v1), (2, .int v2), (3, .int v3)]) (st' := [.int (if ¬ (mgi h 91 (v3).toNatClampNeg) = (1 : Int32) then (0 : Int32) else (1 : Int32)), .int u6]) (fun J => ?_) ?_
          · refine mw_icmp_ne_m (n := 68) (t := 72) dX9_agrees_65 rfl (by decide) (fun c8 => ?_) (fun c8 => ?_)
            · refine mw_iconst (n := 73) (v := 0) dX9_agrees_72 rfl (by decide) ?_
              exact mw_topeq (if_pos c8).symm J
            · refine mw_iconst (n := 69) (v := 1) dX9_agrees_68 rfl (by decide) ?_
              refine mw_goto (n := 73) dX9_agrees_69 (by decide) ?_
              exact mw_topeq (if_neg c8).symm J
          refine mw_cutJ (pc' := 81) (lv' := [(4, .int u6), (0, .ref (mad g 82)), (1, .int v1), (2, .int v2), (3, .int v3)]) (st' := [.int (if ¬ u6 = (if ¬ (mgi h 91 (v3).toNatClampNeg) = (1 : Int32) then (0 : Int32) else (1 : Int32)) then (0 : Int32) else (1 : Int32))]) (fun J => ?_) ?_
          · refine mw_icmp_ne_m (n := 76) (t := 80) dX9_agrees_73 rfl (by decide) (fun c9 => ?_) (fun c9 => ?_)
            · refine mw_iconst (n := 81) (v := 0) dX9_agrees_80 rfl (by decide) ?_
              exact mw_topeq (if_pos c9).symm J
            · refine mw_iconst (n := 77) (v := 1) dX9_agrees_76 rfl (by decide) ?_
              refine mw_goto (n := 81) dX9_agrees_77 (by decide) ?_
              exact mw_topeq (if_neg c9).symm J
          refine mw_letI (fun u10 => ?_)
          refine mw_istore_n (n := 82) dX9_agrees_81 rfl rfl (by decide) rfl ?_
          refine mw_iinc (n := 85) (q := 4) (v := (v3 + (1 : Int32))) dX9_agrees_82 rfl rfl rfl (by decide) rfl ?_
          refine mw_goto (n := 4) dX9_agrees_85 (by decide) ?_
          refine mw_sub [3, 4, 1, 0] rfl ?_
          exact hself4 u10 (v3 + (1 : Int32))
noncomputable def x_X9_agrees (N : Nat) (p0 : Int32) (h : mH) : Option (Int32) :=
  x_X9_agrees_4 N p0 h N (1 : Int32) (0 : Int32)
set_option maxRecDepth 20000 in
set_option maxHeartbeats 4000000 in
theorem t_X9_agrees {g : mG} {l : Launch} (hg : mnn g = 101) (N : Nat) (p0 : Int32) (h : mH) : mf g l 2 mX9_agrees (fun r : Int32 => (some (Value.int r), h)) [.ref (mad g 82), .int p0] h (x_X9_agrees N p0 h) := by
  refine mf_of (by decide) (Nat.le_of_ble_eq_true rfl) ?_
  show mw g l 2 mX9_agrees (fun r : Int32 => (some (Value.int r), h)) 0 [(0, .ref (mad g 82)), (1, .int p0)] [] h _
  unfold x_X9_agrees
  refine mw_iconst (n := 1) (v := 1) dX9_agrees_0 rfl (by decide) ?_
  refine mw_istore_n (n := 2) dX9_agrees_1 rfl rfl (by decide) rfl ?_
  refine mw_iconst (n := 3) (v := 0) dX9_agrees_2 rfl (by decide) ?_
  refine mw_istore_n (n := 4) dX9_agrees_3 rfl rfl (by decide) rfl ?_
  refine mw_sub [2, 3, 1, 0] rfl ?_
  exact b_X9_agrees_4 hg N p0 h N (1 : Int32) (0 : Int32)
noncomputable def x_X9_which_65 (N : Nat) (self40 : Int32 → Int32 → Int32 → mH → Option (Int32 × mH)) (v1 : Int32) (v2 : Int32) (v3 : Int32) (v4 : Int32) (h : mH) : Option (Int32 × mH) :=
  self40 v2 v3 (v4 + (-1 : Int32)) h
set_option maxRecDepth 20000 in
set_option maxHeartbeats 4000000 in
theorem b_X9_which_65 {g : mG} {l : Launch} (hg : mnn g = 101) (N : Nat) (v1 : Int32) (v2 : Int32) (v3 : Int32) (v4 : Int32) (self40 : Int32 → Int32 → Int32 → mH → Option (Int32 × mH)) (hself40 : ∀ (v2 : Int32) (v3 : Int32) (v4 : Int32) (h : mH), mw g l 3 mX9_which (fun r : Int32 × mH => (some (Value.int r.1), r.2)) 40 [(0, .ref (mad g 82)), (1, .int v1), (2, .int v2), (3, .int v3), (4, .int v4)] [] h (self40 v2 v3 v4 h)) (h : mH) : mw g l 3 mX9_which (fun r : Int32 × mH => (some (Value.int r.1), r.2)) 65 [(0, .ref (mad g 82)), (1, .int v1), (2, .int v2), (3, .int v3), (4, .int v4)] [] h (x_X9_which_65 N self40 v1 v2 v3 v4 h) := by
  unfold x_X9_which_65
  refine mw_iinc (n := 68) (q := 4) (v := (v4 + (-1 : Int32))) dX9_which_65 rfl rfl rfl (by decide) rfl ?_
  refine mw_goto (n := 40) dX9_which_68 (by decide) ?_
  refine mw_sub [1, 2, 3, 4, 0] rfl ?_
  exact hself40 v2 v3 (v4 + (-1 : Int32)) h
noncomputable def x_X9_which_40 (N : Nat) (v1 : Int32) (f : Nat) : Int32 → Int32 → Int32 → mH → Option (Int32 × mH) :=
  Nat.rec (motive := fun _ => Int32 → Int32 → Int32 → mH → Option (Int32 × mH)) (fun _ _ _ _ => none) (fun _ self40 => fun v2 v3 v4 h => 
    if v4 < 0 then
      some ((if ¬ v1 = 0 then v3 else v2), h)
    else
      mck v4 1000 <|
      (x_X9_agrees N (mgi h 94 (v4).toNatClampNeg) h).bind fun q3 =>
      if q3 = 0 then
        x_X9_which_65 N self40 v1 v2 v3 v4 h
      else
        x_X9_which_65 N self40 v1 (v2 + (1 : Int32)) v4 v4 h) f
theorem x_X9_which_40_0 (N : Nat) (v1 : Int32) (v2 : Int32) (v3 : Int32) (v4 : Int32) (h : mH) : x_X9_which_40 N v1 0 v2 v3 v4 h = none := rfl
theorem x_X9_which_40_s (N : Nat) (v1 : Int32) (f : Nat) (v2 : Int32) (v3 : Int32) (v4 : Int32) (h : mH) : x_X9_which_40 N v1 (f + 1) v2 v3 v4 h = (
    if v4 < 0 then
      some ((if ¬ v1 = 0 then v3 else v2), h)
    else
      mck v4 1000 <|
      (x_X9_agrees N (mgi h 94 (v4).toNatClampNeg) h).bind fun q3 =>
      if q3 = 0 then
        x_X9_which_65 N (x_X9_which_40 N v1 f) v1 v2 v3 v4 h
      else
        x_X9_which_65 N (x_X9_which_40 N v1 f) v1 (v2 + (1 : Int32)) v4 v4 h) := rfl
set_option maxRecDepth 20000 in
set_option maxHeartbeats 4000000 in
theorem b_X9_which_40 {g : mG} {l : Launch} (hg : mnn g = 101) (N : Nat) (v1 : Int32) (f : Nat) : ∀ (v2 : Int32) (v3 : Int32) (v4 : Int32) (h : mH), mw g l 3 mX9_which (fun r : Int32 × mH => (some (Value.int r.1), r.2)) 40 [(0, .ref (mad g 82)), (1, .int v1), (2, .int v2), (3, .int v3), (4, .int v4)] [] h (x_X9_which_40 N v1 f v2 v3 v4 h) := by
  induction f with
  | zero => intros; exact mw_none
  | succ f hself40 =>
    intro v2 v3 v4 h
    refine mw_eq (x_X9_which_40_s N v1 f v2 v3 v4 h) ?_
    generalize x_X9_which_40 N v1 f = self40 at hself40 ⊢
    refine mw_iload (n := 42) (q := 4) dX9_which_40 rfl rfl ?_
    refine mw_if_lt (n := 45) (t := 71) dX9_which_42 rfl (by decide) Iff.rfl (fun c1 => ?_) (fun c1 => ?_)
    · refine mw_iload_n (n := 72) (q := 1) dX9_which_71 rfl rfl rfl ?_
      refine mw_cutJ (pc' := 80) (lv' := [(0, .ref (mad g 82)), (1, .int v1), (2, .int v2), (3, .int v3), (4, .int v4)]) (st' := [.int (if ¬ v1 = 0 then v3 else v2)]) (fun J => ?_) ?_
      · refine mw_if_ne_m (n := 75) (t := 79) dX9_which_72 rfl (by decide) (fun c2 => ?_) (fun c2 => ?_)
        · refine mw_iload_n (n := 80) (q := 3) dX9_which_79 rfl rfl rfl ?_
          exact mw_topeq (if_pos c2).symm J
        · refine mw_iload_n (n := 76) (q := 2) dX9_which_75 rfl rfl rfl ?_
          refine mw_goto (n := 80) dX9_which_76 (by decide) ?_
          exact mw_topeq (if_neg c2).symm J
      exact mw_iret dX9_which_80 rfl rfl
    · refine mw_aload_n (n := 46) (q := 0) dX9_which_45 rfl rfl rfl ?_
      refine mw_aload_n (n := 47) (q := 0) dX9_which_46 rfl rfl rfl ?_
      refine mw_getr (n := 50) (a := 82) (k := 16) cl9 (mkm hg (by decide) (by rfl)) (by decide) rfl rfl fl_X9_44 dX9_which_47 rfl ?_
      refine mw_iload (n := 52) (q := 4) dX9_which_50 rfl rfl ?_
      refine mw_iald (n := 53) (a := 94) (N := 1000) (mkm hg (by decide) (by rfl)) dX9_which_52 rfl ?_
      refine mw_callV (n := 56) (a := 82) (As := [.int (mgi h 94 (v4).toNatClampNeg)]) cl9 (mkm hg (by decide) (by rfl)) (t_X9_agrees hg N (mgi h 94 (v4).toNatClampNeg) h) (by decide) ok_X9_agrees rfl rfl lk_X9_253 im_X9_agrees se_X9_agrees dX9_which_53 rfl rfl (Nat.le_of_ble_eq_true rfl) (fun q3 _ => ?_)
      show mw g l _ _ _ 56 _ [.int q3] h _
      refine mw_if_eq (n := 59) (t := 65) dX9_which_56 rfl (by decide) Iff.rfl (fun c4 => ?_) (fun c4 => ?_)
      · exact b_X9_which_65 hg N v1 v2 v3 v4 self40 hself40 h
      · refine mw_iinc (n := 62) (q := 2) (v := (v2 + (1 : Int32))) dX9_which_59 rfl rfl rfl (by decide) rfl ?_
        refine mw_iload (n := 64) (q := 4) dX9_which_62 rfl rfl ?_
        refine mw_istore_n (n := 65) dX9_which_64 rfl rfl (by decide) rfl ?_
        refine mw_sub [2, 3, 1, 0, 4] rfl ?_
        exact b_X9_which_65 hg N v1 (v2 + (1 : Int32)) v4 v4 self40 hself40 h
noncomputable def x_X9_which (N : Nat) (p0 : Int32) (h : mH) : Option (Int32 × mH) :=
  mlet (msi h 82 0 (0 : Int32)) fun h1 =>
  (x_X9_in ((p0).toInt64) (0 : Int64) (1 : Int64)).bind fun q2 =>
  if ¬ q2 = 0 then
    (x_X9_list N 85 (1 : Int32) h1).bind fun q4 =>
    mlet ((mgi q4 82 17) - (1 : Int32)) fun u5 =>
    x_X9_which_40 N p0 N (0 : Int32) (-9 : Int32) u5 q4
  else
    some ((-2 : Int32), h1)
set_option maxRecDepth 20000 in
set_option maxHeartbeats 4000000 in
theorem t_X9_which {g : mG} {l : Launch} (hg : mnn g = 101) (N : Nat) (p0 : Int32) (h : mH) : mf g l 3 mX9_which (fun r : Int32 × mH => (some (Value.int r.1), r.2)) [.ref (mad g 82), .int p0] h (x_X9_which N p0 h) := by
  refine mf_of (by decide) (Nat.le_of_ble_eq_true rfl) ?_
  show mw g l 3 mX9_which (fun r : Int32 × mH => (some (Value.int r.1), r.2)) 0 [(0, .ref (mad g 82)), (1, .int p0)] [] h _
  unfold x_X9_which
  refine mw_aload_n (n := 1) (q := 0) dX9_which_0 rfl rfl rfl ?_
  refine mw_iconst (n := 2) (v := 0) dX9_which_1 rfl (by decide) ?_
  refine mw_puti (n := 5) (a := 82) (k := 0) cl9 ct9 (mkm hg (by decide) (by rfl)) (by decide) rfl rfl rfl rfl fl_X9_65 dX9_which_2 rfl (mw_leth (fun h1 => ?_))
  refine mw_iload_n (n := 6) (q := 1) dX9_which_5 rfl rfl rfl ?_
  refine mw_i2l (n := 7) dX9_which_6 rfl ?_
  refine mw_lconst (n := 8) (v := 0) dX9_which_7 rfl (by decide) ?_
  refine mw_lconst (n := 9) (v := 1) dX9_which_8 rfl (by decide) ?_
  refine mw_callS (n := 12) (As := [.long (p0).toInt64, .long (0 : Int64), .long (1 : Int64)]) (t_X9_in hg ((p0).toInt64) (0 : Int64) (1 : Int64) h1) (by decide) ok_X9_in rfl lk_X9_77 sm_X9_in dX9_which_9 rfl rfl (Nat.le_of_ble_eq_true rfl) (fun q2 _ => ?_)
  show mw g l _ _ _ 12 _ [.int q2] h1 _
  refine mw_if_ne (n := 15) (t := 18) dX9_which_12 rfl (by decide) Iff.rfl (fun c3 => ?_) (fun c3 => ?_)
  · refine mw_aload_n (n := 19) (q := 0) dX9_which_18 rfl rfl rfl ?_
    refine mw_aload_n (n := 20) (q := 0) dX9_which_19 rfl rfl rfl ?_
    refine mw_getr (n := 23) (a := 82) (k := 4) cl9 (mkm hg (by decide) (by rfl)) (by decide) rfl rfl fl_X9_16 dX9_which_20 rfl ?_
    refine mw_iconst (n := 24) (v := 1) dX9_which_23 rfl (by decide) ?_
    refine mw_callV (n := 27) (a := 82) (As := [.ref (mad g 85), .int (1 : Int32)]) cl9 (mkm hg (by decide) (by rfl)) (t_X9_list hg N 85 (1 : Int32) (mkm hg (by decide) (by rfl)) h1) (by decide) ok_X9_list rfl rfl lk_X9_122 im_X9_list se_X9_list dX9_which_24 rfl rfl (Nat.le_of_ble_eq_true rfl) (fun q4 _ => ?_)
    show mw g l _ _ _ 27 _ [] q4 _
    refine mw_iconst (n := 28) (v := 0) dX9_which_27 rfl (by decide) ?_
    refine mw_istore_n (n := 29) dX9_which_28 rfl rfl (by decide) rfl ?_
    refine mw_bipush (n := 31) (v := -9) dX9_which_29 rfl (by decide) ?_
    refine mw_istore_n (n := 32) dX9_which_31 rfl rfl (by decide) rfl ?_
    refine mw_aload_n (n := 33) (q := 2) dX9_which_32 rfl rfl rfl ?_
    refine mw_geti (n := 36) (a := 82) (k := 17) cl9 (mkm hg (by decide) (by rfl)) (by decide) rfl rfl fl_X9_112 dX9_which_33 rfl ?_
    refine mw_iconst (n := 37) (v := 1) dX9_which_36 rfl (by decide) ?_
    refine mw_isub (n := 38) dX9_which_37 rfl ?_
    refine mw_letI (fun u5 => ?_)
    refine mw_istore (n := 40) dX9_which_38 rfl (by decide) rfl ?_
    refine mw_sub [3, 4, 2, 1, 0] rfl ?_
    exact b_X9_which_40 hg N p0 N (0 : Int32) (-9 : Int32) u5 q4
  · refine mw_bipush (n := 17) (v := -2) dX9_which_15 rfl (by decide) ?_
    exact mw_iret dX9_which_17 rfl rfl
noncomputable def x_X9_listPins_37 (N : Nat) (self4 : Int32 → Int32 → mH → Option (Int32 × mH)) (v1 : Int32) (v2 : Int32) (h : mH) : Option (Int32 × mH) :=
  self4 v1 (v2 + (1 : Int32)) h
set_option maxRecDepth 20000 in
set_option maxHeartbeats 4000000 in
theorem b_X9_listPins_37 {g : mG} {l : Launch} (hg : mnn g = 101) (N : Nat) (v1 : Int32) (v2 : Int32) (self4 : Int32 → Int32 → mH → Option (Int32 × mH)) (hself4 : ∀ (v1 : Int32) (v2 : Int32) (h : mH), mw g l 1 mX9_listPins (fun r : Int32 × mH => (some (Value.int r.1), r.2)) 4 [(0, .ref (mad g 82)), (1, .int v1), (2, .int v2)] [] h (self4 v1 v2 h)) (h : mH) : mw g l 1 mX9_listPins (fun r : Int32 × mH => (some (Value.int r.1), r.2)) 37 [(0, .ref (mad g 82)), (1, .int v1), (2, .int v2)] [] h (x_X9_listPins_37 N self4 v1 v2 h) := by
  unfold x_X9_listPins_37
  refine mw_iinc (n := 40) (q := 2) (v := (v2 + (1 : Int32))) dX9_listPins_37 rfl rfl rfl (by decide) rfl ?_
  refine mw_goto (n := 4) dX9_listPins_40 (by decide) ?_
  refine mw_sub [1, 2, 0] rfl ?_
  exact hself4 v1 (v2 + (1 : Int32)) h
noncomputable def x_X9_listPins_4 (N : Nat) (f : Nat) : Int32 → Int32 → mH → Option (Int32 × mH) :=
  Nat.rec (motive := fun _ => Int32 → Int32 → mH → Option (Int32 × mH)) (fun _ _ _ => none) (fun _ self4 => fun v1 v2 h => 
    (x_X9_cells 85 h).bind fun q1 =>
    if q1 ≤ v2 then
      some (v1, h)
    else
      mck ((11 : Int32) + v2) 32 <|
      if (mgi h 85 (((11 : Int32) + v2)).toNatClampNeg) ≤ 0 then
        x_X9_listPins_37 N self4 v1 v2 h
      else
        mck v1 6 <|
        mlet (msi h 99 (v1).toNatClampNeg v2) fun h4 =>
        x_X9_listPins_37 N self4 (v1 + (1 : Int32)) v2 h4) f
theorem x_X9_listPins_4_0 (N : Nat) (v1 : Int32) (v2 : Int32) (h : mH) : x_X9_listPins_4 N 0 v1 v2 h = none := rfl
theorem x_X9_listPins_4_s (N : Nat) (f : Nat) (v1 : Int32) (v2 : Int32) (h : mH) : x_X9_listPins_4 N (f + 1) v1 v2 h = (
    (x_X9_cells 85 h).bind fun q1 =>
    if q1 ≤ v2 then
      some (v1, h)
    else
      mck ((11 : Int32) + v2) 32 <|
      if (mgi h 85 (((11 : Int32) + v2)).toNatClampNeg) ≤ 0 then
        x_X9_listPins_37 N (x_X9_listPins_4 N f) v1 v2 h
      else
        mck v1 6 <|
        mlet (msi h 99 (v1).toNatClampNeg v2) fun h4 =>
        x_X9_listPins_37 N (x_X9_listPins_4 N f) (v1 + (1 : Int32)) v2 h4) := rfl
set_option maxRecDepth 20000 in
set_option maxHeartbeats 4000000 in
theorem b_X9_listPins_4 {g : mG} {l : Launch} (hg : mnn g = 101) (N : Nat) (f : Nat) : ∀ (v1 : Int32) (v2 : Int32) (h : mH), mw g l 1 mX9_listPins (fun r : Int32 × mH => (some (Value.int r.1), r.2)) 4 [(0, .ref (mad g 82)), (1, .int v1), (2, .int v2)] [] h (x_X9_listPins_4 N f v1 v2 h) := by
  induction f with
  | zero => intros; exact mw_none
  | succ f hself4 =>
    intro v1 v2 h
    refine mw_eq (x_X9_listPins_4_s N f v1 v2 h) ?_
    generalize x_X9_listPins_4 N f = self4 at hself4 ⊢
    refine mw_iload_n (n := 5) (q := 2) dX9_listPins_4 rfl rfl rfl ?_
    refine mw_aload_n (n := 6) (q := 0) dX9_listPins_5 rfl rfl rfl ?_
    refine mw_getr (n := 9) (a := 82) (k := 4) cl9 (mkm hg (by decide) (by rfl)) (by decide) rfl rfl fl_X9_16 dX9_listPins_6 rfl ?_
    refine mw_callS (n := 12) (As := [.ref (mad g 85)]) (t_X9_cells hg 85 (mkm hg (by decide) (by rfl)) h) (by decide) ok_X9_cells rfl lk_X9_69 sm_X9_cells dX9_listPins_9 rfl rfl (Nat.le_of_ble_eq_true rfl) (fun q1 _ => ?_)
    show mw g l _ _ _ 12 _ [.int q1, .int v2] h _
    refine mw_icmp_ge (n := 15) (t := 43) dX9_listPins_12 rfl (by decide) Iff.rfl (fun c2 => ?_) (fun c2 => ?_)
    · refine mw_iload_n (n := 44) (q := 1) dX9_listPins_43 rfl rfl rfl ?_
      exact mw_iret dX9_listPins_44 rfl rfl
    · refine mw_aload_n (n := 16) (q := 0) dX9_listPins_15 rfl rfl rfl ?_
      refine mw_getr (n := 19) (a := 82) (k := 4) cl9 (mkm hg (by decide) (by rfl)) (by decide) rfl rfl fl_X9_16 dX9_listPins_16 rfl ?_
      refine mw_bipush (n := 21) (v := 11) dX9_listPins_19 rfl (by decide) ?_
      refine mw_iload_n (n := 22) (q := 2) dX9_listPins_21 rfl rfl rfl ?_
      refine mw_iadd (n := 23) dX9_listPins_22 rfl ?_
      refine mw_iald (n := 24) (a := 85) (N := 32) (mkm hg (by decide) (by rfl)) dX9_listPins_23 rfl ?_
      refine mw_if_le (n := 27) (t := 37) dX9_listPins_24 rfl (by decide) Iff.rfl (fun c3 => ?_) (fun c3 => ?_)
      · exact b_X9_listPins_37 hg N v1 v2 self4 hself4 h
      · refine mw_aload_n (n := 28) (q := 0) dX9_listPins_27 rfl rfl rfl ?_
        refine mw_getr (n := 31) (a := 82) (k := 22) cl9 (mkm hg (by decide) (by rfl)) (by decide) rfl rfl fl_X9_59 dX9_listPins_28 rfl ?_
        refine mw_iload_n (n := 32) (q := 1) dX9_listPins_31 rfl rfl rfl ?_
        refine mw_iload_n (n := 33) (q := 2) dX9_listPins_32 rfl rfl rfl ?_
        refine mw_iast (n := 34) (a := 99) (N := 6) (mkm hg (by decide) (by rfl)) dX9_listPins_33 rfl (mw_leth (fun h4 => ?_))
        refine mw_iinc (n := 37) (q := 1) (v := (v1 + (1 : Int32))) dX9_listPins_34 rfl rfl rfl (by decide) rfl ?_
        refine mw_sub [1, 0, 2] rfl ?_
        exact b_X9_listPins_37 hg N (v1 + (1 : Int32)) v2 self4 hself4 h4
noncomputable def x_X9_listPins (N : Nat) (h : mH) : Option (Int32 × mH) :=
  x_X9_listPins_4 N N (0 : Int32) (0 : Int32) h
set_option maxRecDepth 20000 in
set_option maxHeartbeats 4000000 in
theorem t_X9_listPins {g : mG} {l : Launch} (hg : mnn g = 101) (N : Nat) (h : mH) : mf g l 1 mX9_listPins (fun r : Int32 × mH => (some (Value.int r.1), r.2)) [.ref (mad g 82)] h (x_X9_listPins N h) := by
  refine mf_of (by decide) (Nat.le_of_ble_eq_true rfl) ?_
  show mw g l 1 mX9_listPins (fun r : Int32 × mH => (some (Value.int r.1), r.2)) 0 [(0, .ref (mad g 82))] [] h _
  unfold x_X9_listPins
  refine mw_iconst (n := 1) (v := 0) dX9_listPins_0 rfl (by decide) ?_
  refine mw_istore_n (n := 2) dX9_listPins_1 rfl rfl (by decide) rfl ?_
  refine mw_iconst (n := 3) (v := 0) dX9_listPins_2 rfl (by decide) ?_
  refine mw_istore_n (n := 4) dX9_listPins_3 rfl rfl (by decide) rfl ?_
  refine mw_sub [2, 1, 0] rfl ?_
  exact b_X9_listPins_4 hg N N (0 : Int32) (0 : Int32) h
noncomputable def x_X9_holds_73 (N : Nat) (self6 : Int32 → Int32 → Option (Int32)) (v1 : Int32) (v2 : Int32) (v3 : Int32) (v5 : Int32) (s0 : Int32) (h : mH) : Option (Int32) :=
  self6 s0 (v5 + (1 : Int32))
set_option maxRecDepth 20000 in
set_option maxHeartbeats 4000000 in
theorem b_X9_holds_73 {g : mG} {l : Launch} (hg : mnn g = 101) (N : Nat) (v1 : Int32) (v2 : Int32) (v3 : Int32) (v5 : Int32) (s0 : Int32) (h : mH) (self6 : Int32 → Int32 → Option (Int32)) (hself6 : ∀ (v4 : Int32) (v5 : Int32), mw g l 2 mX9_holds (fun r : Int32 => (some (Value.int r), h)) 6 [(0, .ref (mad g 82)), (1, .int v1), (2, .int v2), (3, .int v3), (4, .int v4), (5, .int v5)] [] h (self6 v4 v5)) : mw g l 2 mX9_holds (fun r : Int32 => (some (Value.int r), h)) 73 [(0, .ref (mad g 82)), (1, .int v1), (2, .int v2), (3, .int v3), (5, .int v5)] [.int s0] h (x_X9_holds_73 N self6 v1 v2 v3 v5 s0 h) := by
  unfold x_X9_holds_73
  refine mw_istore (n := 75) dX9_holds_73 rfl (by decide) rfl ?_
  refine mw_iinc (n := 78) (q := 5) (v := (v5 + (1 : Int32))) dX9_holds_75 rfl rfl rfl (by decide) rfl ?_
  refine mw_goto (n := 6) dX9_holds_78 (by decide) ?_
  refine mw_sub [2, 3, 4, 5, 1, 0] rfl ?_
  exact hself6 s0 (v5 + (1 : Int32))
noncomputable def x_X9_holds_72 (N : Nat) (self6 : Int32 → Int32 → Option (Int32)) (v1 : Int32) (v2 : Int32) (v3 : Int32) (v5 : Int32) (h : mH) : Option (Int32) :=
  x_X9_holds_73 N self6 v1 v2 v3 v5 (0 : Int32) h
set_option maxRecDepth 20000 in
set_option maxHeartbeats 4000000 in
theorem b_X9_holds_72 {g : mG} {l : Launch} (hg : mnn g = 101) (N : Nat) (v1 : Int32) (v2 : Int32) (v3 : Int32) (v5 : Int32) (h : mH) (self6 : Int32 → Int32 → Option (Int32)) (hself6 : ∀ (v4 : Int32) (v5 : Int32), mw g l 2 mX9_holds (fun r : Int32 => (some (Value.int r), h)) 6 [(0, .ref (mad g 82)), (1, .int v1), (2, .int v2), (3, .int v3), (4, .int v4), (5, .int v5)] [] h (self6 v4 v5)) : mw g l 2 mX9_holds (fun r : Int32 => (some (Value.int r), h)) 72 [(0, .ref (mad g 82)), (1, .int v1), (2, .int v2), (3, .int v3), (5, .int v5)] [] h (x_X9_holds_72 N self6 v1 v2 v3 v5 h) := by
  unfold x_X9_holds_72
  refine mw_iconst (n := 73) (v := 0) dX9_holds_72 rfl (by decide) ?_
  exact b_X9_holds_73 hg N v1 v2 v3 v5 (0 : Int32) h self6 hself6
noncomputable def x_X9_holds_68 (N : Nat) (self6 : Int32 → Int32 → Option (Int32)) (v1 : Int32) (v2 : Int32) (v3 : Int32) (v5 : Int32) (h : mH) : Option (Int32) :=
  x_X9_holds_73 N self6 v1 v2 v3 v5 (1 : Int32) h
set_option maxRecDepth 20000 in
set_option maxHeartbeats 4000000 in
theorem b_X9_holds_68 {g : mG} {l : Launch} (hg : mnn g = 101) (N : Nat) (v1 : Int32) (v2 : Int32) (v3 : Int32) (v5 : Int32) (h : mH) (self6 : Int32 → Int32 → Option (Int32)) (hself6 : ∀ (v4 : Int32) (v5 : Int32), mw g l 2 mX9_holds (fun r : Int32 => (some (Value.int r), h)) 6 [(0, .ref (mad g 82)), (1, .int v1), (2, .int v2), (3, .int v3), (4, .int v4), (5, .int v5)] [] h (self6 v4 v5)) : mw g l 2 mX9_holds (fun r : Int32 => (some (Value.int r), h)) 68 [(0, .ref (mad g 82)), (1, .int v1), (2, .int v2), (3, .int v3), (5, .int v5)] [] h (x_X9_holds_68 N self6 v1 v2 v3 v5 h) := by
  unfold x_X9_holds_68
  refine mw_iconst (n := 69) (v := 1) dX9_holds_68 rfl (by decide) ?_
  refine mw_goto (n := 73) dX9_holds_69 (by decide) ?_
  exact b_X9_holds_73 hg N v1 v2 v3 v5 (1 : Int32) h self6 hself6
noncomputable def x_X9_holds_6 (N : Nat) (v1 : Int32) (v2 : Int32) (v3 : Int32) (h : mH) (f : Nat) : Int32 → Int32 → Option (Int32) :=
  Nat.rec (motive := fun _ => Int32 → Int32 → Option (Int32)) (fun _ _ => none) (fun _ self6 => fun v4 v5 => 
    if v3 ≤ v5 then
      mzc v4 (some v4)
    else
      if v4 = 0 then
        x_X9_holds_72 N self6 v1 v2 v3 v5 h
      else
        (x_X9_has v2 v5).bind fun q3 =>
        if q3 = 0 then
          x_X9_holds_68 N self6 v1 v2 v3 v5 h
        else
          mck v5 6 <|
          (x_X9_isYes 85 v1 (mgi h 99 (v5).toNatClampNeg) h).bind fun q5 =>
          mck v5 6 <|
          mck ((11 : Int32) + (mgi h 99 (v5).toNatClampNeg)) 32 <|
          mlet (if ¬ q5 = (if ¬ (mgi h 85 (((11 : Int32) + (mgi h 99 (v5).toNatClampNeg))).toNatClampNeg) = (1 : Int32) then (0 : Int32) else (1 : Int32)) then (0 : Int32) else (1 : Int32)) fun u8 =>
          self6 u8 (v5 + (1 : Int32))) f
theorem x_X9_holds_6_0 (N : Nat) (v1 : Int32) (v2 : Int32) (v3 : Int32) (h : mH) (v4 : Int32) (v5 : Int32) : x_X9_holds_6 N v1 v2 v3 h 0 v4 v5 = none := rfl
theorem x_X9_holds_6_s (N : Nat) (v1 : Int32) (v2 : Int32) (v3 : Int32) (h : mH) (f : Nat) (v4 : Int32) (v5 : Int32) : x_X9_holds_6 N v1 v2 v3 h (f + 1) v4 v5 = (
    if v3 ≤ v5 then
      mzc v4 (some v4)
    else
      if v4 = 0 then
        x_X9_holds_72 N (x_X9_holds_6 N v1 v2 v3 h f) v1 v2 v3 v5 h
      else
        (x_X9_has v2 v5).bind fun q3 =>
        if q3 = 0 then
          x_X9_holds_68 N (x_X9_holds_6 N v1 v2 v3 h f) v1 v2 v3 v5 h
        else
          mck v5 6 <|
          (x_X9_isYes 85 v1 (mgi h 99 (v5).toNatClampNeg) h).bind fun q5 =>
          mck v5 6 <|
          mck ((11 : Int32) + (mgi h 99 (v5).toNatClampNeg)) 32 <|
          mlet (if ¬ q5 = (if ¬ (mgi h 85 (((11 : Int32) + (mgi h 99 (v5).toNatClampNeg))).toNatClampNeg) = (1 : Int32) then (0 : Int32) else (1 : Int32)) then (0 : Int32) else (1 : Int32)) fun u8 =>
          (x_X9_holds_6 N v1 v2 v3 h f) u8 (v5 + (1 : Int32))) := rfl
set_option maxRecDepth 20000 in
set_option maxHeartbeats 4000000 in
theorem b_X9_holds_6 {g : mG} {l : Launch} (hg : mnn g = 101) (N : Nat) (v1 : Int32) (v2 : Int32) (v3 : Int32) (h : mH) (f : Nat) : ∀ (v4 : Int32) (v5 : Int32), mw g l 2 mX9_holds (fun r : Int32 => (some (Value.int r), h)) 6 [(0, .ref (mad g 82)), (1, .int v1), (2, .int v2), (3, .int v3), (4, .int v4), (5, .int v5)] [] h (x_X9_holds_6 N v1 v2 v3 h f v4 v5) := by
  induction f with
  | zero => intros; exact mw_none
  | succ f hself6 =>
    intro v4 v5
    refine mw_eq (x_X9_holds_6_s N v1 v2 v3 h f v4 v5) ?_
    generalize x_X9_holds_6 N v1 v2 v3 h f = self6 at hself6 ⊢
    refine mw_iload (n := 8) (q := 5) dX9_holds_6 rfl rfl ?_
    refine mw_iload_n (n := 9) (q := 3) dX9_holds_8 rfl rfl rfl ?_
    refine mw_icmp_ge (n := 12) (t := 81) dX9_holds_9 rfl (by decide) Iff.rfl (fun c1 => ?_) (fun c1 => ?_)
    · refine mw_iload (n := 83) (q := 4) dX9_holds_81 rfl rfl ?_
      exact mw_zretC dX9_holds_83 rfl rfl
    · refine mw_iload (n := 14) (q := 4) dX9_holds_12 rfl rfl ?_
      refine mw_if_eq (n := 17) (t := 72) dX9_holds_14 rfl (by decide) Iff.rfl (fun c2 => ?_) (fun c2 => ?_)
      · refine mw_sub [0, 1, 2, 3, 5] rfl ?_
        exact b_X9_holds_72 hg N v1 v2 v3 v5 h self6 hself6
      · refine mw_iload_n (n := 18) (q := 2) dX9_holds_17 rfl rfl rfl ?_
        refine mw_iload (n := 20) (q := 5) dX9_holds_18 rfl rfl ?_
        refine mw_callS (n := 23) (As := [.int v2, .int v5]) (t_X9_has hg v2 v5 h) (by decide) ok_X9_has rfl lk_X9_73 sm_X9_has dX9_holds_20 rfl rfl (Nat.le_of_ble_eq_true rfl) (fun q3 _ => ?_)
        show mw g l _ _ _ 23 _ [.int q3] h _
        refine mw_if_eq (n := 26) (t := 68) dX9_holds_23 rfl (by decide) Iff.rfl (fun c4 => ?_) (fun c4 => ?_)
        · refine mw_sub [0, 1, 2, 3, 5] rfl ?_
          exact b_X9_holds_68 hg N v1 v2 v3 v5 h self6 hself6
        · refine mw_aload_n (n := 27) (q := 0) dX9_holds_26 rfl rfl rfl ?_
          refine mw_getr (n := 30) (a := 82) (k := 4) cl9 (mkm hg (by decide) (by rfl)) (by decide) rfl rfl fl_X9_16 dX9_holds_27 rfl ?_
          refine mw_iload_n (n := 31) (q := 1) dX9_holds_30 rfl rfl rfl ?_
          refine mw_aload_n (n := 32) (q := 0) dX9_holds_31 rfl rfl rfl ?_
          refine mw_getr (n := 35) (a := 82) (k := 22) cl9 (mkm hg (by decide) (by rfl)) (by decide) rfl rfl fl_X9_59 dX9_holds_32 rfl ?_
          refine mw_iload (n := 37) (q := 5) dX9_holds_35 rfl rfl ?_
          refine mw_iald (n := 38) (a := 99) (N := 6) (mkm hg (by decide) (by rfl)) dX9_holds_37 rfl ?_
          refine mw_callS (n := 41) (As := [.ref (mad g 85), .int v1, .int (mgi h 99 (v5).toNatClampNeg)]) (t_X9_isYes hg 85 v1 (mgi h 99 (v5).toNatClampNeg) (mkm hg (by decide) (by rfl)) h) (by decide) ok_X9_isYes rfl lk_X9_170 sm_X9_isYes dX9_holds_38 rfl rfl (Nat.le_of_ble_eq_true rfl) (fun q5 _ => ?_)
          show mw g l _ _ _ 41 _ [.int q5] h _
          refine mw_aload_n (n := 42) (q := 0) dX9_holds_41 rfl rfl rfl ?_
          refine mw_getr (n := 45) (a := 82) (k := 4) cl9 (mkm hg (by decide) (by rfl)) (by decide) rfl rfl fl_X9_16 dX9_holds_42 rfl ?_
          refine mw_bipush (n := 47) (v := 11) dX9_holds_45 rfl (by decide) ?_
          refine mw_aload_n (n := 48) (q := 0) dX9_holds_47 rfl rfl rfl ?_
          refine mw_getr (n := 51) (a := 82) (k := 22) cl9 (mkm hg (by decide) (by rfl)) (by decide) rfl rfl fl_X9_59 dX9_holds_48 rfl ?_
          refine mw_iload (n := 53) (q := 5) dX9_holds_51 rfl rfl ?_
          refine mw_iald (n := 54) (a := 99) (N := 6) (mkm hg (by decide) (by rfl)) dX9_holds_53 rfl ?_
          refine mw_iadd (n := 55) dX9_holds_54 rfl ?_
          refine mw_iald (n := 56) (a := 85) (N := 32) (mkm hg (by decide) (by rfl)) dX9_holds_55 rfl ?_
          refine mw_iconst (n := 57) (v := 1) dX9_holds_56 rfl (by decide) ?_
          refine mw_cutJ (pc' := 65) (lv' := [(0, .ref (mad g 82)), (1, .int v1), (2, .int v2), (3, .int v3), (4, .int v4), (5, .int v5)]) (st' := [.int (if ¬ (mgi h 85 (((11 : Int32) + (mgi h 99 (v5).toNatClampNeg))).toNatClampNeg) = (1 : Int32) then (0 : Int32) else (1 : Int32)), .int q5]) (fun J => ?_) ?_
          · refine mw_icmp_ne_m (n := 60) (t := 64) dX9_holds_57 rfl (by decide) (fun c6 => ?_) (fun c6 => ?_)
            · refine mw_iconst (n := 65) (v := 0) dX9_holds_64 rfl (by decide) ?_
              exact mw_topeq (if_pos c6).symm J
            · refine mw_iconst (n := 61) (v := 1) dX9_holds_60 rfl (by decide) ?_
              refine mw_goto (n := 65) dX9_holds_61 (by decide) ?_
              exact mw_topeq (if_neg c6).symm J
          refine mw_cutJ (pc' := 73) (lv' := [(0, .ref (mad g 82)), (1, .int v1), (2, .int v2), (3, .int v3), (4, .int v4), (5, .int v5)]) (st' := [.int (if ¬ q5 = (if ¬ (mgi h 85 (((11 : Int32) + (mgi h 99 (v5).toNatClampNeg))).toNatClampNeg) = (1 : Int32) then (0 : Int32) else (1 : Int32)) then (0 : Int32) else (1 : Int32))]) (fun J => ?_) ?_
          · refine mw_icmp_ne_m (n := 68) (t := 72) dX9_holds_65 rfl (by decide) (fun c7 => ?_) (fun c7 => ?_)
            · refine mw_iconst (n := 73) (v := 0) dX9_holds_72 rfl (by decide) ?_
              exact mw_topeq (if_pos c7).symm J
            · refine mw_iconst (n := 69) (v := 1) dX9_holds_68 rfl (by decide) ?_
              refine mw_goto (n := 73) dX9_holds_69 (by decide) ?_
              exact mw_topeq (if_neg c7).symm J
          refine mw_letI (fun u8 => ?_)
          refine mw_istore (n := 75) dX9_holds_73 rfl (by decide) rfl ?_
          refine mw_iinc (n := 78) (q := 5) (v := (v5 + (1 : Int32))) dX9_holds_75 rfl rfl rfl (by decide) rfl ?_
          refine mw_goto (n := 6) dX9_holds_78 (by decide) ?_
          refine mw_sub [2, 3, 4, 5, 1, 0] rfl ?_
          exact hself6 u8 (v5 + (1 : Int32))
noncomputable def x_X9_holds (N : Nat) (p0 : Int32) (p1 : Int32) (p2 : Int32) (h : mH) : Option (Int32) :=
  x_X9_holds_6 N p0 p1 p2 h N (1 : Int32) (0 : Int32)
set_option maxRecDepth 20000 in
set_option maxHeartbeats 4000000 in
theorem t_X9_holds {g : mG} {l : Launch} (hg : mnn g = 101) (N : Nat) (p0 : Int32) (p1 : Int32) (p2 : Int32) (h : mH) : mf g l 2 mX9_holds (fun r : Int32 => (some (Value.int r), h)) [.ref (mad g 82), .int p0, .int p1, .int p2] h (x_X9_holds N p0 p1 p2 h) := by
  refine mf_of (by decide) (Nat.le_of_ble_eq_true rfl) ?_
  show mw g l 2 mX9_holds (fun r : Int32 => (some (Value.int r), h)) 0 [(0, .ref (mad g 82)), (1, .int p0), (2, .int p1), (3, .int p2)] [] h _
  unfold x_X9_holds
  refine mw_iconst (n := 1) (v := 1) dX9_holds_0 rfl (by decide) ?_
  refine mw_istore (n := 3) dX9_holds_1 rfl (by decide) rfl ?_
  refine mw_iconst (n := 4) (v := 0) dX9_holds_3 rfl (by decide) ?_
  refine mw_istore (n := 6) dX9_holds_4 rfl (by decide) rfl ?_
  refine mw_sub [2, 3, 4, 5, 1, 0] rfl ?_
  exact b_X9_holds_6 hg N p0 p1 p2 h N (1 : Int32) (0 : Int32)
noncomputable def x_X9_weigh_32 (N : Nat) (self16 : Int32 → mH → Option (Int32 × mH)) (v1 : Int32) (v2 : Int32) (f : Nat) : Int32 → mH → Option (Int32 × mH) :=
  Nat.rec (motive := fun _ => Int32 → mH → Option (Int32 × mH)) (fun _ _ => none) (fun _ self32 => fun v3 h => 
    if (mgi h 82 17) ≤ v3 then
      self16 (v2 + (1 : Int32)) h
    else
      mck v2 64 <|
      mck v3 1000 <|
      (x_X9_holds N (mgi h 94 (v3).toNatClampNeg) v2 v1 h).bind fun q2 =>
      mck v2 64 <|
      mlet (msi h 100 (v2).toNatClampNeg ((mgi h 100 (v2).toNatClampNeg) + (if q2 = 0 then (0 : Int32) else (1 : Int32)))) fun h4 =>
      self32 (v3 + (1 : Int32)) h4) f
theorem x_X9_weigh_32_0 (N : Nat) (self16 : Int32 → mH → Option (Int32 × mH)) (v1 : Int32) (v2 : Int32) (v3 : Int32) (h : mH) : x_X9_weigh_32 N self16 v1 v2 0 v3 h = none := rfl
theorem x_X9_weigh_32_s (N : Nat) (self16 : Int32 → mH → Option (Int32 × mH)) (v1 : Int32) (v2 : Int32) (f : Nat) (v3 : Int32) (h : mH) : x_X9_weigh_32 N self16 v1 v2 (f + 1) v3 h = (
    if (mgi h 82 17) ≤ v3 then
      self16 (v2 + (1 : Int32)) h
    else
      mck v2 64 <|
      mck v3 1000 <|
      (x_X9_holds N (mgi h 94 (v3).toNatClampNeg) v2 v1 h).bind fun q2 =>
      mck v2 64 <|
      mlet (msi h 100 (v2).toNatClampNeg ((mgi h 100 (v2).toNatClampNeg) + (if q2 = 0 then (0 : Int32) else (1 : Int32)))) fun h4 =>
      (x_X9_weigh_32 N self16 v1 v2 f) (v3 + (1 : Int32)) h4) := rfl
set_option maxRecDepth 20000 in
set_option maxHeartbeats 4000000 in
theorem b_X9_weigh_32 {g : mG} {l : Launch} (hg : mnn g = 101) (N : Nat) (v1 : Int32) (v2 : Int32) (self16 : Int32 → mH → Option (Int32 × mH)) (hself16 : ∀ (v2 : Int32) (h : mH), mw g l 3 mX9_weigh (fun r : Int32 × mH => (some (Value.int r.1), r.2)) 16 [(0, .ref (mad g 82)), (1, .int v1), (2, .int v2)] [] h (self16 v2 h)) (f : Nat) : ∀ (v3 : Int32) (h : mH), mw g l 3 mX9_weigh (fun r : Int32 × mH => (some (Value.int r.1), r.2)) 32 [(0, .ref (mad g 82)), (1, .int v1), (2, .int v2), (3, .int v3)] [] h (x_X9_weigh_32 N self16 v1 v2 f v3 h) := by
  induction f with
  | zero => intros; exact mw_none
  | succ f hself32 =>
    intro v3 h
    refine mw_eq (x_X9_weigh_32_s N self16 v1 v2 f v3 h) ?_
    generalize x_X9_weigh_32 N self16 v1 v2 f = self32 at hself32 ⊢
    refine mw_iload_n (n := 33) (q := 3) dX9_weigh_32 rfl rfl rfl ?_
    refine mw_aload_n (n := 34) (q := 0) dX9_weigh_33 rfl rfl rfl ?_
    refine mw_geti (n := 37) (a := 82) (k := 17) cl9 (mkm hg (by decide) (by rfl)) (by decide) rfl rfl fl_X9_112 dX9_weigh_34 rfl ?_
    refine mw_icmp_ge (n := 40) (t := 75) dX9_weigh_37 rfl (by decide) Iff.rfl (fun c1 => ?_) (fun c1 => ?_)
    · refine mw_iinc (n := 78) (q := 2) (v := (v2 + (1 : Int32))) dX9_weigh_75 rfl rfl rfl (by decide) rfl ?_
      refine mw_goto (n := 16) dX9_weigh_78 (by decide) ?_
      refine mw_sub [1, 2, 0] rfl ?_
      exact hself16 (v2 + (1 : Int32)) h
    · refine mw_aload_n (n := 41) (q := 0) dX9_weigh_40 rfl rfl rfl ?_
      refine mw_getr (n := 44) (a := 82) (k := 23) cl9 (mkm hg (by decide) (by rfl)) (by decide) rfl rfl fl_X9_62 dX9_weigh_41 rfl ?_
      refine mw_iload_n (n := 45) (q := 2) dX9_weigh_44 rfl rfl rfl ?_
      refine mw_dup2 (n := 46) dX9_weigh_45 rfl rfl rfl ?_
      refine mw_iald (n := 47) (a := 100) (N := 64) (mkm hg (by decide) (by rfl)) dX9_weigh_46 rfl ?_
      refine mw_aload_n (n := 48) (q := 0) dX9_weigh_47 rfl rfl rfl ?_
      refine mw_aload_n (n := 49) (q := 0) dX9_weigh_48 rfl rfl rfl ?_
      refine mw_getr (n := 52) (a := 82) (k := 16) cl9 (mkm hg (by decide) (by rfl)) (by decide) rfl rfl fl_X9_44 dX9_weigh_49 rfl ?_
      refine mw_iload_n (n := 53) (q := 3) dX9_weigh_52 rfl rfl rfl ?_
      refine mw_iald (n := 54) (a := 94) (N := 1000) (mkm hg (by decide) (by rfl)) dX9_weigh_53 rfl ?_
      refine mw_iload_n (n := 55) (q := 2) dX9_weigh_54 rfl rfl rfl ?_
      refine mw_iload_n (n := 56) (q := 1) dX9_weigh_55 rfl rfl rfl ?_
      refine mw_callV (n := 59) (a := 82) (As := [.int (mgi h 94 (v3).toNatClampNeg), .int v2, .int v1]) cl9 (mkm hg (by decide) (by rfl)) (t_X9_holds hg N (mgi h 94 (v3).toNatClampNeg) v2 v1 h) (by decide) ok_X9_holds rfl rfl lk_X9_259 im_X9_holds se_X9_holds dX9_weigh_56 rfl rfl (Nat.le_of_ble_eq_true rfl) (fun q2 _ => ?_)
      show mw g l _ _ _ 59 _ [.int q2, .int (mgi h 100 (v2).toNatClampNeg), .int v2, .ref (mad g 100)] h _
      refine mw_cutJ (pc' := 67) (lv' := [(0, .ref (mad g 82)), (1, .int v1), (2, .int v2), (3, .int v3)]) (st' := [.int (if q2 = 0 then (0 : Int32) else (1 : Int32)), .int (mgi h 100 (v2).toNatClampNeg), .int v2, .ref (mad g 100)]) (fun J => ?_) ?_
      · refine mw_if_eq_m (n := 62) (t := 66) dX9_weigh_59 rfl (by decide) (fun c3 => ?_) (fun c3 => ?_)
        · refine mw_iconst (n := 67) (v := 0) dX9_weigh_66 rfl (by decide) ?_
          exact mw_topeq (if_pos c3).symm J
        · refine mw_iconst (n := 63) (v := 1) dX9_weigh_62 rfl (by decide) ?_
          refine mw_goto (n := 67) dX9_weigh_63 (by decide) ?_
          exact mw_topeq (if_neg c3).symm J
      refine mw_iadd (n := 68) dX9_weigh_67 rfl ?_
      refine mw_iast (n := 69) (a := 100) (N := 64) (mkm hg (by decide) (by rfl)) dX9_weigh_68 rfl (mw_leth (fun h4 => ?_))
      refine mw_iinc (n := 72) (q := 3) (v := (v3 + (1 : Int32))) dX9_weigh_69 rfl rfl rfl (by decide) rfl ?_
      refine mw_goto (n := 32) dX9_weigh_72 (by decide) ?_
      refine mw_sub [1, 2, 3, 0] rfl ?_
      exact hself32 (v3 + (1 : Int32)) h4
noncomputable def x_X9_weigh_16 (N : Nat) (v1 : Int32) (f : Nat) : Int32 → mH → Option (Int32 × mH) :=
  Nat.rec (motive := fun _ => Int32 → mH → Option (Int32 × mH)) (fun _ _ => none) (fun _ self16 => fun v2 h => 
    if ((1 : Int32) <<< (v1 &&& 31)) ≤ v2 then
      some (v1, h)
    else
      mck v2 64 <|
      mlet (msi h 100 (v2).toNatClampNeg (0 : Int32)) fun h2 =>
      x_X9_weigh_32 N self16 v1 v2 N (0 : Int32) h2) f
theorem x_X9_weigh_16_0 (N : Nat) (v1 : Int32) (v2 : Int32) (h : mH) : x_X9_weigh_16 N v1 0 v2 h = none := rfl
theorem x_X9_weigh_16_s (N : Nat) (v1 : Int32) (f : Nat) (v2 : Int32) (h : mH) : x_X9_weigh_16 N v1 (f + 1) v2 h = (
    if ((1 : Int32) <<< (v1 &&& 31)) ≤ v2 then
      some (v1, h)
    else
      mck v2 64 <|
      mlet (msi h 100 (v2).toNatClampNeg (0 : Int32)) fun h2 =>
      x_X9_weigh_32 N (x_X9_weigh_16 N v1 f) v1 v2 N (0 : Int32) h2) := rfl
set_option maxRecDepth 20000 in
set_option maxHeartbeats 4000000 in
theorem b_X9_weigh_16 {g : mG} {l : Launch} (hg : mnn g = 101) (N : Nat) (v1 : Int32) (f : Nat) : ∀ (v2 : Int32) (h : mH), mw g l 3 mX9_weigh (fun r : Int32 × mH => (some (Value.int r.1), r.2)) 16 [(0, .ref (mad g 82)), (1, .int v1), (2, .int v2)] [] h (x_X9_weigh_16 N v1 f v2 h) := by
  induction f with
  | zero => intros; exact mw_none
  | succ f hself16 =>
    intro v2 h
    refine mw_eq (x_X9_weigh_16_s N v1 f v2 h) ?_
    generalize x_X9_weigh_16 N v1 f = self16 at hself16 ⊢
    refine mw_iload_n (n := 17) (q := 2) dX9_weigh_16 rfl rfl rfl ?_
    refine mw_iconst (n := 18) (v := 1) dX9_weigh_17 rfl (by decide) ?_
    refine mw_iload_n (n := 19) (q := 1) dX9_weigh_18 rfl rfl rfl ?_
    refine mw_ishl (n := 20) dX9_weigh_19 rfl ?_
    refine mw_icmp_ge (n := 23) (t := 81) dX9_weigh_20 rfl (by decide) Iff.rfl (fun c1 => ?_) (fun c1 => ?_)
    · refine mw_iload_n (n := 82) (q := 1) dX9_weigh_81 rfl rfl rfl ?_
      exact mw_iret dX9_weigh_82 rfl rfl
    · refine mw_aload_n (n := 24) (q := 0) dX9_weigh_23 rfl rfl rfl ?_
      refine mw_getr (n := 27) (a := 82) (k := 23) cl9 (mkm hg (by decide) (by rfl)) (by decide) rfl rfl fl_X9_62 dX9_weigh_24 rfl ?_
      refine mw_iload_n (n := 28) (q := 2) dX9_weigh_27 rfl rfl rfl ?_
      refine mw_iconst (n := 29) (v := 0) dX9_weigh_28 rfl (by decide) ?_
      refine mw_iast (n := 30) (a := 100) (N := 64) (mkm hg (by decide) (by rfl)) dX9_weigh_29 rfl (mw_leth (fun h2 => ?_))
      refine mw_iconst (n := 31) (v := 0) dX9_weigh_30 rfl (by decide) ?_
      refine mw_istore_n (n := 32) dX9_weigh_31 rfl rfl (by decide) rfl ?_
      refine mw_sub [1, 2, 3, 0] rfl ?_
      exact b_X9_weigh_32 hg N v1 v2 self16 hself16 N (0 : Int32) h2
noncomputable def x_X9_weigh (N : Nat) (h : mH) : Option (Int32 × mH) :=
  (x_X9_listPins N h).bind fun q1 =>
  mlet q1.1 fun u2 =>
  (x_X9_list N 85 (0 : Int32) q1.2).bind fun q3 =>
  x_X9_weigh_16 N u2 N (0 : Int32) q3
set_option maxRecDepth 20000 in
set_option maxHeartbeats 4000000 in
theorem t_X9_weigh {g : mG} {l : Launch} (hg : mnn g = 101) (N : Nat) (h : mH) : mf g l 3 mX9_weigh (fun r : Int32 × mH => (some (Value.int r.1), r.2)) [.ref (mad g 82)] h (x_X9_weigh N h) := by
  refine mf_of (by decide) (Nat.le_of_ble_eq_true rfl) ?_
  show mw g l 3 mX9_weigh (fun r : Int32 × mH => (some (Value.int r.1), r.2)) 0 [(0, .ref (mad g 82))] [] h _
  unfold x_X9_weigh
  refine mw_aload_n (n := 1) (q := 0) dX9_weigh_0 rfl rfl rfl ?_
  refine mw_callV (n := 4) (a := 82) (As := []) cl9 (mkm hg (by decide) (by rfl)) (t_X9_listPins hg N h) (by decide) ok_X9_listPins rfl rfl lk_X9_256 im_X9_listPins se_X9_listPins dX9_weigh_1 rfl rfl (Nat.le_of_ble_eq_true rfl) (fun q1 _ => ?_)
  show mw g l _ _ _ 4 _ [.int q1.1] q1.2 _
  refine mw_letI (fun u2 => ?_)
  refine mw_istore_n (n := 5) dX9_weigh_4 rfl rfl (by decide) rfl ?_
  refine mw_aload_n (n := 6) (q := 1) dX9_weigh_5 rfl rfl rfl ?_
  refine mw_aload_n (n := 7) (q := 1) dX9_weigh_6 rfl rfl rfl ?_
  refine mw_getr (n := 10) (a := 82) (k := 4) cl9 (mkm hg (by decide) (by rfl)) (by decide) rfl rfl fl_X9_16 dX9_weigh_7 rfl ?_
  refine mw_iconst (n := 11) (v := 0) dX9_weigh_10 rfl (by decide) ?_
  refine mw_callV (n := 14) (a := 82) (As := [.ref (mad g 85), .int (0 : Int32)]) cl9 (mkm hg (by decide) (by rfl)) (t_X9_list hg N 85 (0 : Int32) (mkm hg (by decide) (by rfl)) q1.2) (by decide) ok_X9_list rfl rfl lk_X9_122 im_X9_list se_X9_list dX9_weigh_11 rfl rfl (Nat.le_of_ble_eq_true rfl) (fun q3 _ => ?_)
  show mw g l _ _ _ 14 _ [] q3 _
  refine mw_iconst (n := 15) (v := 0) dX9_weigh_14 rfl (by decide) ?_
  refine mw_istore_n (n := 16) dX9_weigh_15 rfl rfl (by decide) rfl ?_
  refine mw_sub [2, 1, 0] rfl ?_
  exact b_X9_weigh_16 hg N u2 N (0 : Int32) q3
noncomputable def x_X9_factorial_4 (N : Nat) (v0 : Int32) (f : Nat) : Int32 → Int32 → Option (Int32) :=
  Nat.rec (motive := fun _ => Int32 → Int32 → Option (Int32)) (fun _ _ => none) (fun _ self4 => fun v1 v2 => 
    if v0 < v2 then
      some v1
    else
      mlet (v1 * v2) fun u2 =>
      self4 u2 (v2 + (1 : Int32))) f
theorem x_X9_factorial_4_0 (N : Nat) (v0 : Int32) (v1 : Int32) (v2 : Int32) : x_X9_factorial_4 N v0 0 v1 v2 = none := rfl
theorem x_X9_factorial_4_s (N : Nat) (v0 : Int32) (f : Nat) (v1 : Int32) (v2 : Int32) : x_X9_factorial_4 N v0 (f + 1) v1 v2 = (
    if v0 < v2 then
      some v1
    else
      mlet (v1 * v2) fun u2 =>
      (x_X9_factorial_4 N v0 f) u2 (v2 + (1 : Int32))) := rfl
set_option maxRecDepth 20000 in
set_option maxHeartbeats 4000000 in
theorem b_X9_factorial_4 {g : mG} {l : Launch} (hg : mnn g = 101) (N : Nat) (v0 : Int32) (h : mH) (f : Nat) : ∀ (v1 : Int32) (v2 : Int32), mw g l 0 mX9_factorial (fun r : Int32 => (some (Value.int r), h)) 4 [(0, .int v0), (1, .int v1), (2, .int v2)] [] h (x_X9_factorial_4 N v0 f v1 v2) := by
  induction f with
  | zero => intros; exact mw_none
  | succ f hself4 =>
    intro v1 v2
    refine mw_eq (x_X9_factorial_4_s N v0 f v1 v2) ?_
    generalize x_X9_factorial_4 N v0 f = self4 at hself4 ⊢
    refine mw_iload_n (n := 5) (q := 2) dX9_factorial_4 rfl rfl rfl ?_
    refine mw_iload_n (n := 6) (q := 0) dX9_factorial_5 rfl rfl rfl ?_
    refine mw_icmp_gt (n := 9) (t := 19) dX9_factorial_6 rfl (by decide) Iff.rfl (fun c1 => ?_) (fun c1 => ?_)
    · refine mw_iload_n (n := 20) (q := 1) dX9_factorial_19 rfl rfl rfl ?_
      exact mw_iret dX9_factorial_20 rfl rfl
    · refine mw_iload_n (n := 10) (q := 1) dX9_factorial_9 rfl rfl rfl ?_
      refine mw_iload_n (n := 11) (q := 2) dX9_factorial_10 rfl rfl rfl ?_
      refine mw_imul (n := 12) dX9_factorial_11 rfl ?_
      refine mw_letI (fun u2 => ?_)
      refine mw_istore_n (n := 13) dX9_factorial_12 rfl rfl (by decide) rfl ?_
      refine mw_iinc (n := 16) (q := 2) (v := (v2 + (1 : Int32))) dX9_factorial_13 rfl rfl rfl (by decide) rfl ?_
      refine mw_goto (n := 4) dX9_factorial_16 (by decide) ?_
      refine mw_sub [2, 1, 0] rfl ?_
      exact hself4 u2 (v2 + (1 : Int32))
noncomputable def x_X9_factorial (N : Nat) (p0 : Int32) : Option (Int32) :=
  x_X9_factorial_4 N p0 N (1 : Int32) (2 : Int32)
set_option maxRecDepth 20000 in
set_option maxHeartbeats 4000000 in
theorem t_X9_factorial {g : mG} {l : Launch} (hg : mnn g = 101) (N : Nat) (p0 : Int32) (h : mH) : mf g l 0 mX9_factorial (fun r : Int32 => (some (Value.int r), h)) [.int p0] h (x_X9_factorial N p0) := by
  refine mf_of (by decide) (Nat.le_of_ble_eq_true rfl) ?_
  show mw g l 0 mX9_factorial (fun r : Int32 => (some (Value.int r), h)) 0 [(0, .int p0)] [] h _
  unfold x_X9_factorial
  refine mw_iconst (n := 1) (v := 1) dX9_factorial_0 rfl (by decide) ?_
  refine mw_istore_n (n := 2) dX9_factorial_1 rfl rfl (by decide) rfl ?_
  refine mw_iconst (n := 3) (v := 2) dX9_factorial_2 rfl (by decide) ?_
  refine mw_istore_n (n := 4) dX9_factorial_3 rfl rfl (by decide) rfl ?_
  refine mw_sub [2, 1, 0] rfl ?_
  exact b_X9_factorial_4 hg N p0 h N (1 : Int32) (2 : Int32)
noncomputable def x_X9_share_146 (N : Nat) (self79 : Int32 → Int32 → mH → Option (Int32 × mH)) (v2 : Int32) (v3 : Int32) (v4 : Int32) (v6 : Int32) (s0 : Int32) (s1 : Int32) (h : mH) : Option (Int32 × mH) :=
  mlet (s1 + s0) fun u1 =>
  self79 u1 (v6 + (1 : Int32)) h
set_option maxRecDepth 20000 in
set_option maxHeartbeats 4000000 in
theorem b_X9_share_146 {g : mG} {l : Launch} (hg : mnn g = 101) (N : Nat) (v2 : Int32) (v3 : Int32) (v4 : Int32) (v6 : Int32) (s0 : Int32) (s1 : Int32) (self79 : Int32 → Int32 → mH → Option (Int32 × mH)) (hself79 : ∀ (v5 : Int32) (v6 : Int32) (h : mH), mw g l 4 mX9_share (fun r : Int32 × mH => (some (Value.int r.1), r.2)) 79 [(0, .ref (mad g 82)), (2, .int v2), (3, .int v3), (4, .int v4), (5, .int v5), (6, .int v6)] [] h (self79 v5 v6 h)) (h : mH) : mw g l 4 mX9_share (fun r : Int32 × mH => (some (Value.int r.1), r.2)) 146 [(0, .ref (mad g 82)), (2, .int v2), (3, .int v3), (4, .int v4), (6, .int v6)] [.int s0, .int s1] h (x_X9_share_146 N self79 v2 v3 v4 v6 s0 s1 h) := by
  unfold x_X9_share_146
  refine mw_iadd (n := 147) dX9_share_146 rfl ?_
  refine mw_letI (fun u1 => ?_)
  refine mw_istore (n := 149) dX9_share_147 rfl (by decide) rfl ?_
  refine mw_iinc (n := 152) (q := 5) (v := (v6 + (1 : Int32))) dX9_share_149 rfl rfl rfl (by decide) rfl ?_
  refine mw_goto (n := 79) dX9_share_152 (by decide) ?_
  refine mw_sub [2, 3, 4, 5, 1, 0] rfl ?_
  exact hself79 u1 (v6 + (1 : Int32)) h
noncomputable def x_X9_share_79 (N : Nat) (v2 : Int32) (v3 : Int32) (v4 : Int32) (f : Nat) : Int32 → Int32 → mH → Option (Int32 × mH) :=
  Nat.rec (motive := fun _ => Int32 → Int32 → mH → Option (Int32 × mH)) (fun _ _ _ => none) (fun _ self79 => fun v5 v6 h => 
    if ((1 : Int32) <<< (v3 &&& 31)) ≤ v6 then
      (x_X9_factorial N v3).bind fun q2 =>
      (x_X9_fraction N v5 q2 v2).bind fun q3 =>
      some (q3, h)
    else
      (x_X9_ones N v6).bind fun q4 =>
      (x_X9_has v6 v4).bind fun q5 =>
      if q5 = 0 then
        (x_X9_factorial N q4).bind fun q7 =>
        (x_X9_factorial N ((v3 - (1 : Int32)) - q4)).bind fun q8 =>
        mck v6 64 <|
        mck (v6 ||| ((1 : Int32) <<< (v4 &&& 31))) 64 <|
        x_X9_share_146 N self79 v2 v3 v4 v6 ((q7 * q8) * ((mgi h 100 (v6).toNatClampNeg) - (mgi h 100 ((v6 ||| ((1 : Int32) <<< (v4 &&& 31)))).toNatClampNeg))) v5 h
      else
        x_X9_share_146 N self79 v2 v3 v4 v6 (0 : Int32) v5 h) f
theorem x_X9_share_79_0 (N : Nat) (v2 : Int32) (v3 : Int32) (v4 : Int32) (v5 : Int32) (v6 : Int32) (h : mH) : x_X9_share_79 N v2 v3 v4 0 v5 v6 h = none := rfl
theorem x_X9_share_79_s (N : Nat) (v2 : Int32) (v3 : Int32) (v4 : Int32) (f : Nat) (v5 : Int32) (v6 : Int32) (h : mH) : x_X9_share_79 N v2 v3 v4 (f + 1) v5 v6 h = (
    if ((1 : Int32) <<< (v3 &&& 31)) ≤ v6 then
      (x_X9_factorial N v3).bind fun q2 =>
      (x_X9_fraction N v5 q2 v2).bind fun q3 =>
      some (q3, h)
    else
      (x_X9_ones N v6).bind fun q4 =>
      (x_X9_has v6 v4).bind fun q5 =>
      if q5 = 0 then
        (x_X9_factorial N q4).bind fun q7 =>
        (x_X9_factorial N ((v3 - (1 : Int32)) - q4)).bind fun q8 =>
        mck v6 64 <|
        mck (v6 ||| ((1 : Int32) <<< (v4 &&& 31))) 64 <|
        x_X9_share_146 N (x_X9_share_79 N v2 v3 v4 f) v2 v3 v4 v6 ((q7 * q8) * ((mgi h 100 (v6).toNatClampNeg) - (mgi h 100 ((v6 ||| ((1 : Int32) <<< (v4 &&& 31)))).toNatClampNeg))) v5 h
      else
        x_X9_share_146 N (x_X9_share_79 N v2 v3 v4 f) v2 v3 v4 v6 (0 : Int32) v5 h) := rfl
set_option maxRecDepth 20000 in
set_option maxHeartbeats 4000000 in
theorem b_X9_share_79 {g : mG} {l : Launch} (hg : mnn g = 101) (N : Nat) (v2 : Int32) (v3 : Int32) (v4 : Int32) (f : Nat) : ∀ (v5 : Int32) (v6 : Int32) (h : mH), mw g l 4 mX9_share (fun r : Int32 × mH => (some (Value.int r.1), r.2)) 79 [(0, .ref (mad g 82)), (2, .int v2), (3, .int v3), (4, .int v4), (5, .int v5), (6, .int v6)] [] h (x_X9_share_79 N v2 v3 v4 f v5 v6 h) := by
  induction f with
  | zero => intros; exact mw_none
  | succ f hself79 =>
    intro v5 v6 h
    refine mw_eq (x_X9_share_79_s N v2 v3 v4 f v5 v6 h) ?_
    generalize x_X9_share_79 N v2 v3 v4 f = self79 at hself79 ⊢
    refine mw_iload (n := 81) (q := 5) dX9_share_79 rfl rfl ?_
    refine mw_iconst (n := 82) (v := 1) dX9_share_81 rfl (by decide) ?_
    refine mw_iload_n (n := 83) (q := 2) dX9_share_82 rfl rfl rfl ?_
    refine mw_ishl (n := 84) dX9_share_83 rfl ?_
    refine mw_icmp_ge (n := 87) (t := 155) dX9_share_84 rfl (by decide) Iff.rfl (fun c1 => ?_) (fun c1 => ?_)
    · refine mw_iload (n := 157) (q := 4) dX9_share_155 rfl rfl ?_
      refine mw_iload_n (n := 158) (q := 2) dX9_share_157 rfl rfl rfl ?_
      refine mw_callS (n := 161) (As := [.int v3]) (t_X9_factorial hg N v3 h) (by decide) ok_X9_factorial rfl lk_X9_265 sm_X9_factorial dX9_share_158 rfl rfl (Nat.le_of_ble_eq_true rfl) (fun q2 _ => ?_)
      show mw g l _ _ _ 161 _ [.int q2, .int v5] h _
      refine mw_iload_n (n := 162) (q := 1) dX9_share_161 rfl rfl rfl ?_
      refine mw_callS (n := 165) (As := [.int v5, .int q2, .int v2]) (t_X9_fraction hg N v5 q2 v2 h) (by decide) ok_X9_fraction rfl lk_X9_185 sm_X9_fraction dX9_share_162 rfl rfl (Nat.le_of_ble_eq_true rfl) (fun q3 _ => ?_)
      show mw g l _ _ _ 165 _ [.int q3] h _
      exact mw_iret dX9_share_165 rfl rfl
    · refine mw_iload (n := 89) (q := 5) dX9_share_87 rfl rfl ?_
      refine mw_callS (n := 92) (As := [.int v6]) (t_X9_ones hg N v6 h) (by decide) ok_X9_ones rfl lk_X9_105 sm_X9_ones dX9_share_89 rfl rfl (Nat.le_of_ble_eq_true rfl) (fun q4 _ => ?_)
      show mw g l _ _ _ 92 _ [.int q4] h _
      refine mw_istore (n := 94) dX9_share_92 rfl (by decide) rfl ?_
      refine mw_iload (n := 96) (q := 5) dX9_share_94 rfl rfl ?_
      refine mw_iload (n := 98) (q := 6) dX9_share_96 rfl rfl ?_
      refine mw_iload (n := 100) (q := 4) dX9_share_98 rfl rfl ?_
      refine mw_callS (n := 103) (As := [.int v6, .int v4]) (t_X9_has hg v6 v4 h) (by decide) ok_X9_has rfl lk_X9_73 sm_X9_has dX9_share_100 rfl rfl (Nat.le_of_ble_eq_true rfl) (fun q5 _ => ?_)
      show mw g l _ _ _ 103 _ [.int q5, .int v5] h _
      refine mw_if_eq (n := 106) (t := 110) dX9_share_103 rfl (by decide) Iff.rfl (fun c6 => ?_) (fun c6 => ?_)
      · refine mw_iload (n := 112) (q := 0) dX9_share_110 rfl rfl ?_
        refine mw_callS (n := 115) (As := [.int q4]) (t_X9_factorial hg N q4 h) (by decide) ok_X9_factorial rfl lk_X9_265 sm_X9_factorial dX9_share_112 rfl rfl (Nat.le_of_ble_eq_true rfl) (fun q7 _ => ?_)
        show mw g l _ _ _ 115 _ [.int q7, .int v5] h _
        refine mw_iload_n (n := 116) (q := 3) dX9_share_115 rfl rfl rfl ?_
        refine mw_iconst (n := 117) (v := 1) dX9_share_116 rfl (by decide) ?_
        refine mw_isub (n := 118) dX9_share_117 rfl ?_
        refine mw_iload (n := 120) (q := 0) dX9_share_118 rfl rfl ?_
        refine mw_isub (n := 121) dX9_share_120 rfl ?_
        refine mw_callS (n := 124) (As := [.int ((v3 - (1 : Int32)) - q4)]) (t_X9_factorial hg N ((v3 - (1 : Int32)) - q4) h) (by decide) ok_X9_factorial rfl lk_X9_265 sm_X9_factorial dX9_share_121 rfl rfl (Nat.le_of_ble_eq_true rfl) (fun q8 _ => ?_)
        show mw g l _ _ _ 124 _ [.int q8, .int q7, .int v5] h _
        refine mw_imul (n := 125) dX9_share_124 rfl ?_
        refine mw_aload_n (n := 126) (q := 1) dX9_share_125 rfl rfl rfl ?_
        refine mw_getr (n := 129) (a := 82) (k := 23) cl9 (mkm hg (by decide) (by rfl)) (by decide) rfl rfl fl_X9_62 dX9_share_126 rfl ?_
        refine mw_iload (n := 131) (q := 6) dX9_share_129 rfl rfl ?_
        refine mw_iald (n := 132) (a := 100) (N := 64) (mkm hg (by decide) (by rfl)) dX9_share_131 rfl ?_
        refine mw_aload_n (n := 133) (q := 1) dX9_share_132 rfl rfl rfl ?_
        refine mw_getr (n := 136) (a := 82) (k := 23) cl9 (mkm hg (by decide) (by rfl)) (by decide) rfl rfl fl_X9_62 dX9_share_133 rfl ?_
        refine mw_iload (n := 138) (q := 6) dX9_share_136 rfl rfl ?_
        refine mw_iconst (n := 139) (v := 1) dX9_share_138 rfl (by decide) ?_
        refine mw_iload (n := 141) (q := 4) dX9_share_139 rfl rfl ?_
        refine mw_ishl (n := 142) dX9_share_141 rfl ?_
        refine mw_ior (n := 143) dX9_share_142 rfl ?_
        refine mw_iald (n := 144) (a := 100) (N := 64) (mkm hg (by decide) (by rfl)) dX9_share_143 rfl ?_
        refine mw_isub (n := 145) dX9_share_144 rfl ?_
        refine mw_imul (n := 146) dX9_share_145 rfl ?_
        refine mw_sub [1, 2, 3, 4, 6] rfl ?_
        exact b_X9_share_146 hg N v2 v3 v4 v6 ((q7 * q8) * ((mgi h 100 (v6).toNatClampNeg) - (mgi h 100 ((v6 ||| ((1 : Int32) <<< (v4 &&& 31)))).toNatClampNeg))) v5 self79 hself79 h
      · refine mw_iconst (n := 107) (v := 0) dX9_share_106 rfl (by decide) ?_
        refine mw_goto (n := 146) dX9_share_107 (by decide) ?_
        refine mw_sub [1, 2, 3, 4, 6] rfl ?_
        exact b_X9_share_146 hg N v2 v3 v4 v6 (0 : Int32) v5 self79 hself79 h
noncomputable def x_X9_share_41 (N : Nat) (v1 : Int32) (v2 : Int32) (v3 : Int32) (f : Nat) : Int32 → Int32 → mH → Option (Int32 × mH) :=
  Nat.rec (motive := fun _ => Int32 → Int32 → mH → Option (Int32 × mH)) (fun _ _ _ => none) (fun _ self41 => fun v4 v5 h => 
    if v3 ≤ v5 then
      x_X9_share_79 N v2 v3 v4 N (0 : Int32) (0 : Int32) h
    else
      mck v5 6 <|
      mlet (if ¬ (mgi h 99 (v5).toNatClampNeg) = v1 then v4 else v5) fun u3 =>
      self41 u3 (v5 + (1 : Int32)) h) f
theorem x_X9_share_41_0 (N : Nat) (v1 : Int32) (v2 : Int32) (v3 : Int32) (v4 : Int32) (v5 : Int32) (h : mH) : x_X9_share_41 N v1 v2 v3 0 v4 v5 h = none := rfl
theorem x_X9_share_41_s (N : Nat) (v1 : Int32) (v2 : Int32) (v3 : Int32) (f : Nat) (v4 : Int32) (v5 : Int32) (h : mH) : x_X9_share_41 N v1 v2 v3 (f + 1) v4 v5 h = (
    if v3 ≤ v5 then
      x_X9_share_79 N v2 v3 v4 N (0 : Int32) (0 : Int32) h
    else
      mck v5 6 <|
      mlet (if ¬ (mgi h 99 (v5).toNatClampNeg) = v1 then v4 else v5) fun u3 =>
      (x_X9_share_41 N v1 v2 v3 f) u3 (v5 + (1 : Int32)) h) := rfl
set_option maxRecDepth 20000 in
set_option maxHeartbeats 4000000 in
theorem b_X9_share_41 {g : mG} {l : Launch} (hg : mnn g = 101) (N : Nat) (v1 : Int32) (v2 : Int32) (v3 : Int32) (f : Nat) : ∀ (v4 : Int32) (v5 : Int32) (h : mH), mw g l 4 mX9_share (fun r : Int32 × mH => (some (Value.int r.1), r.2)) 41 [(0, .ref (mad g 82)), (1, .int v1), (2, .int v2), (3, .int v3), (4, .int v4), (5, .int v5)] [] h (x_X9_share_41 N v1 v2 v3 f v4 v5 h) := by
  induction f with
  | zero => intros; exact mw_none
  | succ f hself41 =>
    intro v4 v5 h
    refine mw_eq (x_X9_share_41_s N v1 v2 v3 f v4 v5 h) ?_
    generalize x_X9_share_41 N v1 v2 v3 f = self41 at hself41 ⊢
    refine mw_iload (n := 43) (q := 5) dX9_share_41 rfl rfl ?_
    refine mw_iload_n (n := 44) (q := 3) dX9_share_43 rfl rfl rfl ?_
    refine mw_icmp_ge (n := 47) (t := 73) dX9_share_44 rfl (by decide) Iff.rfl (fun c1 => ?_) (fun c1 => ?_)
    · refine mw_iconst (n := 74) (v := 0) dX9_share_73 rfl (by decide) ?_
      refine mw_istore (n := 76) dX9_share_74 rfl (by decide) rfl ?_
      refine mw_iconst (n := 77) (v := 0) dX9_share_76 rfl (by decide) ?_
      refine mw_istore (n := 79) dX9_share_77 rfl (by decide) rfl ?_
      refine mw_sub [2, 4, 5, 6, 1, 0] rfl ?_
      exact b_X9_share_79 hg N v2 v3 v4 N (0 : Int32) (0 : Int32) h
    · refine mw_aload_n (n := 48) (q := 0) dX9_share_47 rfl rfl rfl ?_
      refine mw_getr (n := 51) (a := 82) (k := 22) cl9 (mkm hg (by decide) (by rfl)) (by decide) rfl rfl fl_X9_59 dX9_share_48 rfl ?_
      refine mw_iload (n := 53) (q := 5) dX9_share_51 rfl rfl ?_
      refine mw_iald (n := 54) (a := 99) (N := 6) (mkm hg (by decide) (by rfl)) dX9_share_53 rfl ?_
      refine mw_iload_n (n := 55) (q := 1) dX9_share_54 rfl rfl rfl ?_
      refine mw_cutJ (pc' := 65) (lv' := [(0, .ref (mad g 82)), (1, .int v1), (2, .int v2), (3, .int v3), (4, .int v4), (5, .int v5)]) (st' := [.int (if ¬ (mgi h 99 (v5).toNatClampNeg) = v1 then v4 else v5)]) (fun J => ?_) ?_
      · refine mw_icmp_ne_m (n := 58) (t := 63) dX9_share_55 rfl (by decide) (fun c2 => ?_) (fun c2 => ?_)
        · refine mw_iload (n := 65) (q := 4) dX9_share_63 rfl rfl ?_
          exact mw_topeq (if_pos c2).symm J
        · refine mw_iload (n := 60) (q := 5) dX9_share_58 rfl rfl ?_
          refine mw_goto (n := 65) dX9_share_60 (by decide) ?_
          exact mw_topeq (if_neg c2).symm J
      refine mw_letI (fun u3 => ?_)
      refine mw_istore (n := 67) dX9_share_65 rfl (by decide) rfl ?_
      refine mw_iinc (n := 70) (q := 5) (v := (v5 + (1 : Int32))) dX9_share_67 rfl rfl rfl (by decide) rfl ?_
      refine mw_goto (n := 41) dX9_share_70 (by decide) ?_
      refine mw_sub [2, 3, 4, 5, 1, 0] rfl ?_
      exact hself41 u3 (v5 + (1 : Int32)) h
noncomputable def x_X9_share (N : Nat) (p0 : Int32) (p1 : Int32) (h : mH) : Option (Int32 × mH) :=
  mlet (msi h 82 0 (0 : Int32)) fun h1 =>
  (x_X9_noCell p0 h1).bind fun q2 =>
  if q2 = 0 then
    mck ((11 : Int32) + p0) 32 <|
    if ¬ (mgi h1 85 (((11 : Int32) + p0)).toNatClampNeg) = 0 then
      (x_X9_weigh N h1).bind fun q5 =>
      mlet q5.1 fun u6 =>
      x_X9_share_41 N p0 p1 u6 N (0 : Int32) (0 : Int32) q5.2
    else
      some ((-3 : Int32), h1)
  else
    some ((-1 : Int32), h1)
set_option maxRecDepth 20000 in
set_option maxHeartbeats 4000000 in
theorem t_X9_share {g : mG} {l : Launch} (hg : mnn g = 101) (N : Nat) (p0 : Int32) (p1 : Int32) (h : mH) : mf g l 4 mX9_share (fun r : Int32 × mH => (some (Value.int r.1), r.2)) [.ref (mad g 82), .int p0, .int p1] h (x_X9_share N p0 p1 h) := by
  refine mf_of (by decide) (Nat.le_of_ble_eq_true rfl) ?_
  show mw g l 4 mX9_share (fun r : Int32 × mH => (some (Value.int r.1), r.2)) 0 [(0, .ref (mad g 82)), (1, .int p0), (2, .int p1)] [] h _
  unfold x_X9_share
  refine mw_aload_n (n := 1) (q := 0) dX9_share_0 rfl rfl rfl ?_
  refine mw_iconst (n := 2) (v := 0) dX9_share_1 rfl (by decide) ?_
  refine mw_puti (n := 5) (a := 82) (k := 0) cl9 ct9 (mkm hg (by decide) (by rfl)) (by decide) rfl rfl rfl rfl fl_X9_65 dX9_share_2 rfl (mw_leth (fun h1 => ?_))
  refine mw_aload_n (n := 6) (q := 0) dX9_share_5 rfl rfl rfl ?_
  refine mw_iload_n (n := 7) (q := 1) dX9_share_6 rfl rfl rfl ?_
  refine mw_callV (n := 10) (a := 82) (As := [.int p0]) cl9 (mkm hg (by decide) (by rfl)) (t_X9_noCell hg p0 h1) (by decide) ok_X9_noCell rfl rfl lk_X9_146 im_X9_noCell se_X9_noCell dX9_share_7 rfl rfl (Nat.le_of_ble_eq_true rfl) (fun q2 _ => ?_)
  show mw g l _ _ _ 10 _ [.int q2] h1 _
  refine mw_if_eq (n := 13) (t := 15) dX9_share_10 rfl (by decide) Iff.rfl (fun c3 => ?_) (fun c3 => ?_)
  · refine mw_aload_n (n := 16) (q := 0) dX9_share_15 rfl rfl rfl ?_
    refine mw_getr (n := 19) (a := 82) (k := 4) cl9 (mkm hg (by decide) (by rfl)) (by decide) rfl rfl fl_X9_16 dX9_share_16 rfl ?_
    refine mw_bipush (n := 21) (v := 11) dX9_share_19 rfl (by decide) ?_
    refine mw_iload_n (n := 22) (q := 1) dX9_share_21 rfl rfl rfl ?_
    refine mw_iadd (n := 23) dX9_share_22 rfl ?_
    refine mw_iald (n := 24) (a := 85) (N := 32) (mkm hg (by decide) (by rfl)) dX9_share_23 rfl ?_
    refine mw_if_ne (n := 27) (t := 30) dX9_share_24 rfl (by decide) Iff.rfl (fun c4 => ?_) (fun c4 => ?_)
    · refine mw_aload_n (n := 31) (q := 0) dX9_share_30 rfl rfl rfl ?_
      refine mw_callV (n := 34) (a := 82) (As := []) cl9 (mkm hg (by decide) (by rfl)) (t_X9_weigh hg N h1) (by decide) ok_X9_weigh rfl rfl lk_X9_262 im_X9_weigh se_X9_weigh dX9_share_31 rfl rfl (Nat.le_of_ble_eq_true rfl) (fun q5 _ => ?_)
      show mw g l _ _ _ 34 _ [.int q5.1] q5.2 _
      refine mw_letI (fun u6 => ?_)
      refine mw_istore_n (n := 35) dX9_share_34 rfl rfl (by decide) rfl ?_
      refine mw_iconst (n := 36) (v := 0) dX9_share_35 rfl (by decide) ?_
      refine mw_istore (n := 38) dX9_share_36 rfl (by decide) rfl ?_
      refine mw_iconst (n := 39) (v := 0) dX9_share_38 rfl (by decide) ?_
      refine mw_istore (n := 41) dX9_share_39 rfl (by decide) rfl ?_
      refine mw_sub [3, 4, 5, 2, 1, 0] rfl ?_
      exact b_X9_share_41 hg N p0 p1 u6 N (0 : Int32) (0 : Int32) q5.2
    · refine mw_bipush (n := 29) (v := -3) dX9_share_27 rfl (by decide) ?_
      exact mw_iret dX9_share_29 rfl rfl
  · refine mw_iconst (n := 14) (v := -1) dX9_share_13 rfl (by decide) ?_
    exact mw_iret dX9_share_14 rfl rfl
noncomputable def x_X9_power_4 (N : Nat) (v0 : Int32) (v1 : Int32) (f : Nat) : Int32 → Int32 → Option (Int32) :=
  Nat.rec (motive := fun _ => Int32 → Int32 → Option (Int32)) (fun _ _ => none) (fun _ self4 => fun v2 v3 => 
    if v1 ≤ v3 then
      some v2
    else
      mlet (v2 * v0) fun u2 =>
      self4 u2 (v3 + (1 : Int32))) f
theorem x_X9_power_4_0 (N : Nat) (v0 : Int32) (v1 : Int32) (v2 : Int32) (v3 : Int32) : x_X9_power_4 N v0 v1 0 v2 v3 = none := rfl
theorem x_X9_power_4_s (N : Nat) (v0 : Int32) (v1 : Int32) (f : Nat) (v2 : Int32) (v3 : Int32) : x_X9_power_4 N v0 v1 (f + 1) v2 v3 = (
    if v1 ≤ v3 then
      some v2
    else
      mlet (v2 * v0) fun u2 =>
      (x_X9_power_4 N v0 v1 f) u2 (v3 + (1 : Int32))) := rfl
set_option maxRecDepth 20000 in
set_option maxHeartbeats 4000000 in
theorem b_X9_power_4 {g : mG} {l : Launch} (hg : mnn g = 101) (N : Nat) (v0 : Int32) (v1 : Int32) (h : mH) (f : Nat) : ∀ (v2 : Int32) (v3 : Int32), mw g l 0 mX9_power (fun r : Int32 => (some (Value.int r), h)) 4 [(0, .int v0), (1, .int v1), (2, .int v2), (3, .int v3)] [] h (x_X9_power_4 N v0 v1 f v2 v3) := by
  induction f with
  | zero => intros; exact mw_none
  | succ f hself4 =>
    intro v2 v3
    refine mw_eq (x_X9_power_4_s N v0 v1 f v2 v3) ?_
    generalize x_X9_power_4 N v0 v1 f = self4 at hself4 ⊢
    refine mw_iload_n (n := 5) (q := 3) dX9_power_4 rfl rfl rfl ?_
    refine mw_iload_n (n := 6) (q := 1) dX9_power_5 rfl rfl rfl ?_
    refine mw_icmp_ge (n := 9) (t := 19) dX9_power_6 rfl (by decide) Iff.rfl (fun c1 => ?_) (fun c1 => ?_)
    · refine mw_iload_n (n := 20) (q := 2) dX9_power_19 rfl rfl rfl ?_
      exact mw_iret dX9_power_20 rfl rfl
    · refine mw_iload_n (n := 10) (q := 2) dX9_power_9 rfl rfl rfl ?_
      refine mw_iload_n (n := 11) (q := 0) dX9_power_10 rfl rfl rfl ?_
      refine mw_imul (n := 12) dX9_power_11 rfl ?_
      refine mw_letI (fun u2 => ?_)
      refine mw_istore_n (n := 13) dX9_power_12 rfl rfl (by decide) rfl ?_
      refine mw_iinc (n := 16) (q := 3) (v := (v3 + (1 : Int32))) dX9_power_13 rfl rfl rfl (by decide) rfl ?_
      refine mw_goto (n := 4) dX9_power_16 (by decide) ?_
      refine mw_sub [2, 3, 1, 0] rfl ?_
      exact hself4 u2 (v3 + (1 : Int32))
noncomputable def x_X9_power (N : Nat) (p0 : Int32) (p1 : Int32) : Option (Int32) :=
  x_X9_power_4 N p0 p1 N (1 : Int32) (0 : Int32)
set_option maxRecDepth 20000 in
set_option maxHeartbeats 4000000 in
theorem t_X9_power {g : mG} {l : Launch} (hg : mnn g = 101) (N : Nat) (p0 : Int32) (p1 : Int32) (h : mH) : mf g l 0 mX9_power (fun r : Int32 => (some (Value.int r), h)) [.int p0, .int p1] h (x_X9_power N p0 p1) := by
  refine mf_of (by decide) (Nat.le_of_ble_eq_true rfl) ?_
  show mw g l 0 mX9_power (fun r : Int32 => (some (Value.int r), h)) 0 [(0, .int p0), (1, .int p1)] [] h _
  unfold x_X9_power
  refine mw_iconst (n := 1) (v := 1) dX9_power_0 rfl (by decide) ?_
  refine mw_istore_n (n := 2) dX9_power_1 rfl rfl (by decide) rfl ?_
  refine mw_iconst (n := 3) (v := 0) dX9_power_2 rfl (by decide) ?_
  refine mw_istore_n (n := 4) dX9_power_3 rfl rfl (by decide) rfl ?_
  refine mw_sub [2, 3, 1, 0] rfl ?_
  exact b_X9_power_4 hg N p0 p1 h N (1 : Int32) (0 : Int32)
noncomputable def x_X9_loose_81 (N : Nat) (self31 : Int32 → Int32 → mH → Option (Int32 × mH)) (v1 : Int32) (v2 : Int32) (v3 : Int32) (v5 : Int32) (s0 : Int32) (s1 : Int32) (h : mH) : Option (Int32 × mH) :=
  mlet (s1 + s0) fun u1 =>
  self31 u1 (v5 + (1 : Int32)) h
set_option maxRecDepth 20000 in
set_option maxHeartbeats 4000000 in
theorem b_X9_loose_81 {g : mG} {l : Launch} (hg : mnn g = 101) (N : Nat) (v1 : Int32) (v2 : Int32) (v3 : Int32) (v5 : Int32) (s0 : Int32) (s1 : Int32) (self31 : Int32 → Int32 → mH → Option (Int32 × mH)) (hself31 : ∀ (v4 : Int32) (v5 : Int32) (h : mH), mw g l 4 mX9_loose (fun r : Int32 × mH => (some (Value.int r.1), r.2)) 31 [(0, .ref (mad g 82)), (1, .int v1), (2, .int v2), (3, .int v3), (4, .int v4), (5, .int v5)] [] h (self31 v4 v5 h)) (h : mH) : mw g l 4 mX9_loose (fun r : Int32 × mH => (some (Value.int r.1), r.2)) 81 [(0, .ref (mad g 82)), (1, .int v1), (2, .int v2), (3, .int v3), (5, .int v5)] [.int s0, .int s1] h (x_X9_loose_81 N self31 v1 v2 v3 v5 s0 s1 h) := by
  unfold x_X9_loose_81
  refine mw_iadd (n := 82) dX9_loose_81 rfl ?_
  refine mw_letI (fun u1 => ?_)
  refine mw_istore (n := 84) dX9_loose_82 rfl (by decide) rfl ?_
  refine mw_iinc (n := 87) (q := 5) (v := (v5 + (1 : Int32))) dX9_loose_84 rfl rfl rfl (by decide) rfl ?_
  refine mw_goto (n := 31) dX9_loose_87 (by decide) ?_
  refine mw_sub [2, 3, 4, 5, 1, 0] rfl ?_
  exact hself31 u1 (v5 + (1 : Int32)) h
noncomputable def x_X9_loose_31 (N : Nat) (v1 : Int32) (v2 : Int32) (v3 : Int32) (f : Nat) : Int32 → Int32 → mH → Option (Int32 × mH) :=
  Nat.rec (motive := fun _ => Int32 → Int32 → mH → Option (Int32 × mH)) (fun _ _ _ => none) (fun _ self31 => fun v4 v5 h => 
    if ((1 : Int32) <<< (v3 &&& 31)) ≤ v5 then
      (x_X9_power N (10 : Int32) v3).bind fun q2 =>
      (x_X9_fraction N v4 q2 v2).bind fun q3 =>
      some (q3, h)
    else
      (x_X9_ones N v5).bind fun q4 =>
      mck v5 64 <|
      if ¬ (mgi h 100 (v5).toNatClampNeg) = (1 : Int32) then
        x_X9_loose_81 N self31 v1 v2 v3 v5 (0 : Int32) v4 h
      else
        (x_X9_power N ((10 : Int32) - v1) q4).bind fun q6 =>
        (x_X9_power N v1 (v3 - q4)).bind fun q7 =>
        x_X9_loose_81 N self31 v1 v2 v3 v5 (q6 * q7) v4 h) f
theorem x_X9_loose_31_0 (N : Nat) (v1 : Int32) (v2 : Int32) (v3 : Int32) (v4 : Int32) (v5 : Int32) (h : mH) : x_X9_loose_31 N v1 v2 v3 0 v4 v5 h = none := rfl
theorem x_X9_loose_31_s (N : Nat) (v1 : Int32) (v2 : Int32) (v3 : Int32) (f : Nat) (v4 : Int32) (v5 : Int32) (h : mH) : x_X9_loose_31 N v1 v2 v3 (f + 1) v4 v5 h = (
    if ((1 : Int32) <<< (v3 &&& 31)) ≤ v5 then
      (x_X9_power N (10 : Int32) v3).bind fun q2 =>
      (x_X9_fraction N v4 q2 v2).bind fun q3 =>
      some (q3, h)
    else
      (x_X9_ones N v5).bind fun q4 =>
      mck v5 64 <|
      if ¬ (mgi h 100 (v5).toNatClampNeg) = (1 : Int32) then
        x_X9_loose_81 N (x_X9_loose_31 N v1 v2 v3 f) v1 v2 v3 v5 (0 : Int32) v4 h
      else
        (x_X9_power N ((10 : Int32) - v1) q4).bind fun q6 =>
        (x_X9_power N v1 (v3 - q4)).bind fun q7 =>
        x_X9_loose_81 N (x_X9_loose_31 N v1 v2 v3 f) v1 v2 v3 v5 (q6 * q7) v4 h) := rfl
set_option maxRecDepth 20000 in
set_option maxHeartbeats 4000000 in
theorem b_X9_loose_31 {g : mG} {l : Launch} (hg : mnn g = 101) (N : Nat) (v1 : Int32) (v2 : Int32) (v3 : Int32) (f : Nat) : ∀ (v4 : Int32) (v5 : Int32) (h : mH), mw g l 4 mX9_loose (fun r : Int32 × mH => (some (Value.int r.1), r.2)) 31 [(0, .ref (mad g 82)), (1, .int v1), (2, .int v2), (3, .int v3), (4, .int v4), (5, .int v5)] [] h (x_X9_loose_31 N v1 v2 v3 f v4 v5 h) := by
  induction f with
  | zero => intros; exact mw_none
  | succ f hself31 =>
    intro v4 v5 h
    refine mw_eq (x_X9_loose_31_s N v1 v2 v3 f v4 v5 h) ?_
    generalize x_X9_loose_31 N v1 v2 v3 f = self31 at hself31 ⊢
    refine mw_iload (n := 33) (q := 5) dX9_loose_31 rfl rfl ?_
    refine mw_iconst (n := 34) (v := 1) dX9_loose_33 rfl (by decide) ?_
    refine mw_iload_n (n := 35) (q := 3) dX9_loose_34 rfl rfl rfl ?_
    refine mw_ishl (n := 36) dX9_loose_35 rfl ?_
    refine mw_icmp_ge (n := 39) (t := 90) dX9_loose_36 rfl (by decide) Iff.rfl (fun c1 => ?_) (fun c1 => ?_)
    · refine mw_iload (n := 92) (q := 4) dX9_loose_90 rfl rfl ?_
      refine mw_bipush (n := 94) (v := 10) dX9_loose_92 rfl (by decide) ?_
      refine mw_iload_n (n := 95) (q := 3) dX9_loose_94 rfl rfl rfl ?_
      refine mw_callS (n := 98) (As := [.int (10 : Int32), .int v3]) (t_X9_power hg N (10 : Int32) v3 h) (by decide) ok_X9_power rfl lk_X9_270 sm_X9_power dX9_loose_95 rfl rfl (Nat.le_of_ble_eq_true rfl) (fun q2 _ => ?_)
      show mw g l _ _ _ 98 _ [.int q2, .int v4] h _
      refine mw_iload_n (n := 99) (q := 2) dX9_loose_98 rfl rfl rfl ?_
      refine mw_callS (n := 102) (As := [.int v4, .int q2, .int v2]) (t_X9_fraction hg N v4 q2 v2 h) (by decide) ok_X9_fraction rfl lk_X9_185 sm_X9_fraction dX9_loose_99 rfl rfl (Nat.le_of_ble_eq_true rfl) (fun q3 _ => ?_)
      show mw g l _ _ _ 102 _ [.int q3] h _
      exact mw_iret dX9_loose_102 rfl rfl
    · refine mw_iload (n := 41) (q := 5) dX9_loose_39 rfl rfl ?_
      refine mw_callS (n := 44) (As := [.int v5]) (t_X9_ones hg N v5 h) (by decide) ok_X9_ones rfl lk_X9_105 sm_X9_ones dX9_loose_41 rfl rfl (Nat.le_of_ble_eq_true rfl) (fun q4 _ => ?_)
      show mw g l _ _ _ 44 _ [.int q4] h _
      refine mw_istore (n := 46) dX9_loose_44 rfl (by decide) rfl ?_
      refine mw_iload (n := 48) (q := 5) dX9_loose_46 rfl rfl ?_
      refine mw_aload_n (n := 49) (q := 1) dX9_loose_48 rfl rfl rfl ?_
      refine mw_getr (n := 52) (a := 82) (k := 23) cl9 (mkm hg (by decide) (by rfl)) (by decide) rfl rfl fl_X9_62 dX9_loose_49 rfl ?_
      refine mw_iload (n := 54) (q := 6) dX9_loose_52 rfl rfl ?_
      refine mw_iald (n := 55) (a := 100) (N := 64) (mkm hg (by decide) (by rfl)) dX9_loose_54 rfl ?_
      refine mw_iconst (n := 56) (v := 1) dX9_loose_55 rfl (by decide) ?_
      refine mw_icmp_ne (n := 59) (t := 80) dX9_loose_56 rfl (by decide) Iff.rfl (fun c5 => ?_) (fun c5 => ?_)
      · refine mw_iconst (n := 81) (v := 0) dX9_loose_80 rfl (by decide) ?_
        refine mw_sub [1, 2, 3, 4, 6] rfl ?_
        exact b_X9_loose_81 hg N v1 v2 v3 v5 (0 : Int32) v4 self31 hself31 h
      · refine mw_bipush (n := 61) (v := 10) dX9_loose_59 rfl (by decide) ?_
        refine mw_iload_n (n := 62) (q := 2) dX9_loose_61 rfl rfl rfl ?_
        refine mw_isub (n := 63) dX9_loose_62 rfl ?_
        refine mw_iload (n := 65) (q := 0) dX9_loose_63 rfl rfl ?_
        refine mw_callS (n := 68) (As := [.int ((10 : Int32) - v1), .int q4]) (t_X9_power hg N ((10 : Int32) - v1) q4 h) (by decide) ok_X9_power rfl lk_X9_270 sm_X9_power dX9_loose_65 rfl rfl (Nat.le_of_ble_eq_true rfl) (fun q6 _ => ?_)
        show mw g l _ _ _ 68 _ [.int q6, .int v4] h _
        refine mw_iload_n (n := 69) (q := 2) dX9_loose_68 rfl rfl rfl ?_
        refine mw_iload_n (n := 70) (q := 4) dX9_loose_69 rfl rfl rfl ?_
        refine mw_iload (n := 72) (q := 0) dX9_loose_70 rfl rfl ?_
        refine mw_isub (n := 73) dX9_loose_72 rfl ?_
        refine mw_callS (n := 76) (As := [.int v1, .int (v3 - q4)]) (t_X9_power hg N v1 (v3 - q4) h) (by decide) ok_X9_power rfl lk_X9_270 sm_X9_power dX9_loose_73 rfl rfl (Nat.le_of_ble_eq_true rfl) (fun q7 _ => ?_)
        show mw g l _ _ _ 76 _ [.int q7, .int q6, .int v4] h _
        refine mw_imul (n := 77) dX9_loose_76 rfl ?_
        refine mw_goto (n := 81) dX9_loose_77 (by decide) ?_
        refine mw_sub [1, 2, 3, 4, 6] rfl ?_
        exact b_X9_loose_81 hg N v1 v2 v3 v5 (q6 * q7) v4 self31 hself31 h
noncomputable def x_X9_loose (N : Nat) (p0 : Int32) (p1 : Int32) (h : mH) : Option (Int32 × mH) :=
  mlet (msi h 82 0 (0 : Int32)) fun h1 =>
  (x_X9_in ((p0).toInt64) (0 : Int64) (10 : Int64)).bind fun q2 =>
  if ¬ q2 = 0 then
    (x_X9_weigh N h1).bind fun q4 =>
    mlet q4.1 fun u5 =>
    x_X9_loose_31 N p0 p1 u5 N (0 : Int32) (0 : Int32) q4.2
  else
    some ((-2 : Int32), h1)
set_option maxRecDepth 20000 in
set_option maxHeartbeats 4000000 in
theorem t_X9_loose {g : mG} {l : Launch} (hg : mnn g = 101) (N : Nat) (p0 : Int32) (p1 : Int32) (h : mH) : mf g l 4 mX9_loose (fun r : Int32 × mH => (some (Value.int r.1), r.2)) [.ref (mad g 82), .int p0, .int p1] h (x_X9_loose N p0 p1 h) := by
  refine mf_of (by decide) (Nat.le_of_ble_eq_true rfl) ?_
  show mw g l 4 mX9_loose (fun r : Int32 × mH => (some (Value.int r.1), r.2)) 0 [(0, .ref (mad g 82)), (1, .int p0), (2, .int p1)] [] h _
  unfold x_X9_loose
  refine mw_aload_n (n := 1) (q := 0) dX9_loose_0 rfl rfl rfl ?_
  refine mw_iconst (n := 2) (v := 0) dX9_loose_1 rfl (by decide) ?_
  refine mw_puti (n := 5) (a := 82) (k := 0) cl9 ct9 (mkm hg (by decide) (by rfl)) (by decide) rfl rfl rfl rfl fl_X9_65 dX9_loose_2 rfl (mw_leth (fun h1 => ?_))
  refine mw_iload_n (n := 6) (q := 1) dX9_loose_5 rfl rfl rfl ?_
  refine mw_i2l (n := 7) dX9_loose_6 rfl ?_
  refine mw_lconst (n := 8) (v := 0) dX9_loose_7 rfl (by decide) ?_
  refine mw_ldc2 (n := 11) dX9_loose_8 rfl kl_X9_268 ?_
  refine mw_callS (n := 14) (As := [.long (p0).toInt64, .long (0 : Int64), .long (10 : Int64)]) (t_X9_in hg ((p0).toInt64) (0 : Int64) (10 : Int64) h1) (by decide) ok_X9_in rfl lk_X9_77 sm_X9_in dX9_loose_11 rfl rfl (Nat.le_of_ble_eq_true rfl) (fun q2 _ => ?_)
  show mw g l _ _ _ 14 _ [.int q2] h1 _
  refine mw_if_ne (n := 17) (t := 20) dX9_loose_14 rfl (by decide) Iff.rfl (fun c3 => ?_) (fun c3 => ?_)
  · refine mw_aload_n (n := 21) (q := 0) dX9_loose_20 rfl rfl rfl ?_
    refine mw_callV (n := 24) (a := 82) (As := []) cl9 (mkm hg (by decide) (by rfl)) (t_X9_weigh hg N h1) (by decide) ok_X9_weigh rfl rfl lk_X9_262 im_X9_weigh se_X9_weigh dX9_loose_21 rfl rfl (Nat.le_of_ble_eq_true rfl) (fun q4 _ => ?_)
    show mw g l _ _ _ 24 _ [.int q4.1] q4.2 _
    refine mw_letI (fun u5 => ?_)
    refine mw_istore_n (n := 25) dX9_loose_24 rfl rfl (by decide) rfl ?_
    refine mw_iconst (n := 26) (v := 0) dX9_loose_25 rfl (by decide) ?_
    refine mw_istore (n := 28) dX9_loose_26 rfl (by decide) rfl ?_
    refine mw_iconst (n := 29) (v := 0) dX9_loose_28 rfl (by decide) ?_
    refine mw_istore (n := 31) dX9_loose_29 rfl (by decide) rfl ?_
    refine mw_sub [3, 4, 5, 2, 1, 0] rfl ?_
    exact b_X9_loose_31 hg N p0 p1 u5 N (0 : Int32) (0 : Int32) q4.2
  · refine mw_bipush (n := 19) (v := -2) dX9_loose_17 rfl (by decide) ?_
    exact mw_iret dX9_loose_19 rfl rfl
noncomputable def x_X9_seed (p0 : Int64) (h : mH) : Option (Int64 × mH) :=
  mlet (msi h 82 0 (0 : Int32)) fun h1 =>
  mlet (mgl h1 82 13) fun u2 =>
  mlet (msl h1 82 13 p0) fun h3 =>
  some (u2, h3)
set_option maxRecDepth 20000 in
set_option maxHeartbeats 4000000 in
theorem t_X9_seed {g : mG} {l : Launch} (hg : mnn g = 101) (p0 : Int64) (h : mH) : mf g l 0 mX9_seed (fun r : Int64 × mH => (some (Value.long r.1), r.2)) [.ref (mad g 82), .long p0] h (x_X9_seed p0 h) := by
  refine mf_of (by decide) (Nat.le_of_ble_eq_true rfl) ?_
  show mw g l 0 mX9_seed (fun r : Int64 × mH => (some (Value.long r.1), r.2)) 0 [(0, .ref (mad g 82)), (1, .long p0)] [] h _
  unfold x_X9_seed
  refine mw_aload_n (n := 1) (q := 0) dX9_seed_0 rfl rfl rfl ?_
  refine mw_iconst (n := 2) (v := 0) dX9_seed_1 rfl (by decide) ?_
  refine mw_puti (n := 5) (a := 82) (k := 0) cl9 ct9 (mkm hg (by decide) (by rfl)) (by decide) rfl rfl rfl rfl fl_X9_65 dX9_seed_2 rfl (mw_leth (fun h1 => ?_))
  refine mw_aload_n (n := 6) (q := 0) dX9_seed_5 rfl rfl rfl ?_
  refine mw_getl (n := 9) (a := 82) (k := 13) cl9 (mkm hg (by decide) (by rfl)) (by decide) rfl rfl fl_X9_273 dX9_seed_6 rfl ?_
  refine mw_letJ (fun u2 => ?_)
  refine mw_lstore_n (n := 10) dX9_seed_9 rfl rfl (by decide) rfl ?_
  refine mw_aload_n (n := 11) (q := 1) dX9_seed_10 rfl rfl rfl ?_
  refine mw_lload_n (n := 12) (q := 2) dX9_seed_11 rfl rfl rfl ?_
  refine mw_putl (n := 15) (a := 82) (k := 13) cl9 ct9 (mkm hg (by decide) (by rfl)) (by decide) rfl rfl rfl rfl fl_X9_273 dX9_seed_12 rfl (mw_leth (fun h3 => ?_))
  refine mw_lload_n (n := 16) (q := 0) dX9_seed_15 rfl rfl rfl ?_
  exact mw_lret dX9_seed_16 rfl rfl
noncomputable def x_X9_drawn_151 (N : Nat) (self60 : Int32 → Int32 → mH → Option (Int32 × mH)) (v1 : Int32) (v2 : Int32) (v3 : Int32) (v5 : Int32) (s0 : Int32) (s1 : Int32) (h : mH) : Option (Int32 × mH) :=
  mlet (s1 + s0) fun u1 =>
  self60 u1 (v5 + (1 : Int32)) h
set_option maxRecDepth 20000 in
set_option maxHeartbeats 4000000 in
theorem b_X9_drawn_151 {g : mG} {l : Launch} (hg : mnn g = 101) (N : Nat) (v1 : Int32) (v2 : Int32) (v3 : Int32) (v5 : Int32) (s0 : Int32) (s1 : Int32) (self60 : Int32 → Int32 → mH → Option (Int32 × mH)) (hself60 : ∀ (v4 : Int32) (v5 : Int32) (h : mH), mw g l 4 mX9_drawn (fun r : Int32 × mH => (some (Value.int r.1), r.2)) 60 [(0, .ref (mad g 82)), (1, .int v1), (2, .int v2), (3, .int v3), (4, .int v4), (5, .int v5)] [] h (self60 v4 v5 h)) (h : mH) : mw g l 4 mX9_drawn (fun r : Int32 × mH => (some (Value.int r.1), r.2)) 151 [(0, .ref (mad g 82)), (1, .int v1), (2, .int v2), (3, .int v3), (5, .int v5)] [.int s0, .int s1] h (x_X9_drawn_151 N self60 v1 v2 v3 v5 s0 s1 h) := by
  unfold x_X9_drawn_151
  refine mw_iadd (n := 152) dX9_drawn_151 rfl ?_
  refine mw_letI (fun u1 => ?_)
  refine mw_istore (n := 154) dX9_drawn_152 rfl (by decide) rfl ?_
  refine mw_iinc (n := 157) (q := 5) (v := (v5 + (1 : Int32))) dX9_drawn_154 rfl rfl rfl (by decide) rfl ?_
  refine mw_goto (n := 60) dX9_drawn_157 (by decide) ?_
  refine mw_sub [2, 3, 4, 5, 1, 0] rfl ?_
  exact hself60 u1 (v5 + (1 : Int32)) h
noncomputable def x_X9_drawn_60 (N : Nat) (v1 : Int32) (v2 : Int32) (v3 : Int32) (f : Nat) : Int32 → Int32 → mH → Option (Int32 × mH) :=
  Nat.rec (motive := fun _ => Int32 → Int32 → mH → Option (Int32 × mH)) (fun _ _ _ => none) (fun _ self60 => fun v4 v5 h => 
    if v1 ≤ v5 then
      some (v4, h)
    else
      mlet (msl h 82 13 (((mgl h 82 13) * (6364136223846793005 : Int64)) + (1442695040888963407 : Int64))) fun h2 =>
      mlet ((xlushr (mgl h2 82 13) (33 : Int32))).toInt32 fun u3 =>
      mzd v2 <|
      mzd v2 <|
      mzd v3 <|
      mzd v3 <|
      (x_X9_putSwitch (xrem u3 v2) (xrem (u3 / (4 : Int32)) v2) (xrem (u3 / (16 : Int32)) v3) (xrem (u3 / (128 : Int32)) v3) h2).bind fun q4 =>
      if ¬ (mgi q4.2 86 31) = (-9 : Int32) then
        (x_X9_place N (mgi q4.2 86 31) q4.2).bind fun q6 =>
        x_X9_drawn_151 N self60 v1 v2 v3 v5 q6 v4 q4.2
      else
        x_X9_drawn_151 N self60 v1 v2 v3 v5 (0 : Int32) v4 q4.2) f
theorem x_X9_drawn_60_0 (N : Nat) (v1 : Int32) (v2 : Int32) (v3 : Int32) (v4 : Int32) (v5 : Int32) (h : mH) : x_X9_drawn_60 N v1 v2 v3 0 v4 v5 h = none := rfl
theorem x_X9_drawn_60_s (N : Nat) (v1 : Int32) (v2 : Int32) (v3 : Int32) (f : Nat) (v4 : Int32) (v5 : Int32) (h : mH) : x_X9_drawn_60 N v1 v2 v3 (f + 1) v4 v5 h = (
    if v1 ≤ v5 then
      some (v4, h)
    else
      mlet (msl h 82 13 (((mgl h 82 13) * (6364136223846793005 : Int64)) + (1442695040888963407 : Int64))) fun h2 =>
      mlet ((xlushr (mgl h2 82 13) (33 : Int32))).toInt32 fun u3 =>
      mzd v2 <|
      mzd v2 <|
      mzd v3 <|
      mzd v3 <|
      (x_X9_putSwitch (xrem u3 v2) (xrem (u3 / (4 : Int32)) v2) (xrem (u3 / (16 : Int32)) v3) (xrem (u3 / (128 : Int32)) v3) h2).bind fun q4 =>
      if ¬ (mgi q4.2 86 31) = (-9 : Int32) then
        (x_X9_place N (mgi q4.2 86 31) q4.2).bind fun q6 =>
        x_X9_drawn_151 N (x_X9_drawn_60 N v1 v2 v3 f) v1 v2 v3 v5 q6 v4 q4.2
      else
        x_X9_drawn_151 N (x_X9_drawn_60 N v1 v2 v3 f) v1 v2 v3 v5 (0 : Int32) v4 q4.2) := rfl
set_option maxRecDepth 20000 in
set_option maxHeartbeats 4000000 in
theorem b_X9_drawn_60 {g : mG} {l : Launch} (hg : mnn g = 101) (N : Nat) (v1 : Int32) (v2 : Int32) (v3 : Int32) (f : Nat) : ∀ (v4 : Int32) (v5 : Int32) (h : mH), mw g l 4 mX9_drawn (fun r : Int32 × mH => (some (Value.int r.1), r.2)) 60 [(0, .ref (mad g 82)), (1, .int v1), (2, .int v2), (3, .int v3), (4, .int v4), (5, .int v5)] [] h (x_X9_drawn_60 N v1 v2 v3 f v4 v5 h) := by
  induction f with
  | zero => intros; exact mw_none
  | succ f hself60 =>
    intro v4 v5 h
    refine mw_eq (x_X9_drawn_60_s N v1 v2 v3 f v4 v5 h) ?_
    generalize x_X9_drawn_60 N v1 v2 v3 f = self60 at hself60 ⊢
    refine mw_iload (n := 62) (q := 5) dX9_drawn_60 rfl rfl ?_
    refine mw_iload_n (n := 63) (q := 1) dX9_drawn_62 rfl rfl rfl ?_
    refine mw_icmp_ge (n := 66) (t := 160) dX9_drawn_63 rfl (by decide) Iff.rfl (fun c1 => ?_) (fun c1 => ?_)
    · refine mw_iload (n := 162) (q := 4) dX9_drawn_160 rfl rfl ?_
      exact mw_iret dX9_drawn_162 rfl rfl
    · refine mw_aload_n (n := 67) (q := 0) dX9_drawn_66 rfl rfl rfl ?_
      refine mw_aload_n (n := 68) (q := 0) dX9_drawn_67 rfl rfl rfl ?_
      refine mw_getl (n := 71) (a := 82) (k := 13) cl9 (mkm hg (by decide) (by rfl)) (by decide) rfl rfl fl_X9_273 dX9_drawn_68 rfl ?_
      refine mw_ldc2 (n := 74) dX9_drawn_71 rfl kl_X9_279 ?_
      refine mw_lmul (n := 75) dX9_drawn_74 rfl ?_
      refine mw_ldc2 (n := 78) dX9_drawn_75 rfl kl_X9_281 ?_
      refine mw_ladd (n := 79) dX9_drawn_78 rfl ?_
      refine mw_putl (n := 82) (a := 82) (k := 13) cl9 ct9 (mkm hg (by decide) (by rfl)) (by decide) rfl rfl rfl rfl fl_X9_273 dX9_drawn_79 rfl (mw_leth (fun h2 => ?_))
      refine mw_aload_n (n := 83) (q := 0) dX9_drawn_82 rfl rfl rfl ?_
      refine mw_getl (n := 86) (a := 82) (k := 13) cl9 (mkm hg (by decide) (by rfl)) (by decide) rfl rfl fl_X9_273 dX9_drawn_83 rfl ?_
      refine mw_bipush (n := 88) (v := 33) dX9_drawn_86 rfl (by decide) ?_
      refine mw_lushr (n := 89) dX9_drawn_88 rfl ?_
      refine mw_l2i (n := 90) dX9_drawn_89 rfl ?_
      refine mw_letI (fun u3 => ?_)
      refine mw_istore (n := 92) dX9_drawn_90 rfl (by decide) rfl ?_
      refine mw_aload_n (n := 93) (q := 1) dX9_drawn_92 rfl rfl rfl ?_
      refine mw_iload (n := 95) (q := 0) dX9_drawn_93 rfl rfl ?_
      refine mw_iload_n (n := 96) (q := 3) dX9_drawn_95 rfl rfl rfl ?_
      refine mw_iremC (n := 97) dX9_drawn_96 rfl ?_
      refine mw_iload (n := 99) (q := 0) dX9_drawn_97 rfl rfl ?_
      refine mw_iconst (n := 100) (v := 4) dX9_drawn_99 rfl (by decide) ?_
      refine mw_idiv (n := 101) dX9_drawn_100 rfl (by decide) ?_
      refine mw_iload_n (n := 102) (q := 3) dX9_drawn_101 rfl rfl rfl ?_
      refine mw_iremC (n := 103) dX9_drawn_102 rfl ?_
      refine mw_iload (n := 105) (q := 0) dX9_drawn_103 rfl rfl ?_
      refine mw_bipush (n := 107) (v := 16) dX9_drawn_105 rfl (by decide) ?_
      refine mw_idiv (n := 108) dX9_drawn_107 rfl (by decide) ?_
      refine mw_iload_n (n := 109) (q := 4) dX9_drawn_108 rfl rfl rfl ?_
      refine mw_iremC (n := 110) dX9_drawn_109 rfl ?_
      refine mw_iload (n := 112) (q := 0) dX9_drawn_110 rfl rfl ?_
      refine mw_sipush (n := 115) (v := 128) dX9_drawn_112 rfl (by decide) ?_
      refine mw_idiv (n := 116) dX9_drawn_115 rfl (by decide) ?_
      refine mw_iload_n (n := 117) (q := 4) dX9_drawn_116 rfl rfl rfl ?_
      refine mw_iremC (n := 118) dX9_drawn_117 rfl ?_
      refine mw_callV (n := 121) (a := 82) (As := [.int (xrem u3 v2), .int (xrem (u3 / (4 : Int32)) v2), .int (xrem (u3 / (16 : Int32)) v3), .int (xrem (u3 / (128 : Int32)) v3)]) cl9 (mkm hg (by decide) (by rfl)) (t_X9_putSwitch hg (xrem u3 v2) (xrem (u3 / (4 : Int32)) v2) (xrem (u3 / (16 : Int32)) v3) (xrem (u3 / (128 : Int32)) v3) h2) (by decide) ok_X9_putSwitch rfl rfl lk_X9_226 im_X9_putSwitch se_X9_putSwitch dX9_drawn_118 rfl rfl (Nat.le_of_ble_eq_true rfl) (fun q4 _ => ?_)
      show mw g l _ _ _ 121 _ [.int q4.1] q4.2 _
      refine mw_pop (n := 122) dX9_drawn_121 rfl rfl ?_
      refine mw_iload (n := 124) (q := 5) dX9_drawn_122 rfl rfl ?_
      refine mw_aload_n (n := 125) (q := 1) dX9_drawn_124 rfl rfl rfl ?_
      refine mw_getr (n := 128) (a := 82) (k := 5) cl9 (mkm hg (by decide) (by rfl)) (by decide) rfl rfl fl_X9_19 dX9_drawn_125 rfl ?_
      refine mw_bipush (n := 130) (v := 31) dX9_drawn_128 rfl (by decide) ?_
      refine mw_iaLd (n := 131) (a := 86) (j := 31) (N := 32) (mkm hg (by decide) (by rfl)) (by decide) (by decide) dX9_drawn_130 rfl ?_
      refine mw_bipush (n := 133) (v := -9) dX9_drawn_131 rfl (by decide) ?_
      refine mw_icmp_ne (n := 136) (t := 140) dX9_drawn_133 rfl (by decide) Iff.rfl (fun c5 => ?_) (fun c5 => ?_)
      · refine mw_aload_n (n := 141) (q := 1) dX9_drawn_140 rfl rfl rfl ?_
        refine mw_aload_n (n := 142) (q := 1) dX9_drawn_141 rfl rfl rfl ?_
        refine mw_getr (n := 145) (a := 82) (k := 5) cl9 (mkm hg (by decide) (by rfl)) (by decide) rfl rfl fl_X9_19 dX9_drawn_142 rfl ?_
        refine mw_bipush (n := 147) (v := 31) dX9_drawn_145 rfl (by decide) ?_
        refine mw_iaLd (n := 148) (a := 86) (j := 31) (N := 32) (mkm hg (by decide) (by rfl)) (by decide) (by decide) dX9_drawn_147 rfl ?_
        refine mw_callV (n := 151) (a := 82) (As := [.int (mgi q4.2 86 31)]) cl9 (mkm hg (by decide) (by rfl)) (t_X9_place hg N (mgi q4.2 86 31) q4.2) (by decide) ok_X9_place rfl rfl lk_X9_126 im_X9_place se_X9_place dX9_drawn_148 rfl rfl (Nat.le_of_ble_eq_true rfl) (fun q6 _ => ?_)
        show mw g l _ _ _ 151 _ [.int q6, .int v4] q4.2 _
        refine mw_sub [1, 2, 3, 4, 6] rfl ?_
        exact b_X9_drawn_151 hg N v1 v2 v3 v5 q6 v4 self60 hself60 q4.2
      · refine mw_iconst (n := 137) (v := 0) dX9_drawn_136 rfl (by decide) ?_
        refine mw_goto (n := 151) dX9_drawn_137 (by decide) ?_
        refine mw_sub [1, 2, 3, 4, 6] rfl ?_
        exact b_X9_drawn_151 hg N v1 v2 v3 v5 (0 : Int32) v4 self60 hself60 q4.2
noncomputable def x_X9_drawn (N : Nat) (p0 : Int32) (h : mH) : Option (Int32 × mH) :=
  mlet (msi h 82 0 (0 : Int32)) fun h1 =>
  (x_X9_in ((p0).toInt64) (1 : Int64) (20 : Int64)).bind fun q2 =>
  if ¬ q2 = 0 then
    (x_X9_list N 85 (1 : Int32) h1).bind fun q4 =>
    (x_X9_lay N 86 85 q4).bind fun q5 =>
    mlet (mgi q5 85 0) fun u6 =>
    mlet (mgi q5 85 1) fun u7 =>
    x_X9_drawn_60 N p0 u6 u7 N (0 : Int32) (0 : Int32) q5
  else
    some ((-2 : Int32), h1)
set_option maxRecDepth 20000 in
set_option maxHeartbeats 4000000 in
theorem t_X9_drawn {g : mG} {l : Launch} (hg : mnn g = 101) (N : Nat) (p0 : Int32) (h : mH) : mf g l 4 mX9_drawn (fun r : Int32 × mH => (some (Value.int r.1), r.2)) [.ref (mad g 82), .int p0] h (x_X9_drawn N p0 h) := by
  refine mf_of (by decide) (Nat.le_of_ble_eq_true rfl) ?_
  show mw g l 4 mX9_drawn (fun r : Int32 × mH => (some (Value.int r.1), r.2)) 0 [(0, .ref (mad g 82)), (1, .int p0)] [] h _
  unfold x_X9_drawn
  refine mw_aload_n (n := 1) (q := 0) dX9_drawn_0 rfl rfl rfl ?_
  refine mw_iconst (n := 2) (v := 0) dX9_drawn_1 rfl (by decide) ?_
  refine mw_puti (n := 5) (a := 82) (k := 0) cl9 ct9 (mkm hg (by decide) (by rfl)) (by decide) rfl rfl rfl rfl fl_X9_65 dX9_drawn_2 rfl (mw_leth (fun h1 => ?_))
  refine mw_iload_n (n := 6) (q := 1) dX9_drawn_5 rfl rfl rfl ?_
  refine mw_i2l (n := 7) dX9_drawn_6 rfl ?_
  refine mw_lconst (n := 8) (v := 1) dX9_drawn_7 rfl (by decide) ?_
  refine mw_ldc2 (n := 11) dX9_drawn_8 rfl kl_X9_277 ?_
  refine mw_callS (n := 14) (As := [.long (p0).toInt64, .long (1 : Int64), .long (20 : Int64)]) (t_X9_in hg ((p0).toInt64) (1 : Int64) (20 : Int64) h1) (by decide) ok_X9_in rfl lk_X9_77 sm_X9_in dX9_drawn_11 rfl rfl (Nat.le_of_ble_eq_true rfl) (fun q2 _ => ?_)
  show mw g l _ _ _ 14 _ [.int q2] h1 _
  refine mw_if_ne (n := 17) (t := 20) dX9_drawn_14 rfl (by decide) Iff.rfl (fun c3 => ?_) (fun c3 => ?_)
  · refine mw_aload_n (n := 21) (q := 0) dX9_drawn_20 rfl rfl rfl ?_
    refine mw_aload_n (n := 22) (q := 0) dX9_drawn_21 rfl rfl rfl ?_
    refine mw_getr (n := 25) (a := 82) (k := 4) cl9 (mkm hg (by decide) (by rfl)) (by decide) rfl rfl fl_X9_16 dX9_drawn_22 rfl ?_
    refine mw_iconst (n := 26) (v := 1) dX9_drawn_25 rfl (by decide) ?_
    refine mw_callV (n := 29) (a := 82) (As := [.ref (mad g 85), .int (1 : Int32)]) cl9 (mkm hg (by decide) (by rfl)) (t_X9_list hg N 85 (1 : Int32) (mkm hg (by decide) (by rfl)) h1) (by decide) ok_X9_list rfl rfl lk_X9_122 im_X9_list se_X9_list dX9_drawn_26 rfl rfl (Nat.le_of_ble_eq_true rfl) (fun q4 _ => ?_)
    show mw g l _ _ _ 29 _ [] q4 _
    refine mw_aload_n (n := 30) (q := 0) dX9_drawn_29 rfl rfl rfl ?_
    refine mw_getr (n := 33) (a := 82) (k := 5) cl9 (mkm hg (by decide) (by rfl)) (by decide) rfl rfl fl_X9_19 dX9_drawn_30 rfl ?_
    refine mw_aload_n (n := 34) (q := 0) dX9_drawn_33 rfl rfl rfl ?_
    refine mw_getr (n := 37) (a := 82) (k := 4) cl9 (mkm hg (by decide) (by rfl)) (by decide) rfl rfl fl_X9_16 dX9_drawn_34 rfl ?_
    refine mw_callS (n := 40) (As := [.ref (mad g 86), .ref (mad g 85)]) (t_X9_lay hg N 86 85 (mkm hg (by decide) (by rfl)) (mkm hg (by decide) (by rfl)) q4) (by decide) ok_X9_lay rfl lk_X9_129 sm_X9_lay dX9_drawn_37 rfl rfl (Nat.le_of_ble_eq_true rfl) (fun q5 _ => ?_)
    show mw g l _ _ _ 40 _ [] q5 _
    refine mw_aload_n (n := 41) (q := 0) dX9_drawn_40 rfl rfl rfl ?_
    refine mw_getr (n := 44) (a := 82) (k := 4) cl9 (mkm hg (by decide) (by rfl)) (by decide) rfl rfl fl_X9_16 dX9_drawn_41 rfl ?_
    refine mw_iconst (n := 45) (v := 0) dX9_drawn_44 rfl (by decide) ?_
    refine mw_iaLd (n := 46) (a := 85) (j := 0) (N := 32) (mkm hg (by decide) (by rfl)) (by decide) (by decide) dX9_drawn_45 rfl ?_
    refine mw_letI (fun u6 => ?_)
    refine mw_istore_n (n := 47) dX9_drawn_46 rfl rfl (by decide) rfl ?_
    refine mw_aload_n (n := 48) (q := 1) dX9_drawn_47 rfl rfl rfl ?_
    refine mw_getr (n := 51) (a := 82) (k := 4) cl9 (mkm hg (by decide) (by rfl)) (by decide) rfl rfl fl_X9_16 dX9_drawn_48 rfl ?_
    refine mw_iconst (n := 52) (v := 1) dX9_drawn_51 rfl (by decide) ?_
    refine mw_iaLd (n := 53) (a := 85) (j := 1) (N := 32) (mkm hg (by decide) (by rfl)) (by decide) (by decide) dX9_drawn_52 rfl ?_
    refine mw_letI (fun u7 => ?_)
    refine mw_istore_n (n := 54) dX9_drawn_53 rfl rfl (by decide) rfl ?_
    refine mw_iconst (n := 55) (v := 0) dX9_drawn_54 rfl (by decide) ?_
    refine mw_istore (n := 57) dX9_drawn_55 rfl (by decide) rfl ?_
    refine mw_iconst (n := 58) (v := 0) dX9_drawn_57 rfl (by decide) ?_
    refine mw_istore (n := 60) dX9_drawn_58 rfl (by decide) rfl ?_
    refine mw_sub [4, 5, 3, 2, 1, 0] rfl ?_
    exact b_X9_drawn_60 hg N p0 u6 u7 N (0 : Int32) (0 : Int32) q5
  · refine mw_bipush (n := 19) (v := -2) dX9_drawn_17 rfl (by decide) ?_
    exact mw_iret dX9_drawn_19 rfl rfl
noncomputable def x_X9_keep_26 (N : Nat) (v1 : Int32) (f : Nat) : Int32 → mH → Option (Int32 × mH) :=
  Nat.rec (motive := fun _ => Int32 → mH → Option (Int32 × mH)) (fun _ _ => none) (fun _ self26 => fun v2 h => 
    if (32 : Int32) ≤ v2 then
      (x_X9_cells 85 h).bind fun q2 =>
      some (q2, h)
    else
      mck v2 32 <|
      mck (((32 : Int32) * v1) + v2) 64 <|
      mlet (msi h 88 ((((32 : Int32) * v1) + v2)).toNatClampNeg (mgi h 85 (v2).toNatClampNeg)) fun h3 =>
      self26 (v2 + (1 : Int32)) h3) f
theorem x_X9_keep_26_0 (N : Nat) (v1 : Int32) (v2 : Int32) (h : mH) : x_X9_keep_26 N v1 0 v2 h = none := rfl
theorem x_X9_keep_26_s (N : Nat) (v1 : Int32) (f : Nat) (v2 : Int32) (h : mH) : x_X9_keep_26 N v1 (f + 1) v2 h = (
    if (32 : Int32) ≤ v2 then
      (x_X9_cells 85 h).bind fun q2 =>
      some (q2, h)
    else
      mck v2 32 <|
      mck (((32 : Int32) * v1) + v2) 64 <|
      mlet (msi h 88 ((((32 : Int32) * v1) + v2)).toNatClampNeg (mgi h 85 (v2).toNatClampNeg)) fun h3 =>
      (x_X9_keep_26 N v1 f) (v2 + (1 : Int32)) h3) := rfl
set_option maxRecDepth 20000 in
set_option maxHeartbeats 4000000 in
theorem b_X9_keep_26 {g : mG} {l : Launch} (hg : mnn g = 101) (N : Nat) (v1 : Int32) (f : Nat) : ∀ (v2 : Int32) (h : mH), mw g l 1 mX9_keep (fun r : Int32 × mH => (some (Value.int r.1), r.2)) 26 [(0, .ref (mad g 82)), (1, .int v1), (2, .int v2)] [] h (x_X9_keep_26 N v1 f v2 h) := by
  induction f with
  | zero => intros; exact mw_none
  | succ f hself26 =>
    intro v2 h
    refine mw_eq (x_X9_keep_26_s N v1 f v2 h) ?_
    generalize x_X9_keep_26 N v1 f = self26 at hself26 ⊢
    refine mw_iload_n (n := 27) (q := 2) dX9_keep_26 rfl rfl rfl ?_
    refine mw_bipush (n := 29) (v := 32) dX9_keep_27 rfl (by decide) ?_
    refine mw_icmp_ge (n := 32) (t := 55) dX9_keep_29 rfl (by decide) Iff.rfl (fun c1 => ?_) (fun c1 => ?_)
    · refine mw_aload_n (n := 56) (q := 0) dX9_keep_55 rfl rfl rfl ?_
      refine mw_getr (n := 59) (a := 82) (k := 4) cl9 (mkm hg (by decide) (by rfl)) (by decide) rfl rfl fl_X9_16 dX9_keep_56 rfl ?_
      refine mw_callS (n := 62) (As := [.ref (mad g 85)]) (t_X9_cells hg 85 (mkm hg (by decide) (by rfl)) h) (by decide) ok_X9_cells rfl lk_X9_69 sm_X9_cells dX9_keep_59 rfl rfl (Nat.le_of_ble_eq_true rfl) (fun q2 _ => ?_)
      show mw g l _ _ _ 62 _ [.int q2] h _
      exact mw_iret dX9_keep_62 rfl rfl
    · refine mw_aload_n (n := 33) (q := 0) dX9_keep_32 rfl rfl rfl ?_
      refine mw_getr (n := 36) (a := 82) (k := 8) cl9 (mkm hg (by decide) (by rfl)) (by decide) rfl rfl fl_X9_25 dX9_keep_33 rfl ?_
      refine mw_bipush (n := 38) (v := 32) dX9_keep_36 rfl (by decide) ?_
      refine mw_iload_n (n := 39) (q := 1) dX9_keep_38 rfl rfl rfl ?_
      refine mw_imul (n := 40) dX9_keep_39 rfl ?_
      refine mw_iload_n (n := 41) (q := 2) dX9_keep_40 rfl rfl rfl ?_
      refine mw_iadd (n := 42) dX9_keep_41 rfl ?_
      refine mw_aload_n (n := 43) (q := 0) dX9_keep_42 rfl rfl rfl ?_
      refine mw_getr (n := 46) (a := 82) (k := 4) cl9 (mkm hg (by decide) (by rfl)) (by decide) rfl rfl fl_X9_16 dX9_keep_43 rfl ?_
      refine mw_iload_n (n := 47) (q := 2) dX9_keep_46 rfl rfl rfl ?_
      refine mw_iald (n := 48) (a := 85) (N := 32) (mkm hg (by decide) (by rfl)) dX9_keep_47 rfl ?_
      refine mw_iast (n := 49) (a := 88) (N := 64) (mkm hg (by decide) (by rfl)) dX9_keep_48 rfl (mw_leth (fun h3 => ?_))
      refine mw_iinc (n := 52) (q := 2) (v := (v2 + (1 : Int32))) dX9_keep_49 rfl rfl rfl (by decide) rfl ?_
      refine mw_goto (n := 26) dX9_keep_52 (by decide) ?_
      refine mw_sub [1, 2, 0] rfl ?_
      exact hself26 (v2 + (1 : Int32)) h3
noncomputable def x_X9_keep (N : Nat) (p0 : Int32) (h : mH) : Option (Int32 × mH) :=
  mlet (msi h 82 0 (0 : Int32)) fun h1 =>
  (x_X9_in ((p0).toInt64) (0 : Int64) (1 : Int64)).bind fun q2 =>
  if ¬ q2 = 0 then
    mck p0 2 <|
    mlet (msi h1 89 (p0).toNatClampNeg (1 : Int32)) fun h4 =>
    x_X9_keep_26 N p0 N (0 : Int32) h4
  else
    some ((-1 : Int32), h1)
set_option maxRecDepth 20000 in
set_option maxHeartbeats 4000000 in
theorem t_X9_keep {g : mG} {l : Launch} (hg : mnn g = 101) (N : Nat) (p0 : Int32) (h : mH) : mf g l 1 mX9_keep (fun r : Int32 × mH => (some (Value.int r.1), r.2)) [.ref (mad g 82), .int p0] h (x_X9_keep N p0 h) := by
  refine mf_of (by decide) (Nat.le_of_ble_eq_true rfl) ?_
  show mw g l 1 mX9_keep (fun r : Int32 × mH => (some (Value.int r.1), r.2)) 0 [(0, .ref (mad g 82)), (1, .int p0)] [] h _
  unfold x_X9_keep
  refine mw_aload_n (n := 1) (q := 0) dX9_keep_0 rfl rfl rfl ?_
  refine mw_iconst (n := 2) (v := 0) dX9_keep_1 rfl (by decide) ?_
  refine mw_puti (n := 5) (a := 82) (k := 0) cl9 ct9 (mkm hg (by decide) (by rfl)) (by decide) rfl rfl rfl rfl fl_X9_65 dX9_keep_2 rfl (mw_leth (fun h1 => ?_))
  refine mw_iload_n (n := 6) (q := 1) dX9_keep_5 rfl rfl rfl ?_
  refine mw_i2l (n := 7) dX9_keep_6 rfl ?_
  refine mw_lconst (n := 8) (v := 0) dX9_keep_7 rfl (by decide) ?_
  refine mw_lconst (n := 9) (v := 1) dX9_keep_8 rfl (by decide) ?_
  refine mw_callS (n := 12) (As := [.long (p0).toInt64, .long (0 : Int64), .long (1 : Int64)]) (t_X9_in hg ((p0).toInt64) (0 : Int64) (1 : Int64) h1) (by decide) ok_X9_in rfl lk_X9_77 sm_X9_in dX9_keep_9 rfl rfl (Nat.le_of_ble_eq_true rfl) (fun q2 _ => ?_)
  show mw g l _ _ _ 12 _ [.int q2] h1 _
  refine mw_if_ne (n := 15) (t := 17) dX9_keep_12 rfl (by decide) Iff.rfl (fun c3 => ?_) (fun c3 => ?_)
  · refine mw_aload_n (n := 18) (q := 0) dX9_keep_17 rfl rfl rfl ?_
    refine mw_getr (n := 21) (a := 82) (k := 9) cl9 (mkm hg (by decide) (by rfl)) (by decide) rfl rfl fl_X9_28 dX9_keep_18 rfl ?_
    refine mw_iload_n (n := 22) (q := 1) dX9_keep_21 rfl rfl rfl ?_
    refine mw_iconst (n := 23) (v := 1) dX9_keep_22 rfl (by decide) ?_
    refine mw_zast (n := 24) (a := 89) (mkm hg (by decide) (by rfl)) (by decide) dX9_keep_23 rfl (mw_leth (fun h4 => ?_))
    refine mw_iconst (n := 25) (v := 0) dX9_keep_24 rfl (by decide) ?_
    refine mw_istore_n (n := 26) dX9_keep_25 rfl rfl (by decide) rfl ?_
    refine mw_sub [1, 2, 0] rfl ?_
    exact b_X9_keep_26 hg N p0 N (0 : Int32) h4
  · refine mw_iconst (n := 16) (v := -1) dX9_keep_15 rfl (by decide) ?_
    exact mw_iret dX9_keep_16 rfl rfl
noncomputable def x_X9_again_31 (N : Nat) (v1 : Int32) (f : Nat) : Int32 → mH → Option (Int32 × mH) :=
  Nat.rec (motive := fun _ => Int32 → mH → Option (Int32 × mH)) (fun _ _ => none) (fun _ self31 => fun v2 h => 
    if (32 : Int32) ≤ v2 then
      mlet (msi h 82 7 (0 : Int32)) fun h2 =>
      (x_X9_cells 85 h2).bind fun q3 =>
      some (q3, h2)
    else
      mck (((32 : Int32) * v1) + v2) 64 <|
      mck v2 32 <|
      mlet (msi h 85 (v2).toNatClampNeg (mgi h 88 ((((32 : Int32) * v1) + v2)).toNatClampNeg)) fun h4 =>
      self31 (v2 + (1 : Int32)) h4) f
theorem x_X9_again_31_0 (N : Nat) (v1 : Int32) (v2 : Int32) (h : mH) : x_X9_again_31 N v1 0 v2 h = none := rfl
theorem x_X9_again_31_s (N : Nat) (v1 : Int32) (f : Nat) (v2 : Int32) (h : mH) : x_X9_again_31 N v1 (f + 1) v2 h = (
    if (32 : Int32) ≤ v2 then
      mlet (msi h 82 7 (0 : Int32)) fun h2 =>
      (x_X9_cells 85 h2).bind fun q3 =>
      some (q3, h2)
    else
      mck (((32 : Int32) * v1) + v2) 64 <|
      mck v2 32 <|
      mlet (msi h 85 (v2).toNatClampNeg (mgi h 88 ((((32 : Int32) * v1) + v2)).toNatClampNeg)) fun h4 =>
      (x_X9_again_31 N v1 f) (v2 + (1 : Int32)) h4) := rfl
set_option maxRecDepth 20000 in
set_option maxHeartbeats 4000000 in
theorem b_X9_again_31 {g : mG} {l : Launch} (hg : mnn g = 101) (N : Nat) (v1 : Int32) (f : Nat) : ∀ (v2 : Int32) (h : mH), mw g l 1 mX9_again (fun r : Int32 × mH => (some (Value.int r.1), r.2)) 31 [(0, .ref (mad g 82)), (1, .int v1), (2, .int v2)] [] h (x_X9_again_31 N v1 f v2 h) := by
  induction f with
  | zero => intros; exact mw_none
  | succ f hself31 =>
    intro v2 h
    refine mw_eq (x_X9_again_31_s N v1 f v2 h) ?_
    generalize x_X9_again_31 N v1 f = self31 at hself31 ⊢
    refine mw_iload_n (n := 32) (q := 2) dX9_again_31 rfl rfl rfl ?_
    refine mw_bipush (n := 34) (v := 32) dX9_again_32 rfl (by decide) ?_
    refine mw_icmp_ge (n := 37) (t := 60) dX9_again_34 rfl (by decide) Iff.rfl (fun c1 => ?_) (fun c1 => ?_)
    · refine mw_aload_n (n := 61) (q := 0) dX9_again_60 rfl rfl rfl ?_
      refine mw_iconst (n := 62) (v := 0) dX9_again_61 rfl (by decide) ?_
      refine mw_puti (n := 65) (a := 82) (k := 7) cl9 ct9 (mkm hg (by decide) (by rfl)) (by decide) rfl rfl rfl rfl fl_X9_137 dX9_again_62 rfl (mw_leth (fun h2 => ?_))
      refine mw_aload_n (n := 66) (q := 0) dX9_again_65 rfl rfl rfl ?_
      refine mw_getr (n := 69) (a := 82) (k := 4) cl9 (mkm hg (by decide) (by rfl)) (by decide) rfl rfl fl_X9_16 dX9_again_66 rfl ?_
      refine mw_callS (n := 72) (As := [.ref (mad g 85)]) (t_X9_cells hg 85 (mkm hg (by decide) (by rfl)) h2) (by decide) ok_X9_cells rfl lk_X9_69 sm_X9_cells dX9_again_69 rfl rfl (Nat.le_of_ble_eq_true rfl) (fun q3 _ => ?_)
      show mw g l _ _ _ 72 _ [.int q3] h2 _
      exact mw_iret dX9_again_72 rfl rfl
    · refine mw_aload_n (n := 38) (q := 0) dX9_again_37 rfl rfl rfl ?_
      refine mw_getr (n := 41) (a := 82) (k := 4) cl9 (mkm hg (by decide) (by rfl)) (by decide) rfl rfl fl_X9_16 dX9_again_38 rfl ?_
      refine mw_iload_n (n := 42) (q := 2) dX9_again_41 rfl rfl rfl ?_
      refine mw_aload_n (n := 43) (q := 0) dX9_again_42 rfl rfl rfl ?_
      refine mw_getr (n := 46) (a := 82) (k := 8) cl9 (mkm hg (by decide) (by rfl)) (by decide) rfl rfl fl_X9_25 dX9_again_43 rfl ?_
      refine mw_bipush (n := 48) (v := 32) dX9_again_46 rfl (by decide) ?_
      refine mw_iload_n (n := 49) (q := 1) dX9_again_48 rfl rfl rfl ?_
      refine mw_imul (n := 50) dX9_again_49 rfl ?_
      refine mw_iload_n (n := 51) (q := 2) dX9_again_50 rfl rfl rfl ?_
      refine mw_iadd (n := 52) dX9_again_51 rfl ?_
      refine mw_iald (n := 53) (a := 88) (N := 64) (mkm hg (by decide) (by rfl)) dX9_again_52 rfl ?_
      refine mw_iast (n := 54) (a := 85) (N := 32) (mkm hg (by decide) (by rfl)) dX9_again_53 rfl (mw_leth (fun h4 => ?_))
      refine mw_iinc (n := 57) (q := 2) (v := (v2 + (1 : Int32))) dX9_again_54 rfl rfl rfl (by decide) rfl ?_
      refine mw_goto (n := 31) dX9_again_57 (by decide) ?_
      refine mw_sub [1, 2, 0] rfl ?_
      exact hself31 (v2 + (1 : Int32)) h4
noncomputable def x_X9_again (N : Nat) (p0 : Int32) (h : mH) : Option (Int32 × mH) :=
  mlet (msi h 82 0 (0 : Int32)) fun h1 =>
  (x_X9_in ((p0).toInt64) (0 : Int64) (1 : Int64)).bind fun q2 =>
  if ¬ q2 = 0 then
    mck p0 2 <|
    if ¬ (mgi h1 89 (p0).toNatClampNeg) = 0 then
      x_X9_again_31 N p0 N (0 : Int32) h1
    else
      some ((-3 : Int32), h1)
  else
    some ((-1 : Int32), h1)
set_option maxRecDepth 20000 in
set_option maxHeartbeats 4000000 in
theorem t_X9_again {g : mG} {l : Launch} (hg : mnn g = 101) (N : Nat) (p0 : Int32) (h : mH) : mf g l 1 mX9_again (fun r : Int32 × mH => (some (Value.int r.1), r.2)) [.ref (mad g 82), .int p0] h (x_X9_again N p0 h) := by
  refine mf_of (by decide) (Nat.le_of_ble_eq_true rfl) ?_
  show mw g l 1 mX9_again (fun r : Int32 × mH => (some (Value.int r.1), r.2)) 0 [(0, .ref (mad g 82)), (1, .int p0)] [] h _
  unfold x_X9_again
  refine mw_aload_n (n := 1) (q := 0) dX9_again_0 rfl rfl rfl ?_
  refine mw_iconst (n := 2) (v := 0) dX9_again_1 rfl (by decide) ?_
  refine mw_puti (n := 5) (a := 82) (k := 0) cl9 ct9 (mkm hg (by decide) (by rfl)) (by decide) rfl rfl rfl rfl fl_X9_65 dX9_again_2 rfl (mw_leth (fun h1 => ?_))
  refine mw_iload_n (n := 6) (q := 1) dX9_again_5 rfl rfl rfl ?_
  refine mw_i2l (n := 7) dX9_again_6 rfl ?_
  refine mw_lconst (n := 8) (v := 0) dX9_again_7 rfl (by decide) ?_
  refine mw_lconst (n := 9) (v := 1) dX9_again_8 rfl (by decide) ?_
  refine mw_callS (n := 12) (As := [.long (p0).toInt64, .long (0 : Int64), .long (1 : Int64)]) (t_X9_in hg ((p0).toInt64) (0 : Int64) (1 : Int64) h1) (by decide) ok_X9_in rfl lk_X9_77 sm_X9_in dX9_again_9 rfl rfl (Nat.le_of_ble_eq_true rfl) (fun q2 _ => ?_)
  show mw g l _ _ _ 12 _ [.int q2] h1 _
  refine mw_if_ne (n := 15) (t := 17) dX9_again_12 rfl (by decide) Iff.rfl (fun c3 => ?_) (fun c3 => ?_)
  · refine mw_aload_n (n := 18) (q := 0) dX9_again_17 rfl rfl rfl ?_
    refine mw_getr (n := 21) (a := 82) (k := 9) cl9 (mkm hg (by decide) (by rfl)) (by decide) rfl rfl fl_X9_28 dX9_again_18 rfl ?_
    refine mw_iload_n (n := 22) (q := 1) dX9_again_21 rfl rfl rfl ?_
    refine mw_zald (n := 23) (a := 89) (mkm hg (by decide) (by rfl)) dX9_again_22 rfl ?_
    refine mw_if_ne (n := 26) (t := 29) dX9_again_23 rfl (by decide) Iff.rfl (fun c4 => ?_) (fun c4 => ?_)
    · refine mw_iconst (n := 30) (v := 0) dX9_again_29 rfl (by decide) ?_
      refine mw_istore_n (n := 31) dX9_again_30 rfl rfl (by decide) rfl ?_
      refine mw_sub [1, 2, 0] rfl ?_
      exact b_X9_again_31 hg N p0 N (0 : Int32) h1
    · refine mw_bipush (n := 28) (v := -3) dX9_again_26 rfl (by decide) ?_
      exact mw_iret dX9_again_28 rfl rfl
  · refine mw_iconst (n := 16) (v := -1) dX9_again_15 rfl (by decide) ?_
    exact mw_iret dX9_again_16 rfl rfl
noncomputable def x_X9_openCells_13 (N : Nat) (f : Nat) : Int32 → Int32 → mH → Option (Int32 × mH) :=
  Nat.rec (motive := fun _ => Int32 → Int32 → mH → Option (Int32 × mH)) (fun _ _ _ => none) (fun _ self13 => fun v1 v2 h => 
    (x_X9_cells 85 h).bind fun q1 =>
    if q1 ≤ v2 then
      some (v1, h)
    else
      (x_X9_sure N 85 v2 h).bind fun q3 =>
      mlet (v1 + (if ¬ q3 = (2 : Int32) then (0 : Int32) else (1 : Int32))) fun u5 =>
      self13 u5 (v2 + (1 : Int32)) h) f
theorem x_X9_openCells_13_0 (N : Nat) (v1 : Int32) (v2 : Int32) (h : mH) : x_X9_openCells_13 N 0 v1 v2 h = none := rfl
theorem x_X9_openCells_13_s (N : Nat) (f : Nat) (v1 : Int32) (v2 : Int32) (h : mH) : x_X9_openCells_13 N (f + 1) v1 v2 h = (
    (x_X9_cells 85 h).bind fun q1 =>
    if q1 ≤ v2 then
      some (v1, h)
    else
      (x_X9_sure N 85 v2 h).bind fun q3 =>
      mlet (v1 + (if ¬ q3 = (2 : Int32) then (0 : Int32) else (1 : Int32))) fun u5 =>
      (x_X9_openCells_13 N f) u5 (v2 + (1 : Int32)) h) := rfl
set_option maxRecDepth 20000 in
set_option maxHeartbeats 4000000 in
theorem b_X9_openCells_13 {g : mG} {l : Launch} (hg : mnn g = 101) (N : Nat) (f : Nat) : ∀ (v1 : Int32) (v2 : Int32) (h : mH), mw g l 4 mX9_openCells (fun r : Int32 × mH => (some (Value.int r.1), r.2)) 13 [(0, .ref (mad g 82)), (1, .int v1), (2, .int v2)] [] h (x_X9_openCells_13 N f v1 v2 h) := by
  induction f with
  | zero => intros; exact mw_none
  | succ f hself13 =>
    intro v1 v2 h
    refine mw_eq (x_X9_openCells_13_s N f v1 v2 h) ?_
    generalize x_X9_openCells_13 N f = self13 at hself13 ⊢
    refine mw_iload_n (n := 14) (q := 2) dX9_openCells_13 rfl rfl rfl ?_
    refine mw_aload_n (n := 15) (q := 0) dX9_openCells_14 rfl rfl rfl ?_
    refine mw_getr (n := 18) (a := 82) (k := 4) cl9 (mkm hg (by decide) (by rfl)) (by decide) rfl rfl fl_X9_16 dX9_openCells_15 rfl ?_
    refine mw_callS (n := 21) (As := [.ref (mad g 85)]) (t_X9_cells hg 85 (mkm hg (by decide) (by rfl)) h) (by decide) ok_X9_cells rfl lk_X9_69 sm_X9_cells dX9_openCells_18 rfl rfl (Nat.le_of_ble_eq_true rfl) (fun q1 _ => ?_)
    show mw g l _ _ _ 21 _ [.int q1, .int v2] h _
    refine mw_icmp_ge (n := 24) (t := 51) dX9_openCells_21 rfl (by decide) Iff.rfl (fun c2 => ?_) (fun c2 => ?_)
    · refine mw_iload_n (n := 52) (q := 1) dX9_openCells_51 rfl rfl rfl ?_
      exact mw_iret dX9_openCells_52 rfl rfl
    · refine mw_iload_n (n := 25) (q := 1) dX9_openCells_24 rfl rfl rfl ?_
      refine mw_aload_n (n := 26) (q := 0) dX9_openCells_25 rfl rfl rfl ?_
      refine mw_aload_n (n := 27) (q := 0) dX9_openCells_26 rfl rfl rfl ?_
      refine mw_getr (n := 30) (a := 82) (k := 4) cl9 (mkm hg (by decide) (by rfl)) (by decide) rfl rfl fl_X9_16 dX9_openCells_27 rfl ?_
      refine mw_iload_n (n := 31) (q := 2) dX9_openCells_30 rfl rfl rfl ?_
      refine mw_callV (n := 34) (a := 82) (As := [.ref (mad g 85), .int v2]) cl9 (mkm hg (by decide) (by rfl)) (t_X9_sure hg N 85 v2 (mkm hg (by decide) (by rfl)) h) (by decide) ok_X9_sure rfl rfl lk_X9_179 im_X9_sure se_X9_sure dX9_openCells_31 rfl rfl (Nat.le_of_ble_eq_true rfl) (fun q3 _ => ?_)
      show mw g l _ _ _ 34 _ [.int q3, .int v1] h _
      refine mw_iconst (n := 35) (v := 2) dX9_openCells_34 rfl (by decide) ?_
      refine mw_cutJ (pc' := 43) (lv' := [(0, .ref (mad g 82)), (1, .int v1), (2, .int v2)]) (st' := [.int (if ¬ q3 = (2 : Int32) then (0 : Int32) else (1 : Int32)), .int v1]) (fun J => ?_) ?_
      · refine mw_icmp_ne_m (n := 38) (t := 42) dX9_openCells_35 rfl (by decide) (fun c4 => ?_) (fun c4 => ?_)
        · refine mw_iconst (n := 43) (v := 0) dX9_openCells_42 rfl (by decide) ?_
          exact mw_topeq (if_pos c4).symm J
        · refine mw_iconst (n := 39) (v := 1) dX9_openCells_38 rfl (by decide) ?_
          refine mw_goto (n := 43) dX9_openCells_39 (by decide) ?_
          exact mw_topeq (if_neg c4).symm J
      refine mw_iadd (n := 44) dX9_openCells_43 rfl ?_
      refine mw_letI (fun u5 => ?_)
      refine mw_istore_n (n := 45) dX9_openCells_44 rfl rfl (by decide) rfl ?_
      refine mw_iinc (n := 48) (q := 2) (v := (v2 + (1 : Int32))) dX9_openCells_45 rfl rfl rfl (by decide) rfl ?_
      refine mw_goto (n := 13) dX9_openCells_48 (by decide) ?_
      refine mw_sub [2, 1, 0] rfl ?_
      exact hself13 u5 (v2 + (1 : Int32)) h
noncomputable def x_X9_openCells (N : Nat) (h : mH) : Option (Int32 × mH) :=
  (x_X9_list N 85 (1 : Int32) h).bind fun q1 =>
  x_X9_openCells_13 N N (0 : Int32) (0 : Int32) q1
set_option maxRecDepth 20000 in
set_option maxHeartbeats 4000000 in
theorem t_X9_openCells {g : mG} {l : Launch} (hg : mnn g = 101) (N : Nat) (h : mH) : mf g l 4 mX9_openCells (fun r : Int32 × mH => (some (Value.int r.1), r.2)) [.ref (mad g 82)] h (x_X9_openCells N h) := by
  refine mf_of (by decide) (Nat.le_of_ble_eq_true rfl) ?_
  show mw g l 4 mX9_openCells (fun r : Int32 × mH => (some (Value.int r.1), r.2)) 0 [(0, .ref (mad g 82))] [] h _
  unfold x_X9_openCells
  refine mw_aload_n (n := 1) (q := 0) dX9_openCells_0 rfl rfl rfl ?_
  refine mw_aload_n (n := 2) (q := 0) dX9_openCells_1 rfl rfl rfl ?_
  refine mw_getr (n := 5) (a := 82) (k := 4) cl9 (mkm hg (by decide) (by rfl)) (by decide) rfl rfl fl_X9_16 dX9_openCells_2 rfl ?_
  refine mw_iconst (n := 6) (v := 1) dX9_openCells_5 rfl (by decide) ?_
  refine mw_callV (n := 9) (a := 82) (As := [.ref (mad g 85), .int (1 : Int32)]) cl9 (mkm hg (by decide) (by rfl)) (t_X9_list hg N 85 (1 : Int32) (mkm hg (by decide) (by rfl)) h) (by decide) ok_X9_list rfl rfl lk_X9_122 im_X9_list se_X9_list dX9_openCells_6 rfl rfl (Nat.le_of_ble_eq_true rfl) (fun q1 _ => ?_)
  show mw g l _ _ _ 9 _ [] q1 _
  refine mw_iconst (n := 10) (v := 0) dX9_openCells_9 rfl (by decide) ?_
  refine mw_istore_n (n := 11) dX9_openCells_10 rfl rfl (by decide) rfl ?_
  refine mw_iconst (n := 12) (v := 0) dX9_openCells_11 rfl (by decide) ?_
  refine mw_istore_n (n := 13) dX9_openCells_12 rfl rfl (by decide) rfl ?_
  refine mw_sub [2, 1, 0] rfl ?_
  exact b_X9_openCells_13 hg N N (0 : Int32) (0 : Int32) q1
noncomputable def x_X9_count_65 (N : Nat) (v1 : Int32) (h : mH) : Option (Int32 × mH) :=
  mck (v1 - (1 : Int32)) 32 <|
  some ((mgi h 85 ((v1 - (1 : Int32))).toNatClampNeg), h)
set_option maxRecDepth 20000 in
set_option maxHeartbeats 4000000 in
theorem b_X9_count_65 {g : mG} {l : Launch} (hg : mnn g = 101) (N : Nat) (v1 : Int32) (h : mH) : mw g l 5 mX9_count (fun r : Int32 × mH => (some (Value.int r.1), r.2)) 65 [(0, .ref (mad g 82)), (1, .int v1)] [] h (x_X9_count_65 N v1 h) := by
  unfold x_X9_count_65
  refine mw_aload_n (n := 66) (q := 0) dX9_count_65 rfl rfl rfl ?_
  refine mw_getr (n := 69) (a := 82) (k := 4) cl9 (mkm hg (by decide) (by rfl)) (by decide) rfl rfl fl_X9_16 dX9_count_66 rfl ?_
  refine mw_iload_n (n := 70) (q := 1) dX9_count_69 rfl rfl rfl ?_
  refine mw_iconst (n := 71) (v := 1) dX9_count_70 rfl (by decide) ?_
  refine mw_isub (n := 72) dX9_count_71 rfl ?_
  refine mw_iald (n := 73) (a := 85) (N := 32) (mkm hg (by decide) (by rfl)) dX9_count_72 rfl ?_
  exact mw_iret dX9_count_73 rfl rfl
noncomputable def x_X9_count (N : Nat) (p0 : Int32) (h : mH) : Option (Int32 × mH) :=
  mlet (msi h 82 0 (0 : Int32)) fun h1 =>
  if p0 = (0 : Int32) then
    some ((mgi h1 82 2), h1)
  else if p0 = (1 : Int32) then
    x_X9_count_65 N p0 h1
  else if p0 = (2 : Int32) then
    x_X9_count_65 N p0 h1
  else if p0 = (3 : Int32) then
    (x_X9_pinned N 85 h1).bind fun q6 =>
    some (q6, h1)
  else if p0 = (4 : Int32) then
    if ¬ (mgi h1 85 31) = (-9 : Int32) then
      (x_X9_ones N (mgi h1 85 31)).bind fun q9 =>
      some (q9, h1)
    else
      some ((0 : Int32), h1)
  else if p0 = (5 : Int32) then
    (x_X9_openCells N h1).bind fun q11 =>
    some (q11.1, q11.2)
  else if p0 = (6 : Int32) then
    some ((mgi h1 82 7), h1)
  else if p0 = (7 : Int32) then
    some ((mgi h1 82 10), h1)
  else if p0 = (8 : Int32) then
    (x_X9_sum N 85 (2 : Int32) (mgi h1 85 0) h1).bind fun q15 =>
    some (q15, h1)
  else if p0 = (9 : Int32) then
    (x_X9_sum N 85 (6 : Int32) (mgi h1 85 1) h1).bind fun q17 =>
    some (q17, h1)
  else some ((-2 : Int32), h1)
set_option maxRecDepth 20000 in
set_option maxHeartbeats 4000000 in
theorem t_X9_count {g : mG} {l : Launch} (hg : mnn g = 101) (N : Nat) (p0 : Int32) (h : mH) : mf g l 5 mX9_count (fun r : Int32 × mH => (some (Value.int r.1), r.2)) [.ref (mad g 82), .int p0] h (x_X9_count N p0 h) := by
  refine mf_of (by decide) (Nat.le_of_ble_eq_true rfl) ?_
  show mw g l 5 mX9_count (fun r : Int32 × mH => (some (Value.int r.1), r.2)) 0 [(0, .ref (mad g 82)), (1, .int p0)] [] h _
  unfold x_X9_count
  refine mw_aload_n (n := 1) (q := 0) dX9_count_0 rfl rfl rfl ?_
  refine mw_iconst (n := 2) (v := 0) dX9_count_1 rfl (by decide) ?_
  refine mw_puti (n := 5) (a := 82) (k := 0) cl9 ct9 (mkm hg (by decide) (by rfl)) (by decide) rfl rfl rfl rfl fl_X9_65 dX9_count_2 rfl (mw_leth (fun h1 => ?_))
  refine mw_iload_n (n := 6) (q := 1) dX9_count_5 rfl rfl rfl ?_
  refine mw_tcase (v := 0) (t := 60) dX9_count_6 (by decide) (by decide) rfl (by decide) (fun c2 => ?_) (fun c2 => ?_)
  · refine mw_aload_n (n := 61) (q := 0) dX9_count_60 rfl rfl rfl ?_
    refine mw_geti (n := 64) (a := 82) (k := 2) cl9 (mkm hg (by decide) (by rfl)) (by decide) rfl rfl fl_X9_83 dX9_count_61 rfl ?_
    exact mw_iret dX9_count_64 rfl rfl
  refine mw_tcase (v := 1) (t := 65) dX9_count_6 (by decide) (by decide) rfl (by decide) (fun c3 => ?_) (fun c3 => ?_)
  · exact b_X9_count_65 hg N p0 h1
  refine mw_tcase (v := 2) (t := 65) dX9_count_6 (by decide) (by decide) rfl (by decide) (fun c4 => ?_) (fun c4 => ?_)
  · exact b_X9_count_65 hg N p0 h1
  refine mw_tcase (v := 3) (t := 74) dX9_count_6 (by decide) (by decide) rfl (by decide) (fun c5 => ?_) (fun c5 => ?_)
  · refine mw_aload_n (n := 75) (q := 0) dX9_count_74 rfl rfl rfl ?_
    refine mw_getr (n := 78) (a := 82) (k := 4) cl9 (mkm hg (by decide) (by rfl)) (by decide) rfl rfl fl_X9_16 dX9_count_75 rfl ?_
    refine mw_callS (n := 81) (As := [.ref (mad g 85)]) (t_X9_pinned hg N 85 (mkm hg (by decide) (by rfl)) h1) (by decide) ok_X9_pinned rfl lk_X9_86 sm_X9_pinned dX9_count_78 rfl rfl (Nat.le_of_ble_eq_true rfl) (fun q6 _ => ?_)
    show mw g l _ _ _ 81 _ [.int q6] h1 _
    exact mw_iret dX9_count_81 rfl rfl
  refine mw_tcase (v := 4) (t := 82) dX9_count_6 (by decide) (by decide) rfl (by decide) (fun c7 => ?_) (fun c7 => ?_)
  · refine mw_aload_n (n := 83) (q := 0) dX9_count_82 rfl rfl rfl ?_
    refine mw_getr (n := 86) (a := 82) (k := 4) cl9 (mkm hg (by decide) (by rfl)) (by decide) rfl rfl fl_X9_16 dX9_count_83 rfl ?_
    refine mw_bipush (n := 88) (v := 31) dX9_count_86 rfl (by decide) ?_
    refine mw_iaLd (n := 89) (a := 85) (j := 31) (N := 32) (mkm hg (by decide) (by rfl)) (by decide) (by decide) dX9_count_88 rfl ?_
    refine mw_bipush (n := 91) (v := -9) dX9_count_89 rfl (by decide) ?_
    refine mw_icmp_ne (n := 94) (t := 98) dX9_count_91 rfl (by decide) Iff.rfl (fun c8 => ?_) (fun c8 => ?_)
    · refine mw_aload_n (n := 99) (q := 0) dX9_count_98 rfl rfl rfl ?_
      refine mw_getr (n := 102) (a := 82) (k := 4) cl9 (mkm hg (by decide) (by rfl)) (by decide) rfl rfl fl_X9_16 dX9_count_99 rfl ?_
      refine mw_bipush (n := 104) (v := 31) dX9_count_102 rfl (by decide) ?_
      refine mw_iaLd (n := 105) (a := 85) (j := 31) (N := 32) (mkm hg (by decide) (by rfl)) (by decide) (by decide) dX9_count_104 rfl ?_
      refine mw_callS (n := 108) (As := [.int (mgi h1 85 31)]) (t_X9_ones hg N (mgi h1 85 31) h1) (by decide) ok_X9_ones rfl lk_X9_105 sm_X9_ones dX9_count_105 rfl rfl (Nat.le_of_ble_eq_true rfl) (fun q9 _ => ?_)
      show mw g l _ _ _ 108 _ [.int q9] h1 _
      exact mw_iret dX9_count_108 rfl rfl
    · refine mw_iconst (n := 95) (v := 0) dX9_count_94 rfl (by decide) ?_
      refine mw_goto (n := 108) dX9_count_95 (by decide) ?_
      exact mw_iret dX9_count_108 rfl rfl
  refine mw_tcase (v := 5) (t := 109) dX9_count_6 (by decide) (by decide) rfl (by decide) (fun c10 => ?_) (fun c10 => ?_)
  · refine mw_aload_n (n := 110) (q := 0) dX9_count_109 rfl rfl rfl ?_
    refine mw_callV (n := 113) (a := 82) (As := []) cl9 (mkm hg (by decide) (by rfl)) (t_X9_openCells hg N h1) (by decide) ok_X9_openCells rfl rfl lk_X9_283 im_X9_openCells se_X9_openCells dX9_count_110 rfl rfl (Nat.le_of_ble_eq_true rfl) (fun q11 _ => ?_)
    show mw g l _ _ _ 113 _ [.int q11.1] q11.2 _
    exact mw_iret dX9_count_113 rfl rfl
  refine mw_tcase (v := 6) (t := 114) dX9_count_6 (by decide) (by decide) rfl (by decide) (fun c12 => ?_) (fun c12 => ?_)
  · refine mw_aload_n (n := 115) (q := 0) dX9_count_114 rfl rfl rfl ?_
    refine mw_geti (n := 118) (a := 82) (k := 7) cl9 (mkm hg (by decide) (by rfl)) (by decide) rfl rfl fl_X9_137 dX9_count_115 rfl ?_
    exact mw_iret dX9_count_118 rfl rfl
  refine mw_tcase (v := 7) (t := 119) dX9_count_6 (by decide) (by decide) rfl (by decide) (fun c13 => ?_) (fun c13 => ?_)
  · refine mw_aload_n (n := 120) (q := 0) dX9_count_119 rfl rfl rfl ?_
    refine mw_geti (n := 123) (a := 82) (k := 10) cl9 (mkm hg (by decide) (by rfl)) (by decide) rfl rfl fl_X9_250 dX9_count_120 rfl ?_
    exact mw_iret dX9_count_123 rfl rfl
  refine mw_tcase (v := 8) (t := 124) dX9_count_6 (by decide) (by decide) rfl (by decide) (fun c14 => ?_) (fun c14 => ?_)
  · refine mw_aload_n (n := 125) (q := 0) dX9_count_124 rfl rfl rfl ?_
    refine mw_getr (n := 128) (a := 82) (k := 4) cl9 (mkm hg (by decide) (by rfl)) (by decide) rfl rfl fl_X9_16 dX9_count_125 rfl ?_
    refine mw_iconst (n := 129) (v := 2) dX9_count_128 rfl (by decide) ?_
    refine mw_aload_n (n := 130) (q := 0) dX9_count_129 rfl rfl rfl ?_
    refine mw_getr (n := 133) (a := 82) (k := 4) cl9 (mkm hg (by decide) (by rfl)) (by decide) rfl rfl fl_X9_16 dX9_count_130 rfl ?_
    refine mw_iconst (n := 134) (v := 0) dX9_count_133 rfl (by decide) ?_
    refine mw_iaLd (n := 135) (a := 85) (j := 0) (N := 32) (mkm hg (by decide) (by rfl)) (by decide) (by decide) dX9_count_134 rfl ?_
    refine mw_callS (n := 138) (As := [.ref (mad g 85), .int (2 : Int32), .int (mgi h1 85 0)]) (t_X9_sum hg N 85 (2 : Int32) (mgi h1 85 0) (mkm hg (by decide) (by rfl)) h1) (by decide) ok_X9_sum rfl lk_X9_150 sm_X9_sum dX9_count_135 rfl rfl (Nat.le_of_ble_eq_true rfl) (fun q15 _ => ?_)
    show mw g l _ _ _ 138 _ [.int q15] h1 _
    exact mw_iret dX9_count_138 rfl rfl
  refine mw_tcase (v := 9) (t := 139) dX9_count_6 (by decide) (by decide) rfl (by decide) (fun c16 => ?_) (fun c16 => ?_)
  · refine mw_aload_n (n := 140) (q := 0) dX9_count_139 rfl rfl rfl ?_
    refine mw_getr (n := 143) (a := 82) (k := 4) cl9 (mkm hg (by decide) (by rfl)) (by decide) rfl rfl fl_X9_16 dX9_count_140 rfl ?_
    refine mw_bipush (n := 145) (v := 6) dX9_count_143 rfl (by decide) ?_
    refine mw_aload_n (n := 146) (q := 0) dX9_count_145 rfl rfl rfl ?_
    refine mw_getr (n := 149) (a := 82) (k := 4) cl9 (mkm hg (by decide) (by rfl)) (by decide) rfl rfl fl_X9_16 dX9_count_146 rfl ?_
    refine mw_iconst (n := 150) (v := 1) dX9_count_149 rfl (by decide) ?_
    refine mw_iaLd (n := 151) (a := 85) (j := 1) (N := 32) (mkm hg (by decide) (by rfl)) (by decide) (by decide) dX9_count_150 rfl ?_
    refine mw_callS (n := 154) (As := [.ref (mad g 85), .int (6 : Int32), .int (mgi h1 85 1)]) (t_X9_sum hg N 85 (6 : Int32) (mgi h1 85 1) (mkm hg (by decide) (by rfl)) h1) (by decide) ok_X9_sum rfl lk_X9_150 sm_X9_sum dX9_count_151 rfl rfl (Nat.le_of_ble_eq_true rfl) (fun q17 _ => ?_)
    show mw g l _ _ _ 154 _ [.int q17] h1 _
    exact mw_iret dX9_count_154 rfl rfl
  refine mw_tdef (t := 155) dX9_count_6 (by have e0 : p0.toInt ≠ 0 := sw_ne c2 (by decide); have e1 : p0.toInt ≠ 1 := sw_ne c3 (by decide); have e2 : p0.toInt ≠ 2 := sw_ne c4 (by decide); have e3 : p0.toInt ≠ 3 := sw_ne c5 (by decide); have e4 : p0.toInt ≠ 4 := sw_ne c7 (by decide); have e5 : p0.toInt ≠ 5 := sw_ne c10 (by decide); have e6 : p0.toInt ≠ 6 := sw_ne c12 (by decide); have e7 : p0.toInt ≠ 7 := sw_ne c13 (by decide); have e8 : p0.toInt ≠ 8 := sw_ne c14 (by decide); have e9 : p0.toInt ≠ 9 := sw_ne c16 (by decide); omega) (by decide) ?_
  refine mw_bipush (n := 157) (v := -2) dX9_count_155 rfl (by decide) ?_
  exact mw_iret dX9_count_157 rfl rfl
